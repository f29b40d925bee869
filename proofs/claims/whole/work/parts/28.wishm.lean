/-! fault, wish: the reference -/
theorem c_mono {k : mI} {as : List mV} {M : mM} {Q Q' : Int → mM → Prop} (h : C_ k as M Q) (hq : ∀ r M', Q r M' → Q' r M') : C_ k as M Q' := by
  intro h1 h2 l D cI cB cA ad b sz
  have hm := h h1 h2 l D cI cB cA ad b sz
  obtain ⟨y, cc, nL, ret, fr, lo, sc⟩ := k
  cases ret with
  | none =>
    refine MetFree.mono hm (fun _ _ z => z) (fun _ _ _ _ _ z => z) ?_
    rintro a st o t - ⟨⟨⟨u, e1, ⟨e2, e3⟩, e4⟩, e5⟩, e6⟩
    exact ⟨⟨⟨u, e1, ⟨e2, hq _ _ e3⟩, e4⟩, e5⟩, e6⟩
  | some ty =>
    refine MetFree.mono hm (fun _ _ z => z) (fun _ _ _ _ _ z => z) ?_
    rintro a st o t - ⟨⟨⟨r, u, e1, ⟨z, e2, e3, e4, e5⟩, e6⟩, e7⟩, e8⟩
    exact ⟨⟨⟨r, u, e1, ⟨z, e2, e3, e4, hq _ _ e5⟩, e6⟩, e7⟩, e8⟩
theorem q_next {c : Nat} {s s' : P5} (ho : p_ok s) (h : p_step c s = some s') : (q_ms s' = 0 ∧ q_la s' = 0 ∧ s'.2.2.2.2 = s.2.2.2.2 + 1) ∨ (q_ms s' = 2 ∧ q_la s' = c ∧ s'.2.2.2.2 = s.2.2.2.2) ∨ (¬ q_ms s' = 0 ∧ ¬ q_ms s' = 2 ∧ q_la s' = q_la s ∧ s'.2.2.2.2 = s.2.2.2.2) := by
  obtain ⟨aw, ns, mn, dg, al⟩ := s
  rw [p_step_eq] at h
  by_cases e1 : aw = 1
  · rw [if_pos e1] at h
    split at h
    · rename_i hc
      cases h
      refine Or.inr (Or.inl ⟨rfl, ?_, rfl⟩)
      unfold q_la
      dsimp only
      rw [if_neg (by omega)]
      omega
    · cases h
  · rw [if_neg e1] at h
    by_cases e2 : aw = 2 ∧ c = 61
    · rw [if_pos e2] at h
      cases h
      refine Or.inr (Or.inr ⟨?_, ?_, rfl, rfl⟩) <;> (unfold q_ms; simp)
    · rw [if_neg e2] at h
      by_cases e3 : aw = 0 ∨ aw = 2
      · rw [if_pos e3] at h
        split at h
        · cases h
          refine Or.inr (Or.inr ⟨?_, ?_, rfl, rfl⟩) <;> (unfold q_ms; simp)
        · cases h
      · rw [if_neg e3] at h
        by_cases e4 : aw = 4 ∧ c = 124
        · rw [if_pos e4] at h
          split at h
          · cases h
            exact Or.inl ⟨rfl, rfl, rfl⟩
          · cases h
        · rw [if_neg e4] at h
          split at h
          · cases h
            refine Or.inr (Or.inr ⟨?_, ?_, rfl, rfl⟩)
            · unfold q_ms
              dsimp only
              rw [if_neg (by decide)]
              omega
            · unfold q_ms
              dsimp only
              rw [if_neg (by decide)]
              omega
          · cases h
theorem km_fault0 {σ : St} {M : mM} (hw : Wf σ) (h : MR σ M) : C_ kk_X11_fault [v_P 79] M (fun r M' => M' = M ∧ r = n_fault σ) := by
  obtain ⟨-, -, -, -, -, -, h1, h2, -⟩ := h
  have hn := hw.2.2.2.2.2.2.2.2.2.2.1
  have hcode := hw.2.2.2.2.2.2.2.2.2.2.2
  refine c_intro (by decide) rfl (Nat.le_of_ble_eq_true rfl) (by simp [m_dv, Value.category]) (wp_X11_fault_0 ?_)
  have loop : ∀ m i s, i + m = σ 17 0 → p_run σ i = some s → X_ kk_X11_fault 9 [v_P 79, v_I (q_ms s : Int), v_I (q_la s : Int), v_I ((s.2.2.2.2 + 1 : Nat) : Int), v_I (i : Int), v_U] [] M (fun r M' => M' = M ∧ r = n_fl σ m i) := by
    intro m
    induction m with
    | zero =>
      intro i s hi hr
      have hok := (p_run_ok hr).1
      refine wp_X11_fault_9 ⟨fun _ => ?_, fun q => absurd q (by rw [h1]; omega)⟩
      rw [h1]
      obtain ⟨aw, ns, mn, dg, al⟩ := s
      obtain ⟨o1, o2, o3, o4, o5, o6, o7⟩ := hok
      have e1 : q_ms (aw, ns, mn, dg, al) = if aw ≤ 3 then aw else 3 + dg := rfl
      have e2 : n_fl σ 0 i = if aw = 4 then -6 else (i : Int) := by
        rw [n_fl, hr]
      rw [e1, e2]
      by_cases z : aw ≤ 3
      · rw [if_pos z, if_neg (by omega)]
        exact ⟨fun _ => ⟨rfl, by omega⟩, fun q => absurd q (by omega)⟩
      · rw [if_neg z, if_pos (by omega)]
        have := o7 (by omega)
        exact ⟨fun q => absurd q (by omega), fun _ => ⟨rfl, rfl⟩⟩
    | succ m ih =>
      intro i s hi hr
      have hok := (p_run_ok hr).1
      have hal : s.2.2.2.2 ≤ 5 := by obtain ⟨aw, ns, mn, dg, al⟩ := s; exact hok.2.2.1
      refine wp_X11_fault_9 ⟨fun q => absurd q (by rw [h1]; omega), fun _ => ⟨by omega, ?_⟩⟩
      rw [Int.toNat_natCast, h2 i (by omega)]
      refine ⟨_, km_stepOf hok, fun r3 M4 _ _ e4 => ?_⟩
      obtain ⟨rfl, ⟨p1, rfl⟩ | ⟨s', p1, rfl⟩⟩ := e4
      · refine ⟨fun q => absurd q (by decide), fun _ => ⟨rfl, ?_⟩⟩
        rw [n_fl, p_run_s hr, p1]
      · have hr' : p_run σ (i + 1) = some s' := by rw [p_run_s hr, p1]
        have nx := ih (i + 1) s' (by omega) hr'
        have e : n_fl σ (m + 1) i = n_fl σ m (i + 1) := by rw [n_fl, hr']
        rw [← e] at nx
        have i1 : m_ir ((i : Int) + 1) := ⟨by omega, by omega⟩
        have z0 : ((s.2.2.2.2 + 1 : Nat) : Int) + 0 = ((s.2.2.2.2 + 1 : Nat) : Int) := by omega
        refine ⟨fun _ => ?_, fun q => absurd q (by omega)⟩
        rcases q_next hok p1 with ⟨a1, a2, a3⟩ | ⟨a1, a2, a3⟩ | ⟨a1, a1', a2, a3⟩
        · rw [a1, a2, a3] at nx
          rw [a1]
          exact ⟨fun q => absurd rfl q, fun _ => ⟨fun q => absurd rfl q, fun _ => ⟨⟨by omega, by omega⟩, i1, nx⟩⟩⟩
        · rw [a1, a2, a3] at nx
          rw [a1, z0]
          exact ⟨fun _ => ⟨fun q => absurd rfl q, fun _ => ⟨fun _ => ⟨⟨by omega, by omega⟩, i1, nx⟩, fun q => absurd q (by decide)⟩⟩, fun q => absurd q (by decide)⟩
        · rw [a2, a3] at nx
          rw [z0]
          exact ⟨fun _ => ⟨fun _ => ⟨fun _ => ⟨⟨by omega, by omega⟩, i1, nx⟩, fun q => absurd q (by omega)⟩, fun q => absurd q (by omega)⟩, fun q => absurd q (by omega)⟩
  exact loop (σ 17 0) 0 _ (by omega) rfl
theorem km_fault {σ : St} {M : mM} (hw : Wf σ) (h : MR σ M) : C_ kk_X11_fault [v_P 79] M (PM (sp_fault σ) M) :=
  c_mono (km_fault0 hw h) (fun r M' e => ⟨e.2, by rw [e.1]; exact h, by rw [e.1]; exact Fm_rfl⟩)
theorem p_some {σ : St} : ∀ {n i : Nat} {s : P5}, p_run σ n = some s → i ≤ n → ∃ s', p_run σ i = some s'
  | 0, i, s, h, hi => ⟨s, by rw [show i = 0 by omega]; exact h⟩
  | n + 1, i, s, h, hi => by
    by_cases e : i = n + 1
    · exact ⟨s, by rw [e]; exact h⟩
    · cases hr : p_run σ n with
      | none => rw [p_run, hr] at h; cases h
      | some s1 => exact p_some hr (by omega)
/-- the wishes' rows of the reference, as far as the signs are read -/
def WQ (σ : St) (b i : Nat) (M M' : mM) : Prop := (∀ a, a < 6 → M' 89 (6 * b + a) = p_num σ i a ∧ ∀ t, t < 5 → M' 88 (5 * (6 * b + a) + t) = p_wan σ i a t) ∧ (∀ k, k < 6 * b ∨ 6 * b + 6 ≤ k → M' 89 k = M 89 k) ∧ (∀ k, k < 30 * b ∨ 30 * b + 30 ≤ k → M' 88 k = M 88 k) ∧ ∀ p, p ≠ 88 → p ≠ 89 → M' p = M p
theorem km_wish {σ : St} {M : mM} {b : Int} (hw : Wf σ) (h : MR σ M) : C_ kk_X11_wish [v_P 79, v_I b] M (PM (sp_wish σ b) M) := by
  have h3 := h.2.2.1
  have hnb := hw.2.2.2.1
  have hn := hw.2.2.2.2.2.2.2.2.2.2.1
  have hcode := hw.2.2.2.2.2.2.2.2.2.2.2
  refine c_intro (by decide) rfl (Nat.le_of_ble_eq_true rfl) (by simp [m_dv, Value.category]) (wp_X11_wish_0 ?_)
  rw [h3]
  refine ⟨by omega, fun q => ⟨_, km_fault0 hw h, fun r2 M3 _ _ e3 => ?_⟩, fun q => ?_⟩
  · obtain ⟨rfl, rfl⟩ := e3
    refine ⟨fun q2 => ?_, fun q2 => ?_⟩
    · have hf : n_fault σ = -6 := by
        rcases n_fl_ge (σ := σ) (m := σ 17 0) (i := 0) with z | z
        · exact z
        · exact absurd q2 (by unfold n_fault; omega)
      obtain ⟨sN, hrN, -⟩ := n_fl_end (m := σ 17 0) (i := 0) hf
      rw [Nat.zero_add] at hrN
      obtain ⟨b', rfl⟩ := nat_of q.1
      have hb6 : b' < 6 := by omega
      refine ⟨⟨by omega, by omega⟩, ?_⟩
      unfold sp_wish
      rw [if_neg (by omega), if_neg (by rw [hf]; exact fun z => z rfl), Int.toNat_natCast]
      have e6 : (6 : Int) * (b' : Int) = ((6 * b' : Nat) : Int) := by omega
      rw [e6]
      -- the third loop
      have L3 : ∀ m i s M', i + m = σ 17 0 → p_run σ i = some s → WQ σ b' i M3 M' → ∀ x3 : Int, m_ir x3 → (s.1 = 1 → x3 = s.2.2.1) → X_ kk_X11_wish 87 [v_P 79, v_I (b' : Int), v_I ((6 * b' + s.2.2.2.2 : Nat) : Int), v_I x3, v_I (if 3 ≤ s.1 then 1 else 0), v_I (i : Int), v_U] [] M' (PM ((w_al σ : Int), w_st σ b') M3) := by
        intro m
        induction m with
        | zero =>
          intro i s M' hi hr hW x3 hx3 hs3
          obtain ⟨w1, w2, w3, w4⟩ := hW
          have ei : i = σ 17 0 := by omega
          have e1 : M' 79 11 = σ 17 0 := by rw [w4 79 (by decide) (by decide)]; exact h.2.2.2.2.2.2.1
          have hal : w_al σ = s.2.2.2.2 + 1 := by unfold w_al; rw [← ei, hr]
          have hal6 := w_al_le (σ := σ)
          refine wp_X11_wish_87 ⟨fun _ => ?_, fun q => absurd q (by rw [e1]; omega)⟩
          rw [e6, Int.toNat_natCast]
          refine ⟨⟨by omega, by omega⟩, ⟨by omega, by omega⟩, ⟨by omega, by omega⟩, by omega, by omega, fun M6 e6' => ⟨by omega, ?_⟩⟩
          have ev : ((6 * b' + s.2.2.2.2 : Nat) : Int) + 1 - ((6 * b' : Nat) : Int) = (w_al σ : Int) := by omega
          rw [ev] at e6' ⊢
          subst e6'
          have hb9 := fun c (hc : c < 6) => (hw.2.2.2.2.1 c hc).2.2.2.1
          refine ⟨rfl, ?_, ?_⟩
          · show MR (w_st σ b') _
            obtain ⟨g1, g2, g3, g4, g5, g6, g7, g8, g9, g10, g11⟩ := h
            refine ⟨?_, fun j hj => ?_, ?_, ?_, fun b hb => ?_, fun b hb => ?_, ?_, fun i hi => ?_, fun l hl => ?_, ?_, fun d hd => ?_⟩
            · rw [w_row (by decide), up_slot (by decide), up_row (by decide), up_row (by decide), w4 79 (by decide) (by decide)]; exact g1
            · rw [w_row (by decide)] at hj
              rw [w_row (by decide), w_row (by decide), w_row (by decide), w_row (by decide)]
              simp (disch := omega) only [up_row, up_slot, up_hit, su_row, su_slot, su_hit]
              rw [w4 80 (by decide) (by decide), w4 81 (by decide) (by decide), w4 82 (by decide) (by decide), w4 83 (by decide) (by decide)]
              exact g2 j hj
            · rw [w_row (by decide)]; simp (disch := omega) only [up_row, up_slot, up_hit, su_row, su_slot, su_hit]; rw [w4 79 (by decide) (by decide)]; exact g3
            · rw [w_row (by decide)]; simp (disch := omega) only [up_row, up_slot, up_hit, su_row, su_slot, su_hit]; rw [w4 79 (by decide) (by decide)]; exact g4
            · rw [w_row (by decide)] at hb
              rw [w_row (by decide), w_row (by decide), w_row (by decide)]
              simp (disch := omega) only [up_row, up_slot, up_hit, su_row, su_slot, su_hit]
              rw [w4 84 (by decide) (by decide), w4 85 (by decide) (by decide), w4 86 (by decide) (by decide)]
              exact g5 b hb
            · have g := g6 b hb
              by_cases e : b = b'
              · subst e
                rw [w_9, w_12]
                simp (disch := omega) only [up_row, up_slot, up_hit, su_row, su_slot, su_hit]
                refine ⟨trivial, rfl, fun i hi => ?_⟩
                rw [w_10 (by omega)]
                refine ⟨by rw [← ei]; exact (w1 i (by omega)).1, fun t ht => ?_⟩
                rw [w_11 (by omega) ht, ← ei]
                exact (w1 i (by omega)).2 t ht
              · rw [w_9n e, w_12n e]
                simp (disch := omega) only [up_row, up_slot, up_hit, su_row, su_slot, su_hit]
                rw [w4 90 (by decide) (by decide), w4 91 (by decide) (by decide)]
                refine ⟨g.1, g.2.1, fun i hi => ?_⟩
                have := hb9 b hb
                rw [w_10n e (by omega), w2 _ (by omega)]
                refine ⟨(g.2.2 i hi).1, fun t ht => ?_⟩
                rw [w_11n e (by omega) ht, w3 _ (by omega)]
                exact (g.2.2 i hi).2 t ht
            · rw [w_17, up_hit]
              rfl
            · rw [w_17] at hi
              omega
            · rw [w_row (by decide)]; simp (disch := omega) only [up_row, up_slot, up_hit, su_row, su_slot, su_hit]; rw [w4 101 (by decide) (by decide)]; exact g9 l hl
            · rw [w_row (by decide)]; simp (disch := omega) only [up_row, up_slot, up_hit, su_row, su_slot, su_hit]; rw [w4 79 (by decide) (by decide)]; exact g10
            · rw [w_row (by decide)] at hd
              rw [w_row (by decide)]; simp (disch := omega) only [up_row, up_slot, up_hit, su_row, su_slot, su_hit]; rw [w4 108 (by decide) (by decide)]; exact g11 d hd
          · intro p hp
            simp (disch := omega) only [up_row, up_slot, up_hit, su_row, su_slot, su_hit]
            exact w4 p (by omega) (by omega)
        | succ m ih =>
          intro i s M' hi hr hW x3 hx3 hs3
          obtain ⟨w1, w2, w3, w4⟩ := hW
          have e1 : M' 79 11 = σ 17 0 := by rw [w4 79 (by decide) (by decide)]; exact h.2.2.2.2.2.2.1
          have e87 : M' 87 i = σ 18 i := by rw [w4 87 (by decide) (by decide)]; exact h.2.2.2.2.2.2.2.1 i (by omega)
          obtain ⟨s', hr'⟩ := p_some hrN (show i + 1 ≤ σ 17 0 by omega)
          have hst : p_step (σ 18 i) s = some s' := by rw [← p_run_s hr]; exact hr'
          have hok := (p_run_ok hr).1
          have hin := (p_run_ok hr).2
          have hok' := (p_run_ok hr').1
          have hin' := (p_run_ok hr').2
          have hnum := p_num_s hr
          have hwan := p_wan_s hr
          have hc := hcode i (by omega)
          have i1 : m_ir ((i : Int) + 1) := ⟨by omega, by omega⟩
          refine wp_X11_wish_87 ⟨fun q => absurd q (by rw [e1]; omega), fun _ => ⟨by omega, ?_⟩⟩
          rw [Int.toNat_natCast i, e87]
          generalize hcc : σ 18 i = c at hst hnum hwan hc
          obtain ⟨aw, ns, mn, dg, al⟩ := s
          obtain ⟨o1, o2, o3, o4, o5, o6, o7⟩ := hok
          obtain ⟨n1, n2, n3, n4, n5⟩ := hin
          dsimp only at hs3 ⊢
          rw [p_step_eq] at hst
          have same : ∀ (M2 : mM) , (aw ≠ 1) → (p_n1 c (aw, ns, mn, dg, al) (p_num σ i) = p_num σ i) → M2 = M' → WQ σ b' (i + 1) M3 M2 := by
            intro M2 ha hN e
            subst e
            have hWn : p_w1 c (aw, ns, mn, dg, al) (p_wan σ i) = p_wan σ i := by
              funext a t
              unfold p_w1
              rw [if_neg (fun z => ha z.1)]
            rw [hN] at hnum
            rw [hWn] at hwan
            exact ⟨fun a ha => by rw [hnum, hwan]; exact w1 a ha, w2, w3, w4⟩
          by_cases ea : aw = 1
          · subst ea
            rw [if_pos rfl] at hst
            split at hst
            · rename_i hq
              cases hst
              have hmn := o5 rfl
              have hx := hs3 rfl
              refine ⟨fun z => absurd z (by omega), fun _ => ⟨fun _ => ?_, fun z => absurd (by omega) z⟩⟩
              refine ⟨⟨by omega, by omega⟩, ⟨by omega, by omega⟩, ⟨by omega, by omega⟩, by omega, i1, ?_⟩
              refine ih (i + 1) _ _ (by omega) hr' ?_ x3 hx3 (fun z => by dsimp only at z; omega)
              have hN : p_n1 c (1, ns, mn, dg, al) (p_num σ i) = p_num σ i := by
                funext a
                unfold p_n1
                rw [if_neg (fun z => by have := z.1; dsimp only at this; omega)]
              rw [hN] at hnum
              refine ⟨fun a ha => ⟨?_, fun t ht => ?_⟩, fun k hk => ?_, fun k hk => ?_, fun p hp1 hp2 => ?_⟩
              · rw [up_row (by decide), hnum]
                exact (w1 a ha).1
              · rw [hwan]
                unfold p_w1
                dsimp only
                by_cases z : a = al ∧ t = c - 97
                · rw [if_pos ⟨rfl, z.1, z.2⟩, show (5 * ((6 * b' + al : Nat) : Int) + (c : Int) - 97).toNat = 5 * (6 * b' + a) + t by omega, up_hit, hx]
                · rw [if_neg (fun y => z y.2), up_slot (by omega)]
                  exact (w1 a ha).2 t ht
              · rw [up_row (by decide)]
                exact w2 k hk
              · rw [up_slot (by omega)]
                exact w3 k hk
              · rw [up_row hp1]
                exact w4 p hp1 hp2
            · cases hst
          · rw [if_neg ea] at hst
            by_cases eb : aw = 2 ∧ c = 61
            · rw [if_pos eb] at hst
              cases hst
              refine ⟨fun z => absurd z (by omega), fun _ => ⟨fun z => absurd z (by omega), fun _ => ⟨fun z => absurd (by omega) z, fun _ => ⟨⟨by omega, by omega⟩, i1, ?_⟩⟩⟩⟩
              have nx := ih (i + 1) _ M' (by omega) hr' (same M' ea (by
                funext a
                unfold p_n1
                rw [if_neg (fun z => by have := z.1; dsimp only at this; omega)]) rfl) x3 hx3 (fun z => by dsimp only at z; omega)
              dsimp only at nx
              rw [if_pos (by decide : (3 : Nat) ≤ 3)] at nx
              rw [show ((6 * b' + al : Nat) : Int) + 0 = ((6 * b' + al : Nat) : Int) by omega]
              exact nx
            · rw [if_neg eb] at hst
              by_cases ec : aw = 0 ∨ aw = 2
              · rw [if_pos ec] at hst
                split at hst
                · rename_i hq
                  cases hst
                  refine ⟨fun _ => ⟨fun _ => ?_, fun z => absurd (if_neg (by omega)) z⟩, fun z => absurd (by omega) z⟩
                  rw [Int.toNat_natCast]
                  refine ⟨by omega, ⟨by omega, by omega⟩, i1, ?_⟩
                  have hN : p_n1 c (aw, ns, mn, dg, al) (p_num σ i) = p_num σ i := by
                    funext a
                    unfold p_n1
                    rw [if_neg (fun z => by have := z.1; dsimp only at this; omega)]
                  have h0 : p_num σ i al = 0 := by
                    rw [o6 (by omega)] at n4
                    omega
                  have eM : m_up M' 89 (6 * b' + al) 0 = M' := by
                    funext p k
                    by_cases z : p = 89 ∧ k = 6 * b' + al
                    · rw [z.1, z.2, up_hit, (w1 al (by omega)).1, h0]
                      rfl
                    · exact m_up_ne (by omega)
                  rw [eM]
                  have nx := ih (i + 1) _ M' (by omega) hr' (same M' ea hN rfl) ((c : Int) - 48) ⟨by omega, by omega⟩ (fun _ => by dsimp only; omega)
                  dsimp only at nx
                  rw [if_neg (by decide : ¬ (3 : Nat) ≤ 1)] at nx
                  rw [if_neg (by omega : ¬ 3 ≤ aw)]
                  exact nx
                · cases hst
              · rw [if_neg ec] at hst
                by_cases ed : aw = 4 ∧ c = 124
                · rw [if_pos ed] at hst
                  split at hst
                  · rename_i hq
                    cases hst
                    refine ⟨fun z => absurd z (by omega), fun _ => ⟨fun z => absurd z (by omega), fun _ => ⟨fun _ => ⟨⟨by omega, by omega⟩, i1, ?_⟩, fun z => absurd z (by omega)⟩⟩⟩
                    have nx := ih (i + 1) _ M' (by omega) hr' (same M' ea (by
                      funext a
                      unfold p_n1
                      rw [if_neg (fun z => z.2.1 ed.2)]) rfl) x3 hx3 (fun z => by dsimp only at z; omega)
                    dsimp only at nx
                    rw [if_neg (by decide : ¬ (3 : Nat) ≤ 0)] at nx
                    rw [show ((6 * b' + al : Nat) : Int) + 1 = ((6 * b' + (al + 1) : Nat) : Int) by omega]
                    exact nx
                  · cases hst
                · rw [if_neg ed] at hst
                  split at hst
                  · rename_i hq
                    cases hst
                    have hle := n1 al
                    refine ⟨fun _ => ⟨fun z => absurd z (by rw [if_pos (by omega)]; decide), fun _ => ?_⟩, fun z => absurd (by omega) z⟩
                    rw [Int.toNat_natCast, (w1 al (by omega)).1]
                    refine ⟨by omega, ⟨by omega, by omega⟩, ⟨by omega, by omega⟩, ⟨by omega, by omega⟩, by omega, ⟨by omega, by omega⟩, i1, ?_⟩
                    have hWn : p_w1 c (aw, ns, mn, dg, al) (p_wan σ i) = p_wan σ i := by
                      funext a t
                      unfold p_w1
                      rw [if_neg (fun z => ea z.1)]
                    rw [hWn] at hwan
                    have nx := ih (i + 1) _ (m_up M' 89 (6 * b' + al) (10 * (p_num σ i al : Int) + (c : Int) - 48)) (by omega) hr' (by
                      refine ⟨fun a ha => ⟨?_, fun t ht => ?_⟩, fun k hk => ?_, fun k hk => ?_, fun p hp1 hp2 => ?_⟩
                      · rw [hnum]
                        unfold p_n1
                        dsimp only
                        by_cases z : a = al
                        · subst z
                          rw [if_pos ⟨by omega, by omega, rfl⟩, up_hit]
                          omega
                        · rw [if_neg (fun y => z y.2.2), up_slot (by omega)]
                          exact (w1 a ha).1
                      · rw [up_row (by decide), hwan]
                        exact (w1 a ha).2 t ht
                      · rw [up_slot (by omega)]
                        exact w2 k hk
                      · rw [up_row (by decide)]
                        exact w3 k hk
                      · rw [up_row hp2]
                        exact w4 p hp1 hp2) ((c : Int) - 48) ⟨by omega, by omega⟩ (fun z => by dsimp only at z; omega)
                    dsimp only at nx
                    rw [if_pos (by decide : (3 : Nat) ≤ 4)] at nx
                    rw [if_pos (by omega : 3 ≤ aw)]
                    exact nx
                  · cases hst
      -- the second loop
      have L2 : ∀ m i M', i + m = 6 → (∀ k, 30 * b' ≤ k → k < 30 * b' + 30 → M' 88 k = 0) → (∀ k, 6 * b' ≤ k → k < 6 * b' + i → M' 89 k = 0) → (∀ k, k < 6 * b' ∨ 6 * b' + 6 ≤ k → M' 89 k = M3 89 k) → (∀ k, k < 30 * b' ∨ 30 * b' + 30 ≤ k → M' 88 k = M3 88 k) → (∀ p, p ≠ 88 → p ≠ 89 → M' p = M3 p) → X_ kk_X11_wish 61 [v_P 79, v_I (b' : Int), v_I ((6 * b' : Nat) : Int), v_I 0, v_I 0, v_I (i : Int), v_U] [] M' (PM ((w_al σ : Int), w_st σ b') M3) := by
        intro m
        induction m with
        | zero =>
          intro i M' hi z1 z2 z3 z4 z5
          refine wp_X11_wish_61 ⟨fun _ => ?_, fun q => absurd q (by omega)⟩
          exact L3 (σ 17 0) 0 _ M' (by omega) rfl ⟨fun a ha => ⟨z2 _ (by omega) (by omega), fun t ht => z1 _ (by omega) (by omega)⟩, z3, z4, z5⟩ 0 ⟨by omega, by omega⟩ (fun z => by dsimp only at z; omega)
        | succ m ih =>
          intro i M' hi z1 z2 z3 z4 z5
          refine wp_X11_wish_61 ⟨fun q => absurd q (by omega), fun _ => ⟨⟨by omega, by omega⟩, by omega, ⟨by omega, by omega⟩, ?_⟩⟩
          rw [show (((6 * b' : Nat) : Int) + (i : Int)).toNat = 6 * b' + i by omega]
          refine ih (i + 1) _ (by omega) (fun k h1 h2 => by rw [up_row (by decide)]; exact z1 k h1 h2) (fun k h1 h2 => ?_) (fun k hk => by rw [up_slot (by omega)]; exact z3 k hk) (fun k hk => by rw [up_row (by decide)]; exact z4 k hk) (fun p h1 h2 => by rw [up_row h2]; exact z5 p h1 h2)
          by_cases z : k = 6 * b' + i
          · subst z
            exact up_hit
          · rw [up_slot z]
            exact z2 k h1 (by omega)
      -- the first loop
      have L1 : ∀ m i M', i + m = 30 → (∀ k, 30 * b' ≤ k → k < 30 * b' + i → M' 88 k = 0) → (∀ k, k < 30 * b' ∨ 30 * b' + 30 ≤ k → M' 88 k = M3 88 k) → (∀ p, p ≠ 88 → M' p = M3 p) → X_ kk_X11_wish 33 [v_P 79, v_I (b' : Int), v_I ((6 * b' : Nat) : Int), v_I 0, v_I 0, v_I (i : Int), v_U] [] M' (PM ((w_al σ : Int), w_st σ b') M3) := by
        intro m
        induction m with
        | zero =>
          intro i M' hi z1 z2 z3
          refine wp_X11_wish_33 ⟨fun _ => ?_, fun q => absurd q (by omega)⟩
          exact L2 6 0 M' (by omega) (fun k h1 h2 => z1 k h1 (by omega)) (fun k h1 h2 => by omega) (fun k _ => by rw [z3 89 (by decide)]) z2 (fun p h1 _ => z3 p h1)
        | succ m ih =>
          intro i M' hi z1 z2 z3
          refine wp_X11_wish_33 ⟨fun q => absurd q (by omega), fun _ => ⟨⟨by omega, by omega⟩, ⟨by omega, by omega⟩, by omega, ⟨by omega, by omega⟩, ?_⟩⟩
          rw [show (5 * ((6 * b' : Nat) : Int) + (i : Int)).toNat = 30 * b' + i by omega]
          refine ih (i + 1) _ (by omega) (fun k h1 h2 => ?_) (fun k hk => by rw [up_slot (by omega)]; exact z2 k hk) (fun p h1 => by rw [up_row h1]; exact z3 p h1)
          by_cases z : k = 30 * b' + i
          · subst z
            exact up_hit
          · rw [up_slot z]
            exact z1 k h1 (by omega)
      exact L1 30 0 M3 (by omega) (fun k h1 h2 => by omega) (fun _ _ => rfl) (fun _ _ => rfl)
    · unfold sp_wish
      rw [if_neg (by omega), if_pos (fun z => q2 (by rw [z]; decide))]
      exact PM_same h
  · unfold sp_wish
    rw [if_pos q]
    exact PM_same h
