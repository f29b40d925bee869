/-! Wf2 behind every call; what is kept of ORDERS and BREAK -/
theorem Wf2_of {σ τ : St} (h9 : τ 9 = σ 9) (h11 : τ 11 = σ 11) (h : Wf2 σ) : Wf2 τ := by
  intro b i hb hi
  rw [h9] at hi
  have := h b i hb hi
  unfold n_need at this ⊢
  rw [h11]
  exact this
theorem v2_lot {σ : St} {a b c : Int} (h : Wf2 σ) : Wf2 (sp_lot σ a b c).2 := by
  unfold sp_lot
  split
  · exact h
  · split
    · exact h
    · exact Wf2_of (by simp (disch := omega) only [up_row, up_slot, up_hit, su_row, su_slot, su_hit]) (by simp (disch := omega) only [up_row, up_slot, up_hit, su_row, su_slot, su_hit]) h
theorem v2_buyer {σ : St} (h : Wf2 σ) : Wf2 (sp_buyer σ).2 := by
  unfold sp_buyer
  split
  · exact h
  · exact Wf2_of (by simp (disch := omega) only [up_row, up_slot, up_hit, su_row, su_slot, su_hit]) (by simp (disch := omega) only [up_row, up_slot, up_hit, su_row, su_slot, su_hit]) h
theorem v2_set {σ : St} {b w v : Int} (h : Wf2 σ) : Wf2 (sp_set σ b w v).2 := by
  by_cases h1 : ¬ (0 ≤ b ∧ b < σ 5 0)
  · rw [show sp_set σ b w v = (-1, σ) by unfold sp_set; rw [if_pos h1]]
    exact h
  · by_cases h2 : w < 0 ∨ 2 < w ∨ v < 0 ∨ (if w = 0 then 1000 else 99) < v
    · rw [show sp_set σ b w v = (-2, σ) by unfold sp_set; rw [if_neg h1, if_pos h2]]
      exact h
    · rw [show sp_set σ b w v = ((σ (6 + w.toNat) b.toNat : Int), s_up σ (6 + w.toNat) b.toNat v.toNat) by unfold sp_set; rw [if_neg h1, if_neg h2]]
      have h3 : ¬ w < 0 ∧ ¬ 2 < w := ⟨fun z => h2 (Or.inl z), fun z => h2 (Or.inr (Or.inl z))⟩
      exact Wf2_of (σ := σ) (su_row (by omega)) (su_row (by omega)) h
theorem v2_say {σ : St} {c : Int} (h : Wf2 σ) : Wf2 (sp_say σ c).2 := by
  unfold sp_say
  split
  · exact h
  · split
    · exact h
    · exact Wf2_of (by simp (disch := omega) only [up_row, up_slot, up_hit, su_row, su_slot, su_hit]) (by simp (disch := omega) only [up_row, up_slot, up_hit, su_row, su_slot, su_hit]) h
theorem v2_wipe {σ : St} (h : Wf2 σ) : Wf2 (sp_wipe σ).2 := Wf2_of (σ := σ) (τ := s_up σ 17 0 0) (su_row (by decide)) (su_row (by decide)) h
theorem v2_leave {σ : St} {b v : Int} (h : Wf2 σ) : Wf2 (sp_leave σ b v).2 := by
  unfold sp_leave
  split
  · exact h
  · split
    · exact h
    · exact Wf2_of (by simp (disch := omega) only [up_row, up_slot, up_hit, su_row, su_slot, su_hit]) (by simp (disch := omega) only [up_row, up_slot, up_hit, su_row, su_slot, su_hit]) h
theorem v2_top {σ : St} {v : Int} (h : Wf2 σ) : Wf2 (sp_top σ v).2 := by
  unfold sp_top
  split
  · exact h
  · exact Wf2_of (by simp (disch := omega) only [up_row, up_slot, up_hit, su_row, su_slot, su_hit]) (by simp (disch := omega) only [up_row, up_slot, up_hit, su_row, su_slot, su_hit]) h
theorem v2_swap {σ : St} {a b : Int} (h : Wf2 σ) : Wf2 (sp_swap σ a b).2 := by
  unfold sp_swap
  split
  · exact h
  · exact Wf2_of (σ := σ) (τ := s_sw σ a.toNat b.toNat) (sw_row (by decide)) (sw_row (by decide)) h
theorem v2_price {σ : St} {l v : Int} (h : Wf2 σ) : Wf2 (sp_price σ l v).2 := by
  unfold sp_price
  split
  · exact h
  · split
    · exact h
    · exact Wf2_of (by simp (disch := omega) only [up_row, up_slot, up_hit, su_row, su_slot, su_hit]) (by simp (disch := omega) only [up_row, up_slot, up_hit, su_row, su_slot, su_hit]) h
theorem v2_lesson {σ : St} {v : Int} (h : Wf2 σ) : Wf2 (sp_lesson σ v).2 := by
  unfold sp_lesson
  split
  · exact h
  · split
    · exact h
    · exact Wf2_of (by simp (disch := omega) only [up_row, up_slot, up_hit, su_row, su_slot, su_hit]) (by simp (disch := omega) only [up_row, up_slot, up_hit, su_row, su_slot, su_hit]) h
theorem v2_unlearn {σ : St} (h : Wf2 σ) : Wf2 (sp_unlearn σ).2 := Wf2_of (σ := σ) (τ := s_up σ 15 0 0) (su_row (by decide)) (su_row (by decide)) h
/-- something is wanted -/
def p_ex (W : Nat → Nat → Nat) (a : Nat) : Prop := ∃ t, t < 5 ∧ 1 ≤ W a t
def p_nz : P5 → (Nat → Nat → Nat) → Prop
  | (aw, _, _, _, al), W => (∀ a, a < al → p_ex W a) ∧ (2 ≤ aw → p_ex W al)
theorem p_ex_1 {c : Nat} {s : P5} {W : Nat → Nat → Nat} {a : Nat} (h1 : s.1 = 1 → 1 ≤ s.2.2.1) (h : p_ex W a) : p_ex (p_w1 c s W) a := by
  obtain ⟨t, ht, hw⟩ := h
  refine ⟨t, ht, ?_⟩
  unfold p_w1
  split
  · rename_i z
    exact h1 z.1
  · exact hw
theorem p_step_nz {c : Nat} {s s' : P5} {W : Nat → Nat → Nat} (h : p_ok s) (hz : p_nz s W) (hs : p_step c s = some s') : p_nz s' (p_w1 c s W) := by
  obtain ⟨aw, ns, mn, dg, al⟩ := s
  obtain ⟨h1, h2, h3, h4, h5, h6, h7⟩ := h
  obtain ⟨z1, z2⟩ := hz
  have hmn : aw = 1 → 1 ≤ mn := fun q => (h5 q).1
  have k1 : ∀ a, a < al → p_ex (p_w1 c (aw, ns, mn, dg, al) W) a := fun a ha => p_ex_1 hmn (z1 a ha)
  have k2 : 2 ≤ aw → p_ex (p_w1 c (aw, ns, mn, dg, al) W) al := fun q => p_ex_1 hmn (z2 q)
  rw [p_step_eq] at hs
  by_cases e1 : aw = 1
  · rw [if_pos e1] at hs
    split at hs
    · rename_i hc
      cases hs
      refine ⟨k1, fun _ => ⟨c - 97, by omega, ?_⟩⟩
      unfold p_w1
      rw [if_pos ⟨e1, rfl, rfl⟩]
      exact hmn e1
    · cases hs
  · rw [if_neg e1] at hs
    split at hs
    · rename_i hc
      cases hs
      exact ⟨k1, fun _ => k2 (by omega)⟩
    · split at hs
      · split at hs
        · cases hs
          exact ⟨k1, fun q => absurd q (by omega)⟩
        · cases hs
      · rename_i e2 e3
        split at hs
        · rename_i e4
          split at hs
          · cases hs
            refine ⟨fun a ha => ?_, fun q => absurd q (by omega)⟩
            by_cases e : a = al
            · subst e; exact k2 (by omega)
            · exact k1 a (by omega)
          · cases hs
        · split at hs
          · cases hs
            exact ⟨k1, fun _ => k2 (by omega)⟩
          · cases hs
theorem p_run_nz {σ : St} : ∀ {i : Nat} {s : P5}, p_run σ i = some s → p_nz s (p_wan σ i)
  | 0, s, h => by
    cases h
    exact ⟨fun a ha => absurd ha (Nat.not_lt_zero a), fun q => absurd q (by omega)⟩
  | i + 1, s', h => by
    cases hr : p_run σ i with
    | none => rw [p_run, hr] at h; cases h
    | some s =>
      have ih := p_run_nz hr
      have ok := (p_run_ok hr).1
      rw [p_run_s hr] at h
      rw [p_wan_s hr]
      exact p_step_nz ok ih h
theorem v2_wish {σ : St} {b : Int} (h : Wf2 σ) (hw : Wf σ) : Wf2 (sp_wish σ b).2 := by
  unfold sp_wish
  split
  · exact h
  · split
    · exact h
    · rename_i h1 h2
      show Wf2 (w_st σ b.toNat)
      have hf : n_fault σ = -6 := by
        by_cases z : n_fault σ = -6
        · exact z
        · exact absurd z h2
      obtain ⟨sN, hrN, h4⟩ := n_fl_end (m := σ 17 0) (i := 0) hf
      rw [Nat.zero_add] at hrN
      have hz := p_run_nz hrN
      have hal5 := w_al_le (σ := σ)
      have hal : w_al σ = sN.2.2.2.2 + 1 := by unfold w_al; rw [hrN]
      intro c i hc hi
      by_cases e : c = b.toNat
      · subst e
        rw [w_9] at hi
        rw [w_need (by omega)]
        have hex : p_ex (p_wan σ (σ 17 0)) i := by
          obtain ⟨aw, ns, mn, dg, al⟩ := sN
          obtain ⟨z1, z2⟩ := hz
          dsimp only at h4 hal
          by_cases e2 : i = al
          · subst e2; exact z2 (by omega)
          · exact z1 i (by omega)
        obtain ⟨t, ht, hw'⟩ := hex
        unfold n_pack
        rcases (show t = 0 ∨ t = 1 ∨ t = 2 ∨ t = 3 ∨ t = 4 by omega) with rfl | rfl | rfl | rfl | rfl <;> omega
      · rw [w_9n e] at hi
        have := (hw.2.2.2.2.1 c hc).2.2.2.1
        rw [w_needn e (by omega)]
        exact h c i hc hi
/-! the caches -/
theorem KO_of {σ τ : St} {M M' : mM} (hn : nz τ = nz σ) (hf : ∀ p, 70 ≤ p → p < 74 → M' p = M p) (h : KO σ M) : KO τ M' := by
  intro hk
  rw [hf 70 (by omega) (by omega)] at hk
  have h0 : τ 0 0 = σ 0 0 := congrFun (congrFun hn 0) 0
  obtain ⟨a1, a2, a3⟩ := h hk
  rw [hn]
  refine ⟨by rw [hf 70 (by omega) (by omega)]; exact a1, by rw [hf 70 (by omega) (by omega)]; exact a2, fun k hk2 => ?_⟩
  rw [h0] at hk2
  rw [hf 71 (by omega) (by omega), hf 72 (by omega) (by omega)]
  exact a3 k hk2
theorem br_off_nz {σ : St} : br_off σ (σ 5 0) = br_off (nz σ) (nz σ 5 0) := rfl
theorem KB_of {σ τ : St} {M M' : mM} (hn : nz τ = nz σ) (hf : M' 74 = M 74) (h : KB σ M) : KB τ M' := by
  intro hk
  rw [hf] at hk ⊢
  rw [br_off_nz, hn]
  exact h hk
theorem KK_fr {σ τ : St} {M M' : mM} (hn : nz τ = nz σ) (hf : FrK M M') (h : KO σ M) (h2 : KB σ M) : KO τ M' ∧ KB τ M' := by
  rcases hf with ⟨a, b⟩ | hf
  · exact ⟨fun z => absurd a z, fun z => absurd b z⟩
  · exact ⟨KO_of hn (fun p h1 h3 => hf p h1 (by omega)) h, KB_of hn (hf 74 (by omega) (by omega)) h2⟩
/-- a call that forgets where it changes -/
abbrev PD (σ : St) (z : Int × St) (M : mM) (r : Int) (M' : mM) : Prop := r = z.1 ∧ CR z.2 M' ∧ FrC M M' ∧ ((M' 70 7 = 0 ∧ M' 74 4 = 0) ∨ (z.2 = σ ∧ ∀ p, 70 ≤ p → p < 75 → M' p = M p))
theorem PD_same {σ : St} {M : mM} {x : Int} (h : CR σ M) : PD σ (x, σ) M x M := ⟨rfl, h, Fr_rfl, Or.inr ⟨rfl, fun _ _ _ => rfl⟩⟩
theorem FD_forget {M : mM} {p j : Nat} {v : Int} {P : Prop} (hp : p < 70 ∨ 75 ≤ p) : ((m_up (m_up (m_up M 70 7 0) 74 4 0) p j v) 70 7 = 0 ∧ (m_up (m_up (m_up M 70 7 0) 74 4 0) p j v) 74 4 = 0) ∨ P := Or.inl ⟨by simp (disch := omega) only [up_row, up_slot, up_hit, su_row, su_slot, su_hit], by simp (disch := omega) only [up_row, up_slot, up_hit, su_row, su_slot, su_hit]⟩
theorem KK_pd {σ : St} {z : Int × St} {M M' : mM} {r : Int} (hp : PD σ z M r M') (h : KO σ M) (h2 : KB σ M) : KO z.2 M' ∧ KB z.2 M' := by
  rcases hp.2.2.2 with ⟨a, b⟩ | ⟨e, hf⟩
  · exact ⟨fun z => absurd a z, fun z => absurd b z⟩
  · rw [e]
    exact KK_fr rfl (Or.inr hf) h h2

theorem kd_buyer {σ : St} {M : mM} (h : CR σ M) : C_ kk_X10_buyer [v_P 0] M (PD σ (sp_buyer σ) M) := by
  have h1 := h.2.1.1
  refine c_intro (by decide) rfl (Nat.le_of_ble_eq_true rfl) (by simp [m_dv, Value.category]) (wp_X10_buyer_0 ⟨fun q => ⟨_, c_forget, fun r2 M3 _ _ e3 => ?_⟩, fun q => ?_⟩)
  · subst e3
    rw [h1] at q
    unfold sp_buyer
    rw [if_neg (by omega)]
    simp (disch := omega) only [up_row, up_slot, up_hit, su_row, su_slot, su_hit]
    rw [h1]
    refine ⟨⟨by omega, by omega⟩, ⟨by omega, by omega⟩, by omega, ?_, Fr_trans FrC_forget (Fr_up (by decide)), FD_forget (by decide)⟩
    exact CR_buyer (v := σ 5 0 + 1) (CR_forget h)
  · rw [h1] at q
    unfold sp_buyer
    rw [if_pos (by omega)]
    exact PD_same h
theorem kd_set {σ : St} {M : mM} {b w v : Int} (hw : Wf σ) (h : CR σ M) : C_ kk_X10_set [v_P 0, v_I b, v_I w, v_I v] M (PD σ (sp_set σ b w v) M) := by
  have h1 := h.2.1.1
  have hnb := hw.2.2.2.1
  refine c_intro (by decide) rfl (Nat.le_of_ble_eq_true rfl) (by simp [m_dv, Value.category]) (wp_X10_set_0 ?_)
  rw [h1]
  refine ⟨fun q => ⟨fun q2 => ?_, fun q2 => ⟨fun r M' => M' = M ∧ r = if w = 0 then 1000 else 99, ?_, fun r2 M3 _ _ e3 => ?_⟩⟩, fun q => ?_⟩
  · unfold sp_set
    rw [if_neg (by omega), if_pos (by omega)]
    exact PD_same h
  · exact c_intro (by decide) rfl (Nat.le_of_ble_eq_true rfl) (by simp [m_dv, Value.category]) (wp_X1_most_0 ⟨fun a => ⟨fun _ => ⟨rfl, by rw [if_neg a]⟩, fun _ => ⟨rfl, by rw [if_neg a]⟩⟩, fun a => ⟨rfl, by rw [if_pos a]⟩⟩)
  · obtain ⟨e0, rfl⟩ := e3
    subst e0
    refine ⟨fun q3 => ?_, fun q3 => ⟨_, c_forget, fun r9 M10 _ _ e10 => ⟨by omega, ?_⟩⟩⟩
    · unfold sp_set
      rw [if_neg (by omega), if_pos (by omega)]
      exact PD_same h
    · obtain ⟨b', rfl⟩ := nat_of q.1
      obtain ⟨w', rfl⟩ := nat_of (x := w) (by omega)
      obtain ⟨v', rfl⟩ := nat_of (x := v) (by omega)
      unfold sp_set
      rw [if_neg (by omega), if_neg (by omega)]
      simp only [Int.toNat_natCast]
      have hb6 : b' < 6 := by omega
      have g := h.2.1.2.2 b' hb6
      have e : C_ kk_X1_put [v_P (8 + 3 * b'), v_I (w' : Int), v_I (v' : Int)] M10 (fun r M' => r = M10 (8 + 3 * b') w' ∧ M' = m_up M10 (8 + 3 * b') w' v') := by
        refine c_intro (by decide) rfl (Nat.le_of_ble_eq_true rfl) (by simp [m_dv, Value.category]) (wp_X1_put_0 (isB_at hb6) ⟨fun a => ⟨fun a2 => ?_, fun a2 => ?_⟩, fun a => ?_⟩)
        · rw [show w' = 2 by omega]
          exact ⟨rfl, rfl⟩
        · rw [show w' = 1 by omega]
          exact ⟨rfl, rfl⟩
        · rw [show w' = 0 by omega]
          exact ⟨rfl, rfl⟩
      refine ⟨_, e, fun r18 M19 _ _ e19 => ?_⟩
      obtain ⟨rfl, rfl⟩ := e19
      subst e10
      refine ⟨?_, CR_coin (by omega) (CR_forget h) hb6, Fr_trans FrC_forget (Fr_up (by omega)), FD_forget (by omega)⟩
      simp (disch := omega) only [up_row, up_slot, up_hit, su_row, su_slot, su_hit]
      rcases (show w' = 0 ∨ w' = 1 ∨ w' = 2 by omega) with rfl | rfl | rfl
      · exact g.1
      · exact g.2.1
      · exact g.2.2.1
  · unfold sp_set
    rw [if_pos q]
    exact PD_same h
theorem kd_top {σ : St} {M : mM} {v : Int} (h : CR σ M) : C_ kk_X10_top [v_P 0, v_I v] M (PD σ (sp_top σ v) M) := by
  refine c_intro (by decide) rfl (Nat.le_of_ble_eq_true rfl) (by simp [m_dv, Value.category]) (wp_X10_top_0 ⟨fun q => ?_, fun q => ⟨_, c_forget, fun r2 M3 _ _ e3 => ?_⟩⟩)
  · unfold sp_top
    rw [if_pos q]
    exact PD_same h
  · subst e3
    unfold sp_top
    rw [if_neg q]
    obtain ⟨v', rfl⟩ := nat_of (x := v) (by omega)
    refine ⟨?_, CR_top (CR_forget h), Fr_trans FrC_forget (Fr_up (by decide)), FD_forget (by decide)⟩
    simp (disch := omega) only [up_row, up_slot, up_hit, su_row, su_slot, su_hit]
    exact h.2.1.2.1
theorem kd_leave {σ : St} {M : mM} {b v : Int} (hw : Wf σ) (h : CR σ M) : C_ kk_X10_leave [v_P 0, v_I b, v_I v] M (PD σ (sp_leave σ b v) M) := by
  have h1 := h.2.1.1
  have hnb := hw.2.2.2.1
  refine c_intro (by decide) rfl (Nat.le_of_ble_eq_true rfl) (by simp [m_dv, Value.category]) (wp_X10_leave_0 ?_)
  rw [h1]
  refine ⟨fun q => ?_, fun q => ?_⟩
  · obtain ⟨b', rfl⟩ := nat_of q.1
    have hb6 : b' < 6 := by omega
    have g := h.2.1.2.2 b' hb6
    have gw := hw.2.2.2.2.1 b' hb6
    simp only [Int.toNat_natCast]
    rw [g.2.2.2.1, b_shl1 (by omega)]
    have p1 : 2 ^ σ 9 b' ≤ 2 ^ 6 := Nat.pow_le_pow_right (by decide) gw.2.2.2.1
    have p2 : 0 < 2 ^ σ 9 b' := Nat.pow_pos (by decide)
    refine ⟨by omega, ⟨by omega, by omega⟩, fun q2 => ?_, fun q2 => ⟨_, c_forget, fun r5 M6 _ _ e6 => ?_⟩⟩
    · unfold sp_leave
      simp only [Int.toNat_natCast]
      rw [if_neg (by omega), if_pos (by omega)]
      exact PD_same h
    · subst e6
      unfold sp_leave
      simp only [Int.toNat_natCast]
      rw [if_neg (by omega), if_neg (by omega)]
      obtain ⟨v', rfl⟩ := nat_of (x := v) (by omega)
      simp only [Int.toNat_natCast]
      refine ⟨?_, CR_left (CR_forget h) hb6 (by omega), Fr_trans FrC_forget (Fr_up (by omega)), FD_forget (by omega)⟩
      simp (disch := omega) only [up_row, up_slot, up_hit, su_row, su_slot, su_hit]
      exact (h.2.2.2.1 b' hb6).1
  · unfold sp_leave
    rw [if_pos q]
    exact PD_same h
theorem kd_wish {σ : St} {M : mM} {b : Int} (hw : Wf σ) (h : CR σ M) : C_ kk_X10_wish [v_P 0, v_I b] M (PD σ (sp_wish σ b) M) := by
  have h1 := h.2.1.1
  have hnb := hw.2.2.2.1
  refine c_intro (by decide) rfl (Nat.le_of_ble_eq_true rfl) (by simp [m_dv, Value.category]) (wp_X10_wish_0 ?_)
  rw [h1]
  refine ⟨fun q => ⟨_, kc_firstWrong hw h.2.2.2.2.1, fun r2 M3 _ _ e3 => ?_⟩, fun q => ?_⟩
  · obtain ⟨f3, rfl, e4⟩ := e3
    refine ⟨fun q2 => ⟨_, c_forget, fun r9 M10 _ _ e10 => ⟨by omega, ?_⟩⟩, fun q2 => ?_⟩
    · obtain ⟨b', rfl⟩ := nat_of q.1
      have hb6 : b' < 6 := by omega
      obtain ⟨s, hr, sr⟩ := e4 q2
      have hok := (p_run_ok hr).1
      have hal : w_al σ = s.2.2.2.2 + 1 := by unfold w_al; rw [hr]
      have hal5 : s.2.2.2.2 ≤ 5 := by have := w_al_le (σ := σ); omega
      have e104 : M10 26 4 = s.2.2.2.2 := by subst e10; simp (disch := omega) only [up_row, up_slot, up_hit, su_row, su_slot, su_hit]; exact sr.1
      rw [Int.toNat_natCast]
      refine ⟨_, kc_take hb6 (n := s.2.2.2.2) (by omega) e104, fun r18 M19 _ _ e19 => ⟨by omega, ?_⟩⟩
      obtain ⟨t1, t2, t3, t4, t5⟩ := e19
      unfold sp_wish
      rw [if_neg (by omega), if_neg (by rw [q2]; exact fun z => z rfl), Int.toNat_natCast]
      have hC := CR_forget (CR_fr9 h f3)
      rw [← e10] at hC
      have hcp : FrC M M10 := by rw [e10]; exact Fr_trans (Fr9_C f3) FrC_forget
      have hk70 : M10 70 7 = 0 := by subst e10; simp (disch := omega) only [up_row, up_slot, up_hit, su_row, su_slot, su_hit]
      have hk74 : M10 74 4 = 0 := by subst e10; simp (disch := omega) only [up_row, up_slot, up_hit, su_row, su_slot, su_hit]
      have e28 : ∀ i, i ≤ s.2.2.2.2 → M10 28 i = p_num σ (σ 17 0) i ∧ M10 29 i = n_pack (p_wan σ (σ 17 0) i) := by
        intro i hi
        subst e10
        simp (disch := omega) only [up_row, up_slot, up_hit, su_row, su_slot, su_hit]
        exact sr.2.2.2.2.2 i hi
      refine ⟨?_, ?_, ?_, ?_⟩
      · rw [t2, hal]
        omega
      · show CR (w_st σ b') (m_up M19 26 1 0)
        obtain ⟨⟨g1, g2⟩, ⟨g3, g4, g5⟩, g6, g7, ⟨g8, g9⟩, g10, ⟨g11, g12⟩⟩ := hC
        refine ⟨⟨?_, fun j hj => ?_⟩, ⟨?_, ?_, fun b hb => ?_⟩, fun j hj => ?_, fun b hb => ?_, ⟨?_, fun i hi => ?_⟩, fun l hl => ?_, ⟨?_, fun d hd => ?_⟩⟩
        · rw [w_row (by decide), up_row (by decide), t1 1 (by omega) (by omega) (by omega)]; exact g1
        · rw [w_row (by decide)] at hj
          rw [w_row (by decide), w_row (by decide), w_row (by decide), up_row (by decide), up_row (by decide), up_row (by decide), up_row (by decide), t1 2 (by omega) (by omega) (by omega), t1 3 (by omega) (by omega) (by omega), t1 4 (by omega) (by omega) (by omega), t1 6 (by omega) (by omega) (by omega)]
          exact g2 j hj
        · rw [w_row (by decide), up_row (by decide), t1 1 (by omega) (by omega) (by omega)]; exact g3
        · rw [w_row (by decide), up_row (by decide), t1 1 (by omega) (by omega) (by omega)]; exact g4
        · unfold HB1
          rw [w_row (f := 6) (by decide), w_row (f := 7) (by decide), w_row (f := 8) (by decide), up_row (by omega), up_row (by omega), up_row (by omega)]
          by_cases e : b = b'
          · subst e
            rw [w_9, w_12, hal]
            have g := g5 b hb
            have g7' := g7 b hb
            refine ⟨by rw [t4 0 (by decide) (by decide)]; exact g.1, by rw [t4 1 (by decide) (by decide)]; exact g.2.1, by rw [t4 2 (by decide) (by decide)]; exact g.2.2.1, by rw [t2]; omega, ?_, fun i hi => ?_⟩
            · rw [t3, t4 7 (by decide) (by decide), g7'.2]
              decide
            · rw [(t5 i (by omega)).1, (t5 i (by omega)).2, w_10 (by omega), w_need (by omega)]
              exact e28 i (by omega)
          · rw [w_9n e, w_12n e, t1 (8 + 3 * b) (by omega) (by omega) (by omega), t1 (8 + 3 * b + 1) (by omega) (by omega) (by omega), t1 (8 + 3 * b + 2) (by omega) (by omega) (by omega)]
            have g := g5 b hb
            have h9 := (hw.2.2.2.2.1 b hb).2.2.2.1
            refine ⟨g.1, g.2.1, g.2.2.1, g.2.2.2.1, g.2.2.2.2.1, fun i hi => ?_⟩
            rw [w_10n e (by omega), w_needn e (by omega)]
            exact g.2.2.2.2.2 i hi
        · rw [w_row (by decide)] at hj
          rw [w_row (by decide), up_row (by decide), t1 5 (by omega) (by omega) (by omega)]; exact g6 j hj
        · rw [up_row (by omega)]
          by_cases e : b = b'
          · subst e
            rw [w_12, t3, t4 7 (by decide) (by decide)]
            exact ⟨rfl, (g7 b hb).2⟩
          · rw [w_12n e, t1 (8 + 3 * b) (by omega) (by omega) (by omega)]
            exact g7 b hb
        · rw [w_17, up_hit]
          rfl
        · rw [w_17] at hi
          omega
        · rw [w_row (by decide), up_row (by decide), t1 61 (by omega) (by omega) (by omega)]; exact g10 l hl
        · rw [w_row (by decide), up_row (by decide), t1 75 (by omega) (by omega) (by omega)]; exact g11
        · rw [w_row (by decide)] at hd
          rw [w_row (by decide), up_row (by decide), t1 76 (by omega) (by omega) (by omega)]; exact g12 d hd
      · intro p hp
        rw [up_row (by omega), t1 p (by omega) (by omega) (by omega)]
        exact hcp p hp
      · refine Or.inl ⟨?_, ?_⟩
        · rw [up_row (by decide), t1 70 (by omega) (by omega) (by omega)]; exact hk70
        · rw [up_row (by decide), t1 74 (by omega) (by omega) (by omega)]; exact hk74
    · unfold sp_wish
      rw [if_neg (by omega), if_pos q2]
      exact ⟨rfl, CR_fr9 h f3, Fr9_C f3, Or.inr ⟨rfl, fun p h1 h2 => f3.1 p (by omega) (by omega) (by omega)⟩⟩
  · unfold sp_wish
    rw [if_pos q]
    exact PD_same h
theorem kd_lot {σ : St} {M : mM} {a b c : Int} (hw : Wf σ) (h : CR σ M) : C_ kk_X10_lot [v_P 0, v_I a, v_I b, v_I c] M (PD σ (sp_lot σ a b c) M) := by
  have triv : FrC M M ∧ ((M 70 7 = 0 ∧ M 74 4 = 0) ∨ (σ = σ ∧ ∀ p, 70 ≤ p → p < 75 → M p = M p)) := ⟨fun _ _ => rfl, Or.inr ⟨rfl, fun _ _ _ => rfl⟩⟩
  have h10 := h.1.1
  refine c_intro (by decide) rfl (Nat.le_of_ble_eq_true rfl) (by simp [m_dv, Value.category]) (wp_X10_lot_0 ⟨fun q => ?_, fun q1 => ⟨fun q => ?_, fun q2 => ⟨fun q => ?_, fun q3 => ⟨fun q4 => ?_, fun q4 => ?_⟩⟩⟩⟩)
  · unfold sp_lot; rw [if_pos (by omega)]; exact ⟨rfl, h, triv⟩
  · unfold sp_lot; rw [if_pos (by omega)]; exact ⟨rfl, h, triv⟩
  · unfold sp_lot; rw [if_pos (by omega)]; exact ⟨rfl, h, triv⟩
  · rw [h10] at q4
    obtain ⟨a', rfl⟩ : ∃ n : Nat, a = n := ⟨a.toNat, by omega⟩
    obtain ⟨b', rfl⟩ : ∃ n : Nat, b = n := ⟨b.toNat, by omega⟩
    obtain ⟨c', rfl⟩ : ∃ n : Nat, c = n := ⟨c.toNat, by omega⟩
    unfold sp_lot
    rw [if_neg (by omega), if_neg (by omega)]
    refine ⟨_, c_forget, fun r2 M3 _ _ e3 => ?_⟩
    have h3 : M3 1 0 = σ 0 0 := by rw [e3]; simp (disch := omega) only [up_row]; exact h10
    refine ⟨fun r M' => r = σ 0 0 ∧ M' = m_up (m_up (m_up (m_up (m_up (m_up M3 2 (σ 0 0) ((2 ^ (5 * a') : Nat) : Int)) 3 (σ 0 0) b') 4 (σ 0 0) c') 5 (σ 0 0) (σ 0 0)) 6 (σ 0 0) (σ 0 0)) 1 0 (σ 0 0 + 1), c_intro (by decide) rfl (Nat.le_of_ble_eq_true rfl) (by simp [m_dv, Value.category]) (wp_X6_addLot_0 ⟨_, c_one (s := a') (by omega), fun r4 M4 _ _ e4 => ?_⟩), fun r9 M10 _ _ e10 => ?_⟩
    · obtain ⟨rfl, rfl⟩ := e4
      simp only [h3, Int.toNat_natCast]
      refine ⟨by omega, by omega, by omega, fun M11 e11 => ⟨by omega, by omega, fun M15 e15 => ⟨⟨by omega, by omega⟩, ⟨by omega, by omega⟩, by omega, ?_⟩⟩⟩
      rw [e15, e11]
    · obtain ⟨rfl, rfl⟩ := e10
      subst e3
      obtain ⟨⟨g1, g2⟩, ⟨g3, g4, g5⟩, g6, g7, ⟨g8, g9⟩, g10, ⟨g11, g12⟩⟩ := h
      refine ⟨rfl, ⟨⟨?_, fun j hj => ?_⟩, ⟨?_, ?_, fun b hb => ?_⟩, fun j hj => ?_, fun b hb => ?_, ⟨?_, fun i hi => ?_⟩, fun l hl => ?_, ⟨?_, fun d hd => ?_⟩⟩, fun p hp => ?_, Or.inl ⟨?_, ?_⟩⟩
      · simp (disch := omega) only [up_row, up_slot, up_hit, su_row, su_slot, su_hit]; omega
      · simp (disch := omega) only [up_row, up_slot, up_hit, su_row, su_slot, su_hit, Int.toNat_natCast] at hj ⊢
        by_cases e : j = σ 0 0
        · subst e
          simp (disch := omega) only [up_row, up_slot, up_hit, su_row, su_slot, su_hit]
          exact ⟨trivial, trivial, trivial, trivial⟩
        · simp (disch := omega) only [up_row, up_slot, up_hit, su_row, su_slot, su_hit]
          exact g2 j (by omega)
      · simp (disch := omega) only [up_row, up_slot, up_hit, su_row, su_slot, su_hit]; exact g3
      · simp (disch := omega) only [up_row, up_slot, up_hit, su_row, su_slot, su_hit]; exact g4
      · unfold HB1 n_need
        simp (disch := omega) only [up_row, up_slot, up_hit, su_row, su_slot, su_hit]
        exact g5 b hb
      · simp (disch := omega) only [up_row, up_slot, up_hit, su_row, su_slot, su_hit] at hj ⊢
        by_cases e : j = σ 0 0
        · subst e
          simp (disch := omega) only [up_row, up_slot, up_hit, su_row, su_slot, su_hit]
        · simp (disch := omega) only [up_row, up_slot, up_hit, su_row, su_slot, su_hit]
          exact g6 j (by omega)
      · simp (disch := omega) only [up_row, up_slot, up_hit, su_row, su_slot, su_hit]; exact g7 b hb
      · simp (disch := omega) only [up_row, up_slot, up_hit, su_row, su_slot, su_hit]; exact g8
      · simp (disch := omega) only [up_row, up_slot, up_hit, su_row, su_slot, su_hit] at hi ⊢; exact g9 i hi
      · simp (disch := omega) only [up_row, up_slot, up_hit, su_row, su_slot, su_hit]; exact g10 l hl
      · simp (disch := omega) only [up_row, up_slot, up_hit, su_row, su_slot, su_hit]; exact g11
      · simp (disch := omega) only [up_row, up_slot, up_hit, su_row, su_slot, su_hit] at hd ⊢; exact g12 d hd
      · simp (disch := omega) only [up_row]
      · simp (disch := omega) only [up_row, up_slot, up_hit]
      · simp (disch := omega) only [up_row, up_slot, up_hit]
  · rw [h10] at q4
    unfold sp_lot; rw [if_neg (by omega), if_pos (by omega)]; exact ⟨rfl, h, triv⟩
