/-! DEALT, the reference -/
theorem b_sub_half {g f : Nat} (h : b_sub g f) : b_sub (g / 2) (f / 2) := fun l hl => by
  rw [← Nat.testBit_succ] at hl ⊢
  exact h _ hl
theorem b_sub_and {h f : Nat} (s : b_sub h f) : h &&& f = h := by
  apply Nat.eq_of_testBit_eq
  intro i
  rw [Nat.testBit_and]
  have := s i
  cases h1 : h.testBit i
  · rfl
  · rw [this h1]; rfl
theorem b_sub_next : ∀ (n h g f : Nat), h < 2 ^ n → b_sub g f → b_sub h f → g < h → g ≤ (h - 1) &&& f
  | 0, h, g, f, hn, _, _, hg => by rw [Nat.pow_zero] at hn; omega
  | n + 1, h, g, f, hn, hgf, hhf, hg => by
    have ed : ((h - 1) &&& f) / 2 = (h - 1) / 2 &&& f / 2 := Nat.and_div_two
    have em := Nat.and_mod_two_pow (a := h - 1) (b := f) (n := 1)
    rw [Nat.pow_one] at em
    rw [Nat.pow_succ] at hn
    have dm := Nat.div_add_mod ((h - 1) &&& f) 2
    by_cases e : h % 2 = 1
    · have e1 : (h - 1) / 2 = h / 2 := by omega
      rw [e1, b_sub_and (b_sub_half hhf)] at ed
      omega
    · have e1 : (h - 1) / 2 = h / 2 - 1 := by omega
      have e2 : (h - 1) % 2 = 1 := by omega
      have ih := b_sub_next n (h / 2) (g / 2) (f / 2) (by omega) (b_sub_half hgf) (b_sub_half hhf) (by omega)
      rw [e1] at ed
      rw [e2] at em
      have hf2 : f % 2 < 2 := Nat.mod_lt _ (by decide)
      have em2 : 1 &&& f % 2 = f % 2 := by
        rcases (show f % 2 = 0 ∨ f % 2 = 1 by omega) with q | q <;> rw [q] <;> rfl
      rw [em2] at em
      have hb : g % 2 ≤ f % 2 := by
        have h0 := hgf 0
        rw [← Nat.mod_two_eq_one_iff_testBit_zero, ← Nat.mod_two_eq_one_iff_testBit_zero] at h0
        omega
      omega
theorem b_and_sub {a f : Nat} : b_sub (a &&& f) f := fun l hl => by
  rw [Nat.testBit_and, Bool.and_eq_true] at hl
  exact hl.2
theorem b_nd_sub {a f : Nat} : b_nd a f = 0 ↔ b_sub a f := by
  constructor
  · intro h l hl
    have e : (b_nd a f).testBit l = false := by rw [h, Nat.zero_testBit]
    rw [b_nd_bit, hl] at e
    cases hz : f.testBit l
    · rw [hz] at e; cases e
    · rfl
  · intro h
    apply Nat.eq_of_testBit_eq
    intro l
    rw [b_nd_bit, Nat.zero_testBit]
    have := h l
    cases hz : a.testBit l
    · rfl
    · rw [this hz]; rfl
def MDL (σ : St) (M : mM) : Prop := ∀ b f, b ≤ σ 5 0 → f < 2 ^ σ 0 0 → M 100 (256 * b + f) = nV σ (σ 5 0 - b) (n_cnt σ f)
theorem km_findDealt {σ : St} {M : mM} (hw : Wf σ) (h4 : M 79 4 = σ 0 0) (h8 : M 79 8 = σ 5 0) (hWL : WL σ M) : C_ kk_X11_findDealt [v_P 79] M (fun _ M' => MDL σ M' ∧ ∀ p, p ≠ 100 → M' p = M p) := by
  have hnb := hw.2.2.2.1
  have hn8 := hw.1
  have p8 := pow8 hw
  have pp : 0 < 2 ^ σ 0 0 := Nat.pow_pos (by decide)
  refine c_intro (by decide) rfl (Nat.le_of_ble_eq_true rfl) (by simp [m_dv, Value.category]) (wp_X11_findDealt_0 ?_)
  -- buyer by buyer
  have buyers : ∀ (m : Nat) (N : mM), m ≤ σ 5 0 → (∀ b f, m ≤ b → b ≤ σ 5 0 → f < 2 ^ σ 0 0 → N 100 (256 * b + f) = nV σ (σ 5 0 - b) (n_cnt σ f)) → (∀ p, p ≠ 100 → N p = M p) → X_ kk_X11_findDealt 41 [v_P 79, v_I ((m : Int) - 1), v_U, v_U, v_U, v_U] [] N (fun _ M' => MDL σ M' ∧ ∀ p, p ≠ 100 → M' p = M p) := by
    intro m
    induction m with
    | zero =>
      intro N _ n1 n2
      exact wp_X11_findDealt_41 ⟨fun _ => ⟨fun b f hb hf => n1 b f (Nat.zero_le _) hb hf, n2⟩, fun y => absurd y (by omega)⟩
    | succ b ih =>
      intro N hm n1 n2
      have hb6 : b < 6 := by omega
      rw [show ((b + 1 : Nat) : Int) - 1 = (b : Int) by omega]
      refine wp_X11_findDealt_41 ⟨fun y => absurd y (by omega), fun _ => ?_⟩
      have hmono := nV_mono (σ := σ) (σ 5 0 - (b + 1))
      have hV := nV_le hw (σ 5 0 - (b + 1)) (by omega)
      have hVb := fun c => nVi_le hw hb6 hV c (σ 9 b) (Nat.le_refl _)
      have frees : ∀ (k f : Nat) (K : mM), f + k = 2 ^ σ 0 0 → (∀ f', f' < f → K 100 (256 * b + f') = nVi σ b (nV σ (σ 5 0 - (b + 1))) (n_cnt σ f') (σ 9 b)) → (∀ i, 256 * (b + 1) ≤ i → K 100 i = N 100 i) → (∀ p, p ≠ 100 → K p = M p) → X_ kk_X11_findDealt 47 [v_P 79, v_I (b : Int), v_I (f : Int), v_U, v_U, v_U] [] K (fun _ M' => MDL σ M' ∧ ∀ p, p ≠ 100 → M' p = M p) := by
        intro k
        induction k with
        | zero =>
          intro f K hk k1 k2 k3
          refine wp_X11_findDealt_47 ?_
          rw [k3 79 (by decide), h4, b_shl1 (by omega)]
          refine ⟨fun _ => ⟨⟨by omega, by omega⟩, ?_⟩, fun y => absurd y (by omega)⟩
          rw [show (b : Int) + (-1) = (b : Int) - 1 by omega]
          refine ih K (by omega) (fun b' f' hb' hb'' hf' => ?_) k3
          by_cases e : b' = b
          · subst e
            rw [k1 f' (by omega), nV_b (σ := σ) (b := b') (by omega)]
          · rw [k2 _ (by omega)]
            exact n1 b' f' (by omega) hb'' hf'
        | succ k ihk =>
          intro f K hk k1 k2 k3
          have hf : f < 2 ^ σ 0 0 := by omega
          have e100 : ∀ g, g < 2 ^ σ 0 0 → K 100 (256 * (b + 1) + g) = nV σ (σ 5 0 - (b + 1)) (n_cnt σ g) := fun g hg => by
            rw [k2 _ (by omega)]
            exact n1 (b + 1) g (Nat.le_refl _) hm hg
          have e92 : ∀ g, g < 2 ^ σ 0 0 → K 92 (256 * b + g) = n_worth σ b g := fun g hg => by
            rw [k3 92 (by decide)]
            exact hWL b g (by omega) hg
          refine wp_X11_findDealt_47 ?_
          rw [k3 79 (by decide), h4, b_shl1 (by omega), show (256 * ((b : Int) + 1) + (f : Int)).toNat = 256 * (b + 1) + f by omega, e100 f hf]
          refine ⟨fun y => absurd y (by omega), fun _ => ⟨⟨by omega, by omega⟩, ⟨by omega, by omega⟩, ⟨by omega, by omega⟩, by omega, ?_⟩⟩
          have hX := hVb (n_cnt σ f)
          have hge := nVi_ge (σ := σ) (b := b) (W := nV σ (σ 5 0 - (b + 1))) (c := n_cnt σ f) (σ 9 b)
          have heaps : ∀ (d h most : Nat), h ≤ d → b_sub h f → most ≤ nVi σ b (nV σ (σ 5 0 - (b + 1))) (n_cnt σ f) (σ 9 b) → nV σ (σ 5 0 - (b + 1)) (n_cnt σ f) ≤ most → (∀ g, b_sub g f → h < g → n_worth σ b g + nV σ (σ 5 0 - (b + 1)) (n_cnt σ (b_nd f g)) ≤ most) → X_ kk_X11_findDealt 75 [v_P 79, v_I (b : Int), v_I (f : Int), v_I (most : Int), v_I (h : Int), v_U] [] K (fun _ M' => MDL σ M' ∧ ∀ p, p ≠ 100 → M' p = M p) := by
            intro d
            induction d with
            | zero =>
              intro h most hd hs m1 m2 m3
              have h0 : h = 0 := by omega
              subst h0
              have ew : n_worth σ b 0 ≤ 999 := n_worth_le hw hb6
              have hv0 := n_val_le (σ := σ) (b := b) hmono (b_sub_0 f)
              rw [b_nd_0] at hv0
              have top : nVi σ b (nV σ (σ 5 0 - (b + 1))) (n_cnt σ f) (σ 9 b) ≤ max most (n_worth σ b 0 + nV σ (σ 5 0 - (b + 1)) (n_cnt σ f)) := by
                rcases nVi_at (σ := σ) (b := b) (W := nV σ (σ 5 0 - (b + 1))) (c := n_cnt σ f) (σ 9 b) with a | ⟨i, hi, a1, a2⟩
                · omega
                · have hg := n_gi_val hmono hi a1
                  by_cases z : n_gi σ b f i = 0
                  · rw [z, b_nd_0] at hg
                    omega
                  · have := m3 (n_gi σ b f i) n_gi_sub (by omega)
                    omega
              have nx : ∀ v : Int, v = nVi σ b (nV σ (σ 5 0 - (b + 1))) (n_cnt σ f) (σ 9 b) → X_ kk_X11_findDealt 47 [v_P 79, v_I (b : Int), v_I ((f : Int) + 1), v_U, v_U, v_U] [] (m_up K 100 (256 * b + f) v) (fun _ M' => MDL σ M' ∧ ∀ p, p ≠ 100 → M' p = M p) := by
                intro v hv
                refine ihk (f + 1) _ (by omega) (fun f' hf' => ?_) (fun i hi => by rw [up_slot (by omega)]; exact k2 i hi) (fun p hp => by rw [up_row hp]; exact k3 p hp)
                by_cases e : f' = f
                · subst e; rw [up_hit]; exact hv
                · rw [up_slot (by omega)]; exact k1 f' (by omega)
              refine wp_X11_findDealt_75 ⟨fun _ => ?_, fun y => absurd y (by decide)⟩
              rw [show (256 * (b : Int)).toNat = 256 * b + 0 by omega, e92 0 pp, show (256 * ((b : Int) + 1) + (f : Int)).toNat = 256 * (b + 1) + f by omega, e100 f hf, show (256 * (b : Int) + (f : Int)).toNat = 256 * b + f by omega]
              exact ⟨⟨by omega, by omega⟩, by omega, ⟨by omega, by omega⟩, ⟨by omega, by omega⟩, ⟨by omega, by omega⟩, by omega, ⟨by omega, by omega⟩, ⟨by omega, by omega⟩, ⟨by omega, by omega⟩, fun q => ⟨by omega, ⟨by omega, by omega⟩, nx _ (by omega)⟩, fun q => ⟨by omega, fun M13 e13 => ⟨⟨by omega, by omega⟩, by rw [e13]; exact nx _ (by omega)⟩⟩⟩
            | succ d ihd =>
              intro h most hd hs m1 m2 m3
              by_cases h0 : h = 0
              · subst h0
                exact ihd 0 most (Nat.zero_le _) hs m1 m2 m3
              · have hhf := b_sub_le hs
                have hnd := b_nd_le f h
                have hv := n_val_le (σ := σ) (b := b) hmono hs
                have ew : n_worth σ b h ≤ 999 := n_worth_le hw hb6
                have hlt : (h - 1) &&& f ≤ h - 1 := Nat.and_le_left
                have enot : m_and (f : Int) (m_xor (h : Int) (-1)) = ((b_nd f h : Nat) : Int) := b_not (by omega)
                have eand : m_and ((h : Int) - 1) (f : Int) = (((h - 1) &&& f : Nat) : Int) := by
                  rw [show (h : Int) - 1 = ((h - 1 : Nat) : Int) by omega, b_and (by omega)]
                refine wp_X11_findDealt_75 ⟨fun y => absurd y (by omega), fun _ => ?_⟩
                rw [enot, eand, show (256 * (b : Int) + (h : Int)).toNat = 256 * b + h by omega, e92 h (by omega), show (256 * ((b : Int) + 1) + ((b_nd f h : Nat) : Int)).toNat = 256 * (b + 1) + b_nd f h by omega, e100 (b_nd f h) (by omega)]
                have hVx := hV (n_cnt σ (b_nd f h))
                have nxt : ∀ most' : Nat, most' ≤ nVi σ b (nV σ (σ 5 0 - (b + 1))) (n_cnt σ f) (σ 9 b) → most ≤ most' → n_worth σ b h + nV σ (σ 5 0 - (b + 1)) (n_cnt σ (b_nd f h)) ≤ most' → X_ kk_X11_findDealt 75 [v_P 79, v_I (b : Int), v_I (f : Int), v_I (most' : Int), v_I (((h - 1) &&& f : Nat) : Int), v_U] [] K (fun _ M' => MDL σ M' ∧ ∀ p, p ≠ 100 → M' p = M p) := by
                  intro most' a1 a2 a3
                  refine ihd ((h - 1) &&& f) most' (by omega) b_and_sub a1 (by omega) (fun g hg hlt' => ?_)
                  by_cases e : g = h
                  · subst e; exact a3
                  · by_cases e2 : h < g
                    · have := m3 g hg e2; omega
                    · have := b_sub_next (σ 0 0) h g f (by omega) hg hs (by omega)
                      omega
                refine ⟨⟨by omega, by omega⟩, ⟨by omega, by omega⟩, by omega, ⟨by omega, by omega⟩, ⟨by omega, by omega⟩, ⟨by omega, by omega⟩, by omega, ⟨by omega, by omega⟩, fun q => ⟨⟨by omega, by omega⟩, nxt most m1 (Nat.le_refl _) (by omega)⟩, fun q => ⟨⟨by omega, by omega⟩, ?_⟩⟩
                rw [← Int.natCast_add]
                exact nxt _ hv (by omega) (Nat.le_refl _)
          refine heaps f f _ (Nat.le_refl _) (fun _ h => h) hge.1 (Nat.le_refl _) (fun g hg hlt => ?_)
          have := b_sub_le hg
          omega
      exact frees (2 ^ σ 0 0) 0 N (by omega) (fun f' hf' => by omega) (fun _ _ => rfl) n2
  have zero : ∀ (m f : Nat) (N : mM), f + m = 2 ^ σ 0 0 → (∀ f', f' < f → N 100 (256 * σ 5 0 + f') = 0) → (∀ p, p ≠ 100 → N p = M p) → X_ kk_X11_findDealt 2 [v_P 79, v_I (f : Int), v_U, v_U, v_U, v_U] [] N (fun _ M' => MDL σ M' ∧ ∀ p, p ≠ 100 → M' p = M p) := by
    intro m
    induction m with
    | zero =>
      intro f N hm n1 n2
      refine wp_X11_findDealt_2 ?_
      rw [n2 79 (by decide), h4, h8, b_shl1 (by omega)]
      refine ⟨fun _ => ⟨⟨by omega, by omega⟩, buyers (σ 5 0) N (Nat.le_refl _) (fun b f' hb hb' hf' => ?_) n2⟩, fun y => absurd y (by omega)⟩
      have eb : b = σ 5 0 := by omega
      subst eb
      rw [n1 f' (by omega), Nat.sub_self]
      rfl
    | succ m ih =>
      intro f N hm n1 n2
      refine wp_X11_findDealt_2 ?_
      rw [n2 79 (by decide), h4, h8, b_shl1 (by omega), show (256 * (σ 5 0 : Int) + (f : Int)).toNat = 256 * σ 5 0 + f by omega]
      refine ⟨fun y => absurd y (by omega), fun _ => ⟨⟨by omega, by omega⟩, ⟨by omega, by omega⟩, by omega, ⟨by omega, by omega⟩, ih (f + 1) _ (by omega) (fun f' hf' => ?_) (fun p hp => by rw [up_row hp]; exact n2 p hp)⟩⟩
      by_cases e : f' = f
      · subst e; exact up_hit
      · rw [up_slot (by omega)]; exact n1 f' (by omega)
  exact zero (2 ^ σ 0 0) 0 M (by omega) (fun f' hf' => by omega) (fun _ _ => rfl)
theorem km_dealtWorth {σ : St} {M : mM} (hw : Wf σ) (h4 : M 79 4 = σ 0 0) (hD : MDL σ M) : C_ kk_X11_dealtWorth [v_P 79] M (fun r M' => M' = M ∧ r = n_dw σ) := by
  have hn8 := hw.1
  have p8 := pow8 hw
  have pp : 0 < 2 ^ σ 0 0 := Nat.pow_pos (by decide)
  refine c_intro (by decide) rfl (Nat.le_of_ble_eq_true rfl) (by simp [m_dv, Value.category]) (wp_X11_dealtWorth_0 ?_)
  rw [h4, b_shl1 (by omega), show (((2 ^ σ 0 0 : Nat) : Int) - 1).toNat = 256 * 0 + (2 ^ σ 0 0 - 1) by omega, hD 0 _ (Nat.zero_le _) (by omega)]
  exact ⟨⟨by omega, by omega⟩, by omega, rfl, rfl⟩
theorem km_dealt {σ : St} {M : mM} {b : Int} (hw : Wf σ) (hw2 : Wf2 σ) (h : MR σ M) : C_ kk_X11_dealt [v_P 79, v_I b] M (PM (sp_dealt σ b) M) := by
  have hnb := hw.2.2.2.1
  have hn8 := hw.1
  have p8 := pow8 hw
  have pp : 0 < 2 ^ σ 0 0 := Nat.pow_pos (by decide)
  refine c_intro (by decide) rfl (Nat.le_of_ble_eq_true rfl) (by simp [m_dv, Value.category]) (wp_X11_dealt_0 ?_)
  rw [h.2.2.1]
  unfold sp_dealt
  refine ⟨fun q => ⟨_, km_layWorths hw h, fun r2 M3 _ _ e3 => ?_⟩, fun q => ⟨by omega, fun q2 => ⟨_, km_layWorths hw h, fun r2 M3 _ _ e3 => ?_⟩, fun q2 => ?_⟩⟩
  · obtain ⟨hW, f3⟩ := e3
    refine ⟨_, km_findDealt hw (by rw [f3 79 (by decide)]; exact h.1) (by rw [f3 79 (by decide)]; exact h.2.2.1) hW, fun r9 M10 _ _ e10 => ⟨fun y => absurd q y, fun _ => ?_⟩⟩
    obtain ⟨hD, f10⟩ := e10
    refine ⟨_, km_dealtWorth hw (by rw [f10 79 (by decide), f3 79 (by decide)]; exact h.1) hD, fun r17 M18 _ _ e18 => ?_⟩
    obtain ⟨e18a, rfl⟩ := e18
    subst e18a
    rw [if_pos q]
    exact PM_fr h (fun p hp => by rw [f10 p (by omega), f3 p (by omega)])
  · obtain ⟨hW, f3⟩ := e3
    refine ⟨_, km_findDealt hw (by rw [f3 79 (by decide)]; exact h.1) (by rw [f3 79 (by decide)]; exact h.2.2.1) hW, fun r9 M10 _ _ e10 => ⟨fun _ => ?_, fun y => absurd y q⟩⟩
    obtain ⟨hD, f10⟩ := e10
    obtain ⟨b0, rfl⟩ := nat_of q2.1
    rw [if_neg q, if_neg (fun z => z q2), f10 79 (by decide), f3 79 (by decide), h.1, b_shl1 (by omega), Int.toNat_natCast]
    refine ⟨⟨by omega, by omega⟩, ?_⟩
    have hW10 : WL σ M10 := WL_of hW (f10 92 (by decide))
    have done : PM ((n_dh σ b0 : Int), σ) M (n_dh σ b0 : Int) M10 := PM_fr h (fun p hp => by rw [f10 p (by omega), f3 p (by omega)])
    have outer : ∀ (m b : Nat) (x3 : Int), b + m = b0 + 1 → (b = b0 + 1 → x3 = n_dh σ b0) → X_ kk_X11_dealt 47 [v_P 79, v_I (b0 : Int), v_I (n_fr σ b : Int), v_I x3, v_I (b : Int)] [] M10 (PM ((n_dh σ b0 : Int), σ) M) := by
      intro m
      induction m with
      | zero =>
        intro b x3 hb hx
        refine wp_X11_dealt_47 ⟨fun _ => ?_, fun y => absurd y (by omega)⟩
        rw [hx (by omega)]
        exact done
      | succ m ih =>
        intro b x3 hb hx
        refine wp_X11_dealt_47 ⟨fun y => absurd y (by omega), fun _ => ?_⟩
        have hfr := n_fr_lt (σ := σ) b
        have hls := n_lh_spec hw hw2 (b := b) (by omega) (nV_mono (σ := σ) (σ 5 0 - (b + 1))) hfr
        have hdh : n_lh σ b (nV σ (σ 5 0 - (b + 1))) (n_fr σ b) = n_dh σ b := rfl
        rw [hdh] at hls
        obtain ⟨l1, l2, l3⟩ := hls
        have hle := b_sub_le l1
        have hV := nV_le hw (σ 5 0 - (b + 1)) (by omega)
        have e100 : ∀ g, g < 2 ^ σ 0 0 → M10 100 (256 * (b + 1) + g) = nV σ (σ 5 0 - (b + 1)) (n_cnt σ g) := fun g hg => hD (b + 1) g (by omega) hg
        have e100' : M10 100 (256 * b + n_fr σ b) = nVi σ b (nV σ (σ 5 0 - (b + 1))) (n_cnt σ (n_fr σ b)) (σ 9 b) := by
          rw [hD b _ (by omega) hfr, nV_b (σ := σ) (b := b) (by omega)]
        have inner : ∀ (d h : Nat), h + d = n_dh σ b → X_ kk_X11_dealt 55 [v_P 79, v_I (b0 : Int), v_I (n_fr σ b : Int), v_I (h : Int), v_I (b : Int)] [] M10 (PM ((n_dh σ b0 : Int), σ) M) := by
          intro d
          induction d with
          | zero =>
            intro h hh
            have eh : h = n_dh σ b := by omega
            subst eh
            have hnd := b_nd_le (n_fr σ b) (n_dh σ b)
            have hVx := hV (n_cnt σ (b_nd (n_fr σ b) (n_dh σ b)))
            have ew : n_worth σ b (n_dh σ b) ≤ 999 := n_worth_le hw (by omega)
            refine wp_X11_dealt_55 ?_
            rw [b_not (a := n_dh σ b) (by omega), b_not (a := n_fr σ b) (by omega), b_nd_sub.2 l1, show (256 * (b : Int) + (n_dh σ b : Int)).toNat = 256 * b + n_dh σ b by omega, hW10 b _ (by omega) (by omega), show (256 * ((b : Int) + 1) + ((b_nd (n_fr σ b) (n_dh σ b) : Nat) : Int)).toNat = 256 * (b + 1) + b_nd (n_fr σ b) (n_dh σ b) by omega, e100 _ (by omega), show (256 * (b : Int) + (n_fr σ b : Int)).toNat = 256 * b + n_fr σ b by omega, e100']
            refine ⟨fun y => absurd rfl y, fun _ => ⟨⟨by omega, by omega⟩, ⟨by omega, by omega⟩, by omega, ⟨by omega, by omega⟩, ⟨by omega, by omega⟩, ⟨by omega, by omega⟩, by omega, ⟨by omega, by omega⟩, ⟨by omega, by omega⟩, ⟨by omega, by omega⟩, by omega, fun _ => ⟨⟨by omega, by omega⟩, ?_⟩, fun y => absurd (by omega) y⟩⟩
            have hfr1 : b_nd (n_fr σ b) (n_dh σ b) = n_fr σ (b + 1) := rfl
            rw [hfr1]
            exact ih (b + 1) _ (by omega) (fun e => by rw [show b = b0 by omega])
          | succ d ihd =>
            intro h hh
            have nx := ihd (h + 1) (by omega)
            have hnd := b_nd_le (n_fr σ b) h
            have hVx := hV (n_cnt σ (b_nd (n_fr σ b) h))
            have ew : n_worth σ b h ≤ 999 := n_worth_le hw (by omega)
            refine wp_X11_dealt_55 ?_
            rw [b_not (a := h) (by omega), b_not (a := n_fr σ b) (by omega), show (256 * (b : Int) + (h : Int)).toNat = 256 * b + h by omega, hW10 b _ (by omega) (by omega), show (256 * ((b : Int) + 1) + ((b_nd (n_fr σ b) h : Nat) : Int)).toNat = 256 * (b + 1) + b_nd (n_fr σ b) h by omega, e100 _ (by omega), show (256 * (b : Int) + (n_fr σ b : Int)).toNat = 256 * b + n_fr σ b by omega, e100']
            refine ⟨fun _ => ⟨⟨by omega, by omega⟩, nx⟩, fun q => ⟨⟨by omega, by omega⟩, ⟨by omega, by omega⟩, by omega, ⟨by omega, by omega⟩, ⟨by omega, by omega⟩, ⟨by omega, by omega⟩, by omega, ⟨by omega, by omega⟩, ⟨by omega, by omega⟩, ⟨by omega, by omega⟩, by omega, fun q3 => ?_, fun _ => ⟨⟨by omega, by omega⟩, nx⟩⟩⟩
            have := l3 h (b_nd_sub.1 (by omega)) (by omega)
            omega
        exact inner (n_dh σ b) 0 (by omega)
    have o0 := outer (b0 + 1) 0 0 (by omega) (fun y => absurd y (by omega))
    have e7 : n_fr σ 0 = 2 ^ σ 0 0 - 1 := rfl
    rw [e7] at o0
    rw [show ((2 ^ σ 0 0 : Nat) : Int) - 1 = ((2 ^ σ 0 0 - 1 : Nat) : Int) by omega]
    exact o0
  · rw [if_neg q, if_pos q2]
    exact PM_same h
