/-! worth, why: the class -/
theorem kc_allLots {σ : St} {M : mM} (hw : Wf σ) (h : M 1 0 = σ 0 0) : C_ kk_X6_allLots [v_P 1] M (fun r M' => M' = M ∧ r = ((2 ^ σ 0 0 : Nat) : Int) - 1) := by
  have hn := hw.1
  have p1 : 2 ^ σ 0 0 ≤ 2 ^ 8 := Nat.pow_le_pow_right (by decide) hn
  have p2 : 0 < 2 ^ σ 0 0 := Nat.pow_pos (by decide)
  refine c_intro (by decide) rfl (Nat.le_of_ble_eq_true rfl) (by simp [m_dv, Value.category]) (wp_X6_allLots_0 ?_)
  rw [h, b_shl1 (by omega)]
  exact ⟨⟨by omega, by omega⟩, rfl, rfl⟩
theorem n_pack_succ {σ : St} {h l : Nat} (hs : σ 1 l < 5) : n_pack (fun s => n_ct σ h s (l + 1)) = n_pack (fun s => n_ct σ h s l) + if h.testBit l = true then 2 ^ (5 * σ 1 l) else 0 := by
  unfold n_pack
  simp only [n_ct]
  by_cases hb : h.testBit l = true
  · simp only [hb, true_and, if_true]
    rcases (show σ 1 l = 0 ∨ σ 1 l = 1 ∨ σ 1 l = 2 ∨ σ 1 l = 3 ∨ σ 1 l = 4 by omega) with e | e | e | e | e <;> rw [e] <;> simp <;> omega
  · simp [hb]
theorem n_pk_le {σ : St} {h l : Nat} (hl : l ≤ 8) : n_pack (fun s => n_ct σ h s l) < 2 ^ 24 := g_lt (fun s _ => by have := n_ct_le σ h s l; omega)
theorem kc_countsOf {σ : St} {M : mM} {hp : Nat} (hw : Wf σ) (h : HL σ M) (hh : hp < 2 ^ 31) : C_ kk_X6_countsOf [v_P 1, v_I (hp : Int)] M (fun r M' => M' = M ∧ r = n_pack (n_cnt σ hp)) := by
  obtain ⟨h0, h1⟩ := h
  have hn := hw.1
  refine c_intro (by decide) rfl (Nat.le_of_ble_eq_true rfl) (by simp [m_dv, Value.category]) (wp_X6_countsOf_0 ?_)
  have loop : ∀ n l, l + n = σ 0 0 → X_ kk_X6_countsOf 4 [v_P 1, v_I (hp : Int), v_I (n_pack (fun s => n_ct σ hp s l) : Int), v_I (l : Int)] [] M (fun r M' => M' = M ∧ r = n_pack (n_cnt σ hp)) := by
    intro n
    induction n with
    | zero =>
      intro l hl
      refine wp_X6_countsOf_4 ⟨fun _ => ⟨rfl, ?_⟩, fun q => absurd q (by rw [h0]; omega)⟩
      rw [show l = σ 0 0 by omega]
      rfl
    | succ n ih =>
      intro l hl
      have hs := (hw.2.1 l (by omega)).1
      have nx := ih (l + 1) (by omega)
      rw [show ((l + 1 : Nat) : Int) = (l : Int) + 1 from rfl, n_pack_succ hs] at nx
      have i1 : m_ir ((l : Int) + 1) := ⟨by omega, by omega⟩
      have hlt := n_pk_le (σ := σ) (h := hp) (l := l) (by omega)
      have hp2 : 2 ^ (5 * σ 1 l) ≤ 2 ^ 20 := Nat.pow_le_pow_right (by decide) (by omega)
      have hp3 : (0 : Int) ≤ ((2 ^ (5 * σ 1 l) : Nat) : Int) := Int.natCast_nonneg _
      refine wp_X6_countsOf_4 ⟨fun q => absurd q (by rw [h0]; omega), fun _ => ?_⟩
      rw [b_bit0 (a := hp) (l := l) (by omega) hh, Int.toNat_natCast, (h1 l (by omega)).1]
      refine ⟨fun q => ⟨i1, ?_⟩, fun q => ⟨by omega, ⟨by omega, by omega⟩, i1, ?_⟩⟩
      · rw [if_neg (by rw [q]; decide)] at nx
        exact nx
      · rw [if_pos (by simpa using q)] at nx
        exact nx
  exact loop (σ 0 0) 0 (by omega)
def sp_worth (σ : St) (b h : Int) : Int × St := (if ¬ (0 ≤ b ∧ b < σ 5 0) then -1 else if h < 0 ∨ ((2 ^ σ 0 0 : Nat) : Int) ≤ h then -2 else (n_worth σ b.toNat h.toNat : Int), σ)
def sp_why (σ : St) (b h : Int) : Int × St := (if ¬ (0 ≤ b ∧ b < σ 5 0) then -1 else if h < 0 ∨ ((2 ^ σ 0 0 : Nat) : Int) ≤ h then -2 else n_why σ b.toNat h.toNat, σ)
theorem cnt16 {σ : St} (hw : Wf σ) {h : Nat} : ∀ s, s < 5 → n_cnt σ h s < 16 := fun s _ => by
  have := n_cnt_le hw h s
  omega
theorem pow8 {σ : St} (hw : Wf σ) : 2 ^ σ 0 0 ≤ 256 := Nat.pow_le_pow_right (n := 2) (by decide) hw.1
theorem kc_worth {σ : St} {M : mM} {b h : Int} (hw : Wf σ) (hR : CR σ M) : C_ kk_X10_worth [v_P 0, v_I b, v_I h] M (PC (sp_worth σ b h) M) := by
  have h1 := hR.2.1.1
  have hnb := hw.2.2.2.1
  have p8 := pow8 hw
  refine c_intro (by decide) rfl (Nat.le_of_ble_eq_true rfl) (by simp [m_dv, Value.category]) (wp_X10_worth_0 ?_)
  rw [h1]
  refine ⟨fun q => ⟨_, kc_allLots hw hR.1.1, fun r2 M3 _ _ e3 => ?_⟩, fun q => ?_⟩
  · obtain ⟨rfl, rfl⟩ := e3
    refine ⟨fun q2 => ?_, fun q2 => ⟨by omega, ?_⟩⟩
    · unfold sp_worth
      rw [if_neg (by omega), if_pos (by omega)]
      exact PC_same hR
    · obtain ⟨b', rfl⟩ := nat_of q.1
      obtain ⟨h', rfl⟩ := nat_of (x := h) (by omega)
      refine ⟨_, kc_countsOf hw hR.1 (by omega), fun r11 M12 _ _ e12 => ?_⟩
      obtain ⟨rfl, rfl⟩ := e12
      rw [Int.toNat_natCast]
      refine ⟨_, kc_worthOf hw (by omega) (hR.2.1.2.2 b' (by omega)) (cnt16 hw), fun r18 M19 _ _ e19 => ?_⟩
      obtain ⟨rfl, rfl⟩ := e19
      unfold sp_worth
      rw [if_neg (by omega), if_neg (by omega)]
      exact PC_same hR
  · unfold sp_worth
    rw [if_pos q]
    exact PC_same hR
theorem kc_isThere {σ : St} {M : mM} {b i : Nat} (hw : Wf σ) (hb : b < 6) (h : HB1 σ M b) (hi : i < 32) : C_ kk_X1_isThere [v_P (8 + 3 * b), v_I (i : Int)] M (fun r M' => M' = M ∧ r = if (σ 12 b).testBit i = true then 0 else 1) := by
  refine c_intro (by decide) rfl (Nat.le_of_ble_eq_true rfl) (by simp [m_dv, Value.category]) (wp_X1_isThere_0 (isB_at hb) ?_)
  have hg := gone_lt hw hb
  rw [h.2.2.2.2.1, b_bit0 (a := σ 12 b) (l := i) hi (by omega)]
  exact ⟨fun q => ⟨rfl, by rw [if_pos (by simpa using q)]⟩, fun q => ⟨rfl, by rw [q]; rfl⟩⟩
theorem kc_cover {σ : St} {M : mM} {b i : Nat} {c : Nat → Nat} (hw : Wf σ) (hb : b < 6) (hi : i < σ 9 b) (hc : ∀ s, s < 5 → c s < 16) : C_ kk_X3_cover [v_I (n_pack c : Int), v_I (n_need σ (6 * b + i) : Int)] M (fun r M' => M' = M ∧ r = if n_metc σ (6 * b + i) c = true then 1 else 0) := by
  refine c_intro (by decide) rfl (Nat.le_of_ble_eq_true rfl) (by simp [m_dv, Value.category]) (wp_X3_cover_0 ?_)
  have hlt := g_lt hc
  have e := b_or (a := n_pack c) (b := 17318416) (by omega) (by decide)
  rw [g_or hc, show ((17318416 : Nat) : Int) = 17318416 from rfl] at e
  rw [e, n_met_iff hw hb hi hc]
  have hle : n_need σ (6 * b + i) ≤ n_pack c + 17318416 := g_le (w := fun s => σ 11 (5 * (6 * b + i) + s)) (fun s hs => by have := ((hw.2.2.2.2.1 b hb).2.2.2.2.2 i hi).2 s hs; omega)
  exact ⟨⟨by omega, by omega⟩, fun q => ⟨rfl, by rw [if_neg q]⟩, fun q => ⟨rfl, by rw [if_pos q]⟩⟩
theorem kc_firstMet {σ : St} {M : mM} {b : Nat} {c : Nat → Nat} (hw : Wf σ) (hb : b < 6) (h : HB1 σ M b) (hc : ∀ s, s < 5 → c s < 16) : C_ kk_X1_firstMet [v_P (8 + 3 * b), v_I (n_pack c : Int), v_I (n_wc σ b c : Int)] M (fun r M' => M' = M ∧ r = n_be σ b c (σ 9 b)) := by
  have hwb := hw.2.2.2.2.1 b hb
  have inv := n_be_inv σ b c (σ 9 b)
  refine c_intro (by decide) rfl (Nat.le_of_ble_eq_true rfl) (by simp [m_dv, Value.category]) (wp_X1_firstMet_0 (isB_at hb) ?_)
  have loop : ∀ n i, i + n = σ 9 b → (∀ j, j < i → ¬ (σ 10 (6 * b + j) = n_wc σ b c ∧ n_is σ b c j = true)) → X_ kk_X1_firstMet 2 [v_P (8 + 3 * b), v_I (n_pack c : Int), v_I (n_wc σ b c : Int), v_I (i : Int)] [] M (fun r M' => M' = M ∧ r = n_be σ b c (σ 9 b)) := by
    intro n
    induction n with
    | zero =>
      intro i hi hno
      refine wp_X1_firstMet_2 (isB_at hb) ⟨fun _ => ⟨rfl, ?_⟩, fun q => absurd q (by rw [h.2.2.2.1]; omega)⟩
      rcases inv with ⟨a1, a2, a3, a4⟩ | ⟨a1, a2, a3, a4, a5, a6⟩
      · exact a2.symm
      · exact absurd ⟨a3, a4⟩ (hno _ (by omega))
    | succ n ih =>
      intro i hi hno
      have hi9 : i < σ 9 b := by omega
      obtain ⟨n1, n2⟩ := h.2.2.2.2.2 i hi9
      have i1 : m_ir ((i : Int) + 1) := ⟨by omega, by omega⟩
      have go : ¬ (σ 10 (6 * b + i) = n_wc σ b c ∧ n_is σ b c i = true) → X_ kk_X1_firstMet 2 [v_P (8 + 3 * b), v_I (n_pack c : Int), v_I (n_wc σ b c : Int), v_I ((i : Int) + 1)] [] M (fun r M' => M' = M ∧ r = n_be σ b c (σ 9 b)) := by
        intro hz
        refine ih (i + 1) (by omega) (fun j hj => ?_)
        by_cases e : j = i
        · subst e
          exact hz
        · exact hno j (by omega)
      refine wp_X1_firstMet_2 (isB_at hb) ⟨fun q => absurd q (by rw [h.2.2.2.1]; omega), fun _ => ?_⟩
      rw [Int.toNat_natCast, n1]
      refine ⟨by omega, fun q => ⟨i1, go (fun z => q (by rw [z.1]))⟩, fun q => ⟨_, kc_isThere hw hb h (by omega), fun r4 M5 _ _ e5 => ?_⟩⟩
      obtain ⟨rfl, rfl⟩ := e5
      refine ⟨fun q2 => ⟨i1, go (fun z => ?_)⟩, fun q2 => ⟨by omega, ?_⟩⟩
      · have z2 := z.2
        unfold n_is at z2
        simp only [Bool.and_eq_true, Bool.not_eq_true'] at z2
        rw [z2.1] at q2
        exact absurd q2 (by decide)
      · rw [n2]
        refine ⟨_, kc_cover hw hb hi9 hc, fun r13 M14 _ _ e14 => ?_⟩
        obtain ⟨rfl, rfl⟩ := e14
        have ht : (σ 12 b).testBit i = false := by
          cases ht : (σ 12 b).testBit i
          · rfl
          · rw [ht] at q2
            exact absurd rfl q2
        refine ⟨fun q3 => ⟨i1, go (fun z => ?_)⟩, fun q3 => ⟨rfl, ?_⟩⟩
        · have z2 := z.2
          unfold n_is at z2
          simp only [Bool.and_eq_true, Bool.not_eq_true'] at z2
          rw [if_pos z2.2] at q3
          exact absurd q3 (by decide)
        · have hm : n_metc σ (6 * b + i) c = true := by
            cases hm : n_metc σ (6 * b + i) c
            · rw [hm] at q3
              exact absurd rfl q3
            · rfl
          have his : n_is σ b c i = true := by unfold n_is; rw [ht, hm]; rfl
          have hnum : σ 10 (6 * b + i) = n_wc σ b c := by omega
          rcases inv with ⟨a1, a2, a3, a4⟩ | ⟨a1, a2, a3, a4, a5, a6⟩
          · rw [a4 i hi9] at his
            cases his
          · have h5 : ¬ i < (n_be σ b c (σ 9 b)).toNat := fun z => by
              have := a5 i z his
              have e : n_wc σ b c = n_wo σ b c (σ 9 b) := rfl
              omega
            have h6 : ¬ (n_be σ b c (σ 9 b)).toNat < i := fun z => hno _ z ⟨a3, a4⟩
            omega
  exact loop (σ 9 b) 0 (by omega) (fun j hj => absurd hj (Nat.not_lt_zero j))
theorem kc_why {σ : St} {M : mM} {b h : Int} (hw : Wf σ) (hR : CR σ M) : C_ kk_X10_why [v_P 0, v_I b, v_I h] M (PC (sp_why σ b h) M) := by
  have h1 := hR.2.1.1
  have hnb := hw.2.2.2.1
  have p8 := pow8 hw
  refine c_intro (by decide) rfl (Nat.le_of_ble_eq_true rfl) (by simp [m_dv, Value.category]) (wp_X10_why_0 ?_)
  rw [h1]
  refine ⟨fun q => ⟨_, kc_allLots hw hR.1.1, fun r2 M3 _ _ e3 => ?_⟩, fun q => ?_⟩
  · obtain ⟨rfl, rfl⟩ := e3
    refine ⟨fun q2 => ?_, fun q2 => ⟨by omega, ?_⟩⟩
    · unfold sp_why
      rw [if_neg (by omega), if_pos (by omega)]
      exact PC_same hR
    · obtain ⟨b', rfl⟩ := nat_of q.1
      obtain ⟨h', rfl⟩ := nat_of (x := h) (by omega)
      refine ⟨_, kc_countsOf hw hR.1 (by omega), fun r11 M12 _ _ e12 => ?_⟩
      obtain ⟨rfl, rfl⟩ := e12
      rw [Int.toNat_natCast]
      refine ⟨_, kc_worthOf hw (by omega) (hR.2.1.2.2 b' (by omega)) (cnt16 hw), fun r18 M19 _ _ e19 => ?_⟩
      obtain ⟨rfl, rfl⟩ := e19
      refine ⟨_, kc_firstMet hw (by omega) (hR.2.1.2.2 b' (by omega)) (cnt16 hw), fun r25 M26 _ _ e26 => ?_⟩
      obtain ⟨rfl, rfl⟩ := e26
      unfold sp_why
      rw [if_neg (by omega), if_neg (by omega)]
      exact PC_same hR
  · unfold sp_why
    rw [if_pos q]
    exact PC_same hR
/-! worth, why: the reference -/
def n_mt (σ : St) (a : Nat) (c : Nat → Nat) : Nat → Bool
  | 0 => true
  | s + 1 => n_mt σ a c s && decide (σ 11 (5 * a + s) ≤ c s)
theorem n_mt5 (σ : St) (a : Nat) (c : Nat → Nat) : n_mt σ a c 5 = n_metc σ a c := by
  unfold n_metc
  simp only [n_mt, Bool.true_and, Nat.add_zero]
  rw [Bool.eq_iff_iff]
  simp only [Bool.and_eq_true, decide_eq_true_iff]
  omega
theorem km_isMet {σ : St} {M : mM} {b i hp : Nat} (hw : Wf σ) (hR : MR σ M) (hb : b < 6) (hi : i < σ 9 b) (hh : hp < 2 ^ 31) : C_ kk_X11_isMet [v_P 79, v_I (6 * (b : Int) + i), v_I (hp : Int)] M (fun r M' => M' = M ∧ r = if n_metc σ (6 * b + i) (n_cnt σ hp) = true then 1 else 0) := by
  obtain ⟨g1, g2, g3, g4, g5, g6, -⟩ := hR
  have hn := hw.1
  have hwb := hw.2.2.2.2.1 b hb
  have ea : (6 * (b : Int) + i) = ((6 * b + i : Nat) : Int) := by omega
  rw [ea]
  generalize hA : 6 * b + i = a
  have ha : a < 36 := by omega
  have gw : ∀ s, s < 5 → M 88 (5 * a + s) = σ 11 (5 * a + s) := by rw [← hA]; exact ((g6 b hb).2.2 i hi).2
  refine c_intro (by decide) rfl (Nat.le_of_ble_eq_true rfl) (by simp [m_dv, Value.category]) (wp_X11_isMet_0 ?_)
  have outer : ∀ n s, s + n = 5 → X_ kk_X11_isMet 5 [v_P 79, v_I (a : Int), v_I (hp : Int), v_I (if n_mt σ a (n_cnt σ hp) s = true then 1 else 0), v_I (s : Int), v_U, v_U] [] M (fun r M' => M' = M ∧ r = if n_metc σ a (n_cnt σ hp) = true then 1 else 0) := by
    intro n
    induction n with
    | zero =>
      intro s hs
      refine wp_X11_isMet_5 ⟨fun _ => ⟨?_, rfl, ?_⟩, fun q => absurd q (by omega)⟩
      · split
        · exact Or.inr rfl
        · exact Or.inl rfl
      · rw [show s = 5 by omega, n_mt5]
    | succ n ih =>
      intro s hs
      refine wp_X11_isMet_5 ⟨fun q => absurd q (by omega), fun _ => ?_⟩
      have nx := ih (s + 1) (by omega)
      rw [show ((s + 1 : Nat) : Int) = (s : Int) + 1 from rfl] at nx
      have i1 : m_ir ((s : Int) + 1) := ⟨by omega, by omega⟩
      have inner : ∀ m l, l + m = σ 0 0 → X_ kk_X11_isMet 17 [v_P 79, v_I (a : Int), v_I (hp : Int), v_I (if n_mt σ a (n_cnt σ hp) s = true then 1 else 0), v_I (s : Int), v_I (n_ct σ hp s l : Int), v_I (l : Int)] [] M (fun r M' => M' = M ∧ r = if n_metc σ a (n_cnt σ hp) = true then 1 else 0) := by
        intro m
        induction m with
        | zero =>
          intro l hl
          refine wp_X11_isMet_17 ⟨fun _ => ⟨fun q => ⟨i1, ?_⟩, fun q => ⟨⟨by omega, by omega⟩, ⟨by omega, by omega⟩, by omega, fun q2 => ⟨i1, ?_⟩, fun q2 => ⟨i1, ?_⟩⟩⟩, fun q => absurd q (by rw [g1]; omega)⟩
          · have e : n_mt σ a (n_cnt σ hp) (s + 1) = false := by
              rw [n_mt]
              cases hm : n_mt σ a (n_cnt σ hp) s
              · rfl
              · rw [hm] at q
                exact absurd q (by decide)
            rw [e] at nx
            exact nx
          · rw [show (5 * (a : Int) + s).toNat = 5 * a + s by omega, gw s (by omega)] at q2
            have e : n_mt σ a (n_cnt σ hp) (s + 1) = false := by
              rw [n_mt]
              have : ¬ σ 11 (5 * a + s) ≤ n_cnt σ hp s := by
                unfold n_cnt
                rw [show σ 0 0 = l by omega]
                omega
              rw [decide_eq_false this, Bool.and_false]
            rw [e] at nx
            exact nx
          · rw [show (5 * (a : Int) + s).toNat = 5 * a + s by omega, gw s (by omega)] at q2
            have e : n_mt σ a (n_cnt σ hp) (s + 1) = true := by
              rw [n_mt]
              have h2 : σ 11 (5 * a + s) ≤ n_cnt σ hp s := by
                unfold n_cnt
                rw [show σ 0 0 = l by omega]
                omega
              cases hm : n_mt σ a (n_cnt σ hp) s
              · rw [hm] at q
                exact absurd rfl q
              · rw [decide_eq_true h2]
                rfl
            rw [e] at nx
            exact nx
        | succ m ih2 =>
          intro l hl
          have nx2 := ih2 (l + 1) (by omega)
          rw [show ((l + 1 : Nat) : Int) = (l : Int) + 1 from rfl] at nx2
          have i2 : m_ir ((l : Int) + 1) := ⟨by omega, by omega⟩
          have hle := n_ct_le σ hp s l
          refine wp_X11_isMet_17 ⟨fun q => absurd q (by rw [g1]; omega), fun _ => ?_⟩
          rw [b_bit1 (a := hp) (l := l) (by omega) hh, Int.toNat_natCast, (g2 l (by omega)).1]
          refine ⟨fun q => ⟨⟨by omega, by omega⟩, i2, ?_⟩, fun q => ⟨by omega, fun q2 => ⟨⟨by omega, by omega⟩, i2, ?_⟩, fun q2 => ⟨⟨by omega, by omega⟩, i2, ?_⟩⟩⟩
          · have e : n_ct σ hp s (l + 1) = n_ct σ hp s l := by rw [n_ct, if_neg (fun z => q z.1)]; rfl
            rw [e] at nx2
            rw [show ((n_ct σ hp s l : Nat) : Int) + 0 = (n_ct σ hp s l : Int) by omega]
            exact nx2
          · have e : n_ct σ hp s (l + 1) = n_ct σ hp s l := by rw [n_ct, if_neg (fun z => q2 (by rw [z.2]))]; rfl
            rw [e] at nx2
            rw [show ((n_ct σ hp s l : Nat) : Int) + 0 = (n_ct σ hp s l : Int) by omega]
            exact nx2
          · have e : n_ct σ hp s (l + 1) = n_ct σ hp s l + 1 := by rw [n_ct, if_pos ⟨q, by omega⟩]
            rw [e] at nx2
            exact nx2
      exact inner (σ 0 0) 0 (by omega)
  exact outer 5 0 (by omega)
theorem km_bestOf {σ : St} {M : mM} {b hp : Nat} (hw : Wf σ) (hR : MR σ M) (hb : b < 6) (hh : hp < 2 ^ 31) : C_ kk_X11_bestOf [v_P 79, v_I (b : Int), v_I (hp : Int)] M (fun r M' => M' = M ∧ r = n_why σ b hp) := by
  have g6 := hR.2.2.2.2.2.1 b hb
  have hwb := hw.2.2.2.2.1 b hb
  have hgl := gone_lt hw hb
  refine c_intro (by decide) rfl (Nat.le_of_ble_eq_true rfl) (by simp [m_dv, Value.category]) (wp_X11_bestOf_0 ?_)
  have loop : ∀ n i, i + n = σ 9 b → X_ kk_X11_bestOf 6 [v_P 79, v_I (b : Int), v_I (hp : Int), v_I (n_be σ b (n_cnt σ hp) i), v_I (i : Int), v_U, v_U] [] M (fun r M' => M' = M ∧ r = n_why σ b hp) := by
    intro n
    induction n with
    | zero =>
      intro i hi
      refine wp_X11_bestOf_6 ⟨by omega, fun _ => ⟨rfl, ?_⟩, fun q => absurd q (by rw [Int.toNat_natCast, g6.1]; omega)⟩
      rw [show i = σ 9 b by omega]
      rfl
    | succ n ih =>
      intro i hi
      have hi9 : i < σ 9 b := by omega
      have nx := ih (i + 1) (by omega)
      rw [show ((i + 1 : Nat) : Int) = (i : Int) + 1 from rfl] at nx
      have i1 : m_ir ((i : Int) + 1) := ⟨by omega, by omega⟩
      have inv := n_be_inv σ b (n_cnt σ hp) i
      refine wp_X11_bestOf_6 ⟨by omega, fun q => absurd q (by rw [Int.toNat_natCast, g6.1]; omega), fun _ => ?_⟩
      rw [Int.toNat_natCast, g6.2.1, b_bit0 (a := σ 12 b) (l := i) (by omega) (by omega)]
      refine ⟨⟨by omega, by omega⟩, ⟨by omega, by omega⟩, by omega, fun q => ⟨i1, ?_⟩, fun q => ⟨_, km_isMet hw hR hb hi9 hh, fun r7 M8 _ _ e8 => ?_⟩⟩
      · have e : n_be σ b (n_cnt σ hp) (i + 1) = n_be σ b (n_cnt σ hp) i := by
          rw [n_be, if_neg (fun z => q (by have := z.1; unfold n_is at this; simp at this; exact this.1))]
        rw [e] at nx
        exact nx
      · obtain ⟨rfl, rfl⟩ := e8
        refine ⟨fun q2 => ⟨i1, ?_⟩, fun q2 => ?_⟩
        · have e : n_be σ b (n_cnt σ hp) (i + 1) = n_be σ b (n_cnt σ hp) i := by
            rw [n_be, if_neg (fun z => by
              have := z.1
              unfold n_is at this
              simp only [Bool.and_eq_true] at this
              rw [if_pos this.2] at q2
              exact absurd q2 (by decide))]
          rw [e] at nx
          exact nx
        · have hm : n_metc σ (6 * b + i) (n_cnt σ hp) = true := by
            cases hm : n_metc σ (6 * b + i) (n_cnt σ hp)
            · rw [hm] at q2
              exact absurd rfl q2
            · rfl
          have his : n_is σ b (n_cnt σ hp) i = true := by unfold n_is; rw [q, hm]; rfl
          refine ⟨fun q3 => ⟨i1, ?_⟩, fun q3 => ?_⟩
          · have e : n_be σ b (n_cnt σ hp) (i + 1) = i := by rw [n_be, if_pos ⟨his, Or.inl q3⟩]
            rw [e] at nx
            exact nx
          · rcases inv with ⟨a1, -⟩ | ⟨a1, a2, a3, a4, a5, a6⟩
            · exact absurd a1 q3
            · have e1 : (6 * (b : Int) + i).toNat = 6 * b + i := by omega
              have e2 : (6 * (b : Int) + n_be σ b (n_cnt σ hp) i).toNat = 6 * b + (n_be σ b (n_cnt σ hp) i).toNat := by omega
              rw [e1, e2, (g6.2.2 i hi9).1, (g6.2.2 (n_be σ b (n_cnt σ hp) i).toNat (by omega)).1]
              refine ⟨by omega, ⟨by omega, by omega⟩, ⟨by omega, by omega⟩, by omega, fun q4 => ⟨i1, ?_⟩, fun q4 => ⟨i1, ?_⟩⟩
              · have e : n_be σ b (n_cnt σ hp) (i + 1) = n_be σ b (n_cnt σ hp) i := by rw [n_be, if_neg (fun z => by omega)]
                rw [e] at nx
                exact nx
              · have e : n_be σ b (n_cnt σ hp) (i + 1) = i := by rw [n_be, if_pos ⟨his, Or.inr (by omega)⟩]
                rw [e] at nx
                exact nx
  exact loop (σ 9 b) 0 (by omega)
theorem km_isHeap {σ : St} {M : mM} {h : Int} (hw : Wf σ) (hR : MR σ M) : C_ kk_X11_isHeap [v_P 79, v_I h] M (fun r M' => M' = M ∧ r = if 0 ≤ h ∧ h < ((2 ^ σ 0 0 : Nat) : Int) then 1 else 0) := by
  have hn := hw.1
  have p1 := pow8 hw
  have p2 : 0 < 2 ^ σ 0 0 := Nat.pow_pos (by decide)
  refine c_intro (by decide) rfl (Nat.le_of_ble_eq_true rfl) (by simp [m_dv, Value.category]) (wp_X11_isHeap_0 ?_)
  rw [hR.1, b_shl1 (by omega)]
  exact ⟨⟨by omega, by omega⟩, fun q => ⟨rfl, by rw [if_pos (by omega)]⟩, fun q => ⟨rfl, by rw [if_neg (by omega)]⟩⟩
theorem n_worth_why {σ : St} {b h : Nat} : (n_why σ b h < 0 ∧ n_worth σ b h = 0) ∨ (0 ≤ n_why σ b h ∧ n_why σ b h < σ 9 b ∧ σ 10 (6 * b + (n_why σ b h).toNat) = n_worth σ b h) := by
  rcases n_be_inv σ b (n_cnt σ h) (σ 9 b) with ⟨a1, a2, a3, a4⟩ | ⟨a1, a2, a3, a4, a5, a6⟩
  · exact Or.inl ⟨a1, a3⟩
  · exact Or.inr ⟨a1, a2, a3⟩
theorem km_worth {σ : St} {M : mM} {b h : Int} (hw : Wf σ) (hR : MR σ M) : C_ kk_X11_worth [v_P 79, v_I b, v_I h] M (PM (sp_worth σ b h) M) := by
  have hnb := hw.2.2.2.1
  have p8 := pow8 hw
  refine c_intro (by decide) rfl (Nat.le_of_ble_eq_true rfl) (by simp [m_dv, Value.category]) (wp_X11_worth_0 ?_)
  rw [hR.2.2.1]
  refine ⟨by omega, fun q => ⟨_, km_isHeap hw hR, fun r2 M3 _ _ e3 => ?_⟩, fun q => ?_⟩
  · obtain ⟨rfl, rfl⟩ := e3
    refine ⟨fun q2 => ?_, fun q2 => ?_⟩
    · by_cases hh : 0 ≤ h ∧ h < ((2 ^ σ 0 0 : Nat) : Int)
      · obtain ⟨b', rfl⟩ := nat_of q.1
        obtain ⟨h', rfl⟩ := nat_of hh.1
        have hb9 := (hw.2.2.2.2.1 b' (by omega)).2.2.2.1
        refine ⟨_, km_bestOf hw hR (by omega) (by omega), fun r9 M10 _ _ e10 => ?_⟩
        obtain ⟨rfl, rfl⟩ := e10
        unfold sp_worth
        rw [if_neg (by omega), if_neg (by omega)]
        simp only [Int.toNat_natCast]
        rcases n_worth_why (σ := σ) (b := b') (h := h') with ⟨a1, a2⟩ | ⟨a1, a2, a3⟩
        · refine ⟨fun z => absurd a1 (by omega), fun _ => ?_⟩
          rw [a2]
          exact PM_same hR
        · refine ⟨fun _ => ⟨⟨by omega, by omega⟩, ⟨by omega, by omega⟩, by omega, ?_⟩, fun z => absurd a1 z⟩
          rw [show (6 * (b' : Int) + n_why σ b' h').toNat = 6 * b' + (n_why σ b' h').toNat by omega, ((hR.2.2.2.2.2.1 b' (by omega)).2.2 (n_why σ b' h').toNat (by omega)).1, a3]
          exact PM_same hR
      · rw [if_neg hh] at q2
        exact absurd rfl q2
    · have hh : ¬ (0 ≤ h ∧ h < ((2 ^ σ 0 0 : Nat) : Int)) := fun z => by
        rw [if_pos z] at q2
        exact absurd q2 (by decide)
      unfold sp_worth
      rw [if_neg (by omega), if_pos (by omega)]
      exact PM_same hR
  · unfold sp_worth
    rw [if_pos q]
    exact PM_same hR
theorem km_why {σ : St} {M : mM} {b h : Int} (hw : Wf σ) (hR : MR σ M) : C_ kk_X11_why [v_P 79, v_I b, v_I h] M (PM (sp_why σ b h) M) := by
  have hnb := hw.2.2.2.1
  have p8 := pow8 hw
  refine c_intro (by decide) rfl (Nat.le_of_ble_eq_true rfl) (by simp [m_dv, Value.category]) (wp_X11_why_0 ?_)
  rw [hR.2.2.1]
  refine ⟨by omega, fun q => ⟨_, km_isHeap hw hR, fun r2 M3 _ _ e3 => ?_⟩, fun q => ?_⟩
  · obtain ⟨rfl, rfl⟩ := e3
    refine ⟨fun q2 => ?_, fun q2 => ?_⟩
    · have hh : ¬ (0 ≤ h ∧ h < ((2 ^ σ 0 0 : Nat) : Int)) := fun z => by
        rw [if_pos z] at q2
        exact absurd q2 (by decide)
      unfold sp_why
      rw [if_neg (by omega), if_pos (by omega)]
      exact PM_same hR
    · by_cases hh : 0 ≤ h ∧ h < ((2 ^ σ 0 0 : Nat) : Int)
      · obtain ⟨b', rfl⟩ := nat_of q.1
        obtain ⟨h', rfl⟩ := nat_of hh.1
        refine ⟨_, km_bestOf hw hR (by omega) (by omega), fun r9 M10 _ _ e10 => ?_⟩
        obtain ⟨rfl, rfl⟩ := e10
        unfold sp_why
        rw [if_neg (by omega), if_neg (by omega)]
        exact PM_same hR
      · rw [if_neg hh] at q2
        exact absurd rfl q2
  · unfold sp_why
    rw [if_pos q]
    exact PM_same hR
