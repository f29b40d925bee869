/-! BREAK, the class -/
theorem bc_256 : ∀ n, n < 256 → ((m_ir (((n : Nat) : Int) - (m_and (m_ushr ((n : Nat) : Int) 1) 1431655765))) ∧ (m_ir ((m_and (((n : Nat) : Int) - (m_and (m_ushr ((n : Nat) : Int) 1) 1431655765)) 858993459) + (m_and (m_ushr (((n : Nat) : Int) - (m_and (m_ushr ((n : Nat) : Int) 1) 1431655765)) 2) 858993459))) ∧ (m_ir (((m_and (((n : Nat) : Int) - (m_and (m_ushr ((n : Nat) : Int) 1) 1431655765)) 858993459) + (m_and (m_ushr (((n : Nat) : Int) - (m_and (m_ushr ((n : Nat) : Int) 1) 1431655765)) 2) 858993459)) + (m_ushr ((m_and (((n : Nat) : Int) - (m_and (m_ushr ((n : Nat) : Int) 1) 1431655765)) 858993459) + (m_and (m_ushr (((n : Nat) : Int) - (m_and (m_ushr ((n : Nat) : Int) 1) 1431655765)) 2) 858993459)) 4))) ∧ (m_ir ((m_and (((m_and (((n : Nat) : Int) - (m_and (m_ushr ((n : Nat) : Int) 1) 1431655765)) 858993459) + (m_and (m_ushr (((n : Nat) : Int) - (m_and (m_ushr ((n : Nat) : Int) 1) 1431655765)) 2) 858993459)) + (m_ushr ((m_and (((n : Nat) : Int) - (m_and (m_ushr ((n : Nat) : Int) 1) 1431655765)) 858993459) + (m_and (m_ushr (((n : Nat) : Int) - (m_and (m_ushr ((n : Nat) : Int) 1) 1431655765)) 2) 858993459)) 4)) 252645135) + (m_ushr (m_and (((m_and (((n : Nat) : Int) - (m_and (m_ushr ((n : Nat) : Int) 1) 1431655765)) 858993459) + (m_and (m_ushr (((n : Nat) : Int) - (m_and (m_ushr ((n : Nat) : Int) 1) 1431655765)) 2) 858993459)) + (m_ushr ((m_and (((n : Nat) : Int) - (m_and (m_ushr ((n : Nat) : Int) 1) 1431655765)) 858993459) + (m_and (m_ushr (((n : Nat) : Int) - (m_and (m_ushr ((n : Nat) : Int) 1) 1431655765)) 2) 858993459)) 4)) 252645135) 8))) ∧ (m_ir (((m_and (((m_and (((n : Nat) : Int) - (m_and (m_ushr ((n : Nat) : Int) 1) 1431655765)) 858993459) + (m_and (m_ushr (((n : Nat) : Int) - (m_and (m_ushr ((n : Nat) : Int) 1) 1431655765)) 2) 858993459)) + (m_ushr ((m_and (((n : Nat) : Int) - (m_and (m_ushr ((n : Nat) : Int) 1) 1431655765)) 858993459) + (m_and (m_ushr (((n : Nat) : Int) - (m_and (m_ushr ((n : Nat) : Int) 1) 1431655765)) 2) 858993459)) 4)) 252645135) + (m_ushr (m_and (((m_and (((n : Nat) : Int) - (m_and (m_ushr ((n : Nat) : Int) 1) 1431655765)) 858993459) + (m_and (m_ushr (((n : Nat) : Int) - (m_and (m_ushr ((n : Nat) : Int) 1) 1431655765)) 2) 858993459)) + (m_ushr ((m_and (((n : Nat) : Int) - (m_and (m_ushr ((n : Nat) : Int) 1) 1431655765)) 858993459) + (m_and (m_ushr (((n : Nat) : Int) - (m_and (m_ushr ((n : Nat) : Int) 1) 1431655765)) 2) 858993459)) 4)) 252645135) 8)) + (m_ushr ((m_and (((m_and (((n : Nat) : Int) - (m_and (m_ushr ((n : Nat) : Int) 1) 1431655765)) 858993459) + (m_and (m_ushr (((n : Nat) : Int) - (m_and (m_ushr ((n : Nat) : Int) 1) 1431655765)) 2) 858993459)) + (m_ushr ((m_and (((n : Nat) : Int) - (m_and (m_ushr ((n : Nat) : Int) 1) 1431655765)) 858993459) + (m_and (m_ushr (((n : Nat) : Int) - (m_and (m_ushr ((n : Nat) : Int) 1) 1431655765)) 2) 858993459)) 4)) 252645135) + (m_ushr (m_and (((m_and (((n : Nat) : Int) - (m_and (m_ushr ((n : Nat) : Int) 1) 1431655765)) 858993459) + (m_and (m_ushr (((n : Nat) : Int) - (m_and (m_ushr ((n : Nat) : Int) 1) 1431655765)) 2) 858993459)) + (m_ushr ((m_and (((n : Nat) : Int) - (m_and (m_ushr ((n : Nat) : Int) 1) 1431655765)) 858993459) + (m_and (m_ushr (((n : Nat) : Int) - (m_and (m_ushr ((n : Nat) : Int) 1) 1431655765)) 2) 858993459)) 4)) 252645135) 8)) 16)))) ∧ m_and (((m_and (((m_and (((n : Nat) : Int) - (m_and (m_ushr ((n : Nat) : Int) 1) 1431655765)) 858993459) + (m_and (m_ushr (((n : Nat) : Int) - (m_and (m_ushr ((n : Nat) : Int) 1) 1431655765)) 2) 858993459)) + (m_ushr ((m_and (((n : Nat) : Int) - (m_and (m_ushr ((n : Nat) : Int) 1) 1431655765)) 858993459) + (m_and (m_ushr (((n : Nat) : Int) - (m_and (m_ushr ((n : Nat) : Int) 1) 1431655765)) 2) 858993459)) 4)) 252645135) + (m_ushr (m_and (((m_and (((n : Nat) : Int) - (m_and (m_ushr ((n : Nat) : Int) 1) 1431655765)) 858993459) + (m_and (m_ushr (((n : Nat) : Int) - (m_and (m_ushr ((n : Nat) : Int) 1) 1431655765)) 2) 858993459)) + (m_ushr ((m_and (((n : Nat) : Int) - (m_and (m_ushr ((n : Nat) : Int) 1) 1431655765)) 858993459) + (m_and (m_ushr (((n : Nat) : Int) - (m_and (m_ushr ((n : Nat) : Int) 1) 1431655765)) 2) 858993459)) 4)) 252645135) 8)) + (m_ushr ((m_and (((m_and (((n : Nat) : Int) - (m_and (m_ushr ((n : Nat) : Int) 1) 1431655765)) 858993459) + (m_and (m_ushr (((n : Nat) : Int) - (m_and (m_ushr ((n : Nat) : Int) 1) 1431655765)) 2) 858993459)) + (m_ushr ((m_and (((n : Nat) : Int) - (m_and (m_ushr ((n : Nat) : Int) 1) 1431655765)) 858993459) + (m_and (m_ushr (((n : Nat) : Int) - (m_and (m_ushr ((n : Nat) : Int) 1) 1431655765)) 2) 858993459)) 4)) 252645135) + (m_ushr (m_and (((m_and (((n : Nat) : Int) - (m_and (m_ushr ((n : Nat) : Int) 1) 1431655765)) 858993459) + (m_and (m_ushr (((n : Nat) : Int) - (m_and (m_ushr ((n : Nat) : Int) 1) 1431655765)) 2) 858993459)) + (m_ushr ((m_and (((n : Nat) : Int) - (m_and (m_ushr ((n : Nat) : Int) 1) 1431655765)) 858993459) + (m_and (m_ushr (((n : Nat) : Int) - (m_and (m_ushr ((n : Nat) : Int) 1) 1431655765)) 2) 858993459)) 4)) 252645135) 8)) 16)) 63 = ((br_on n : Nat) : Int) := by
  unfold m_ir
  decide +kernel
theorem kc_bitCount {M : mM} {n : Nat} (hn : n < 256) : C_ kk_J6_bitCount_0f7a4 [v_I (n : Int)] M (fun r M' => M' = M ∧ r = (br_on n : Int)) := by
  obtain ⟨⟨a1, a2, a3, a4, a5⟩, a6⟩ := bc_256 n hn
  exact c_intro (by decide) rfl (Nat.le_of_ble_eq_true rfl) (by simp [m_dv, Value.category]) (wp_J6_bitCount_0f7a4_0 ⟨a1, a2, a3, a4, a5, rfl, a6⟩)
theorem kc_alternatives {σ : St} {M : mM} (hw : Wf σ) (hh : HH σ M) : C_ kk_X6_alternatives [v_P 1] M (fun r M' => M' = M ∧ r = br_off σ (σ 5 0)) := by
  have hnb := hw.2.2.2.1
  refine c_intro (by decide) rfl (Nat.le_of_ble_eq_true rfl) (by simp [m_dv, Value.category]) (wp_X6_alternatives_0 ?_)
  have loop : ∀ (m b : Nat), b + m = σ 5 0 → (br_off σ b ≤ 6 * b) → X_ kk_X6_alternatives 4 [v_P 1, v_I (br_off σ b : Int), v_I (b : Int)] [] M (fun r M' => M' = M ∧ r = br_off σ (σ 5 0)) := by
    intro m
    induction m with
    | zero =>
      intro b hb _
      exact wp_X6_alternatives_4 ⟨fun _ => ⟨rfl, by rw [show b = σ 5 0 by omega]⟩, fun y => absurd y (by rw [hh.2.1]; omega)⟩
    | succ m ih =>
      intro b hb hle
      have h9 := (hw.2.2.2.2.1 b (by omega)).2.2.2.1
      have nx := ih (b + 1) (by omega) (by rw [br_off_s]; omega)
      rw [br_off_s] at nx
      refine wp_X6_alternatives_4 ⟨fun y => absurd y (by rw [hh.2.1]; omega), fun _ => ?_⟩
      rw [Int.toNat_natCast, (hh.2.2.2 b (by omega)).2.2.2.1]
      exact ⟨by omega, ⟨by omega, by omega⟩, ⟨by omega, by omega⟩, nx⟩
  exact loop (σ 5 0) 0 (by omega) (Nat.le_refl _)
theorem kc_leftAlready {σ : St} {M : mM} (hw : Wf σ) (h : CR σ M) (ho : br_off σ (σ 5 0) ≤ 8) : C_ kk_X0_leftAlready [v_P 74] M (fun r M' => M' = M ∧ r = br_gn σ (σ 5 0)) := by
  have hnb := hw.2.2.2.1
  have hh : HH σ M := ⟨h.1, h.2.1⟩
  have p31 : ∀ b, b ≤ σ 5 0 → br_off σ b ≤ 8 ∧ 2 ^ br_off σ b ≤ 256 := fun b hb => by
    have := br_off_mono (σ := σ) hb
    exact ⟨by omega, Nat.pow_le_pow_right (n := 2) (j := 8) (by decide) (by omega)⟩
  refine c_intro (by decide) rfl (Nat.le_of_ble_eq_true rfl) (by simp [m_dv, Value.category]) (wp_X0_leftAlready_0 ?_)
  have loop : ∀ (m b : Nat), b + m = σ 5 0 → X_ kk_X0_leftAlready 6 [v_P 74, v_I (br_gn σ b : Int), v_I (br_off σ b : Int), v_I (b : Int)] [] M (fun r M' => M' = M ∧ r = br_gn σ (σ 5 0)) := by
    intro m
    induction m with
    | zero =>
      intro b hb
      exact wp_X0_leftAlready_6 ⟨fun _ => ⟨rfl, by rw [show b = σ 5 0 by omega]⟩, fun y => absurd y (by rw [hh.2.1]; omega)⟩
    | succ m ih =>
      intro b hb
      have h9 := (hw.2.2.2.2.1 b (by omega)).2.2.2.1
      have nx := ih (b + 1) (by omega)
      have g1 := br_gn_lt hw b (by omega)
      have g2 := br_l_lt hw (b := b) (by omega)
      have q1 := p31 b (by omega)
      have q2 := p31 (b + 1) (by omega)
      have e1 : br_gn σ (b + 1) = br_gn σ b ||| (σ 12 b * 2 ^ br_off σ b) := rfl
      rw [e1, br_off_s] at nx
      refine wp_X0_leftAlready_6 ⟨fun y => absurd y (by rw [hh.2.1]; omega), fun _ => ?_⟩
      rw [Int.toNat_natCast, (hh.2.2.2 b (by omega)).2.2.2.1, (h.2.2.2.1 b (by omega)).1, b_shl (by omega) (by omega), b_or (by omega) (by omega)]
      exact ⟨by omega, by omega, ⟨by omega, by omega⟩, ⟨by omega, by omega⟩, nx⟩
  exact loop (σ 5 0) 0 (by omega)
theorem kc_leaveOut {σ : St} {M : mM} {s : Nat} (hw : Wf σ) (h6 : M 1 6 = σ 5 0) (h9 : ∀ b, b < 6 → M (8 + 3 * b) 3 = σ 9 b) (hs : s < 256) : C_ kk_X0_leaveOut [v_P 74, v_I (s : Int)] M (fun _ M' => (∀ b, b < σ 5 0 → M' (8 + 3 * b) 7 = br_pt σ s b) ∧ (∀ b i, b < 6 → (i ≠ 7 ∨ σ 5 0 ≤ b) → M' (8 + 3 * b) i = M (8 + 3 * b) i) ∧ ∀ p, (p < 8 ∨ p % 3 ≠ 2 ∨ 26 ≤ p) → M' p = M p) := by
  have hnb := hw.2.2.2.1
  refine c_intro (by decide) rfl (Nat.le_of_ble_eq_true rfl) (by simp [m_dv, Value.category]) (wp_X0_leaveOut_0 ?_)
  have loop : ∀ (m b : Nat) (N : mM), b + m = σ 5 0 → (∀ b', b' < b → N (8 + 3 * b') 7 = br_pt σ s b') → (∀ b i, b < 6 → (i ≠ 7 ∨ σ 5 0 ≤ b) → N (8 + 3 * b) i = M (8 + 3 * b) i) → (∀ p, (p < 8 ∨ p % 3 ≠ 2 ∨ 26 ≤ p) → N p = M p) → X_ kk_X0_leaveOut 4 [v_P 74, v_U, v_I ((s / 2 ^ br_off σ b : Nat) : Int), v_I (b : Int), v_U] [] N (fun _ M' => (∀ b, b < σ 5 0 → M' (8 + 3 * b) 7 = br_pt σ s b) ∧ (∀ b i, b < 6 → (i ≠ 7 ∨ σ 5 0 ≤ b) → M' (8 + 3 * b) i = M (8 + 3 * b) i) ∧ ∀ p, (p < 8 ∨ p % 3 ≠ 2 ∨ 26 ≤ p) → M' p = M p) := by
    intro m
    induction m with
    | zero =>
      intro b N hb n1 n2 n3
      exact wp_X0_leaveOut_4 ⟨fun _ => ⟨fun b' hb' => n1 b' (by omega), n2, n3⟩, fun y => absurd y (by rw [n3 1 (by omega), h6]; omega)⟩
    | succ m ih =>
      intro b N hb n1 n2 n3
      have h9' := (hw.2.2.2.2.1 b (by omega)).2.2.2.1
      have hd : s / 2 ^ br_off σ b ≤ s := Nat.div_le_self _ _
      have p6 : 2 ^ σ 9 b ≤ 64 := Nat.pow_le_pow_right (n := 2) (j := 6) (by decide) h9'
      have pp : 0 < 2 ^ σ 9 b := Nat.pow_pos (by decide)
      refine wp_X0_leaveOut_4 ⟨fun y => absurd y (by rw [n3 1 (by omega), h6]; omega), fun _ => ?_⟩
      rw [Int.toNat_natCast, n2 b 3 (by omega) (by omega), h9 b (by omega), b_shl1 (by omega), show ((2 ^ σ 9 b : Nat) : Int) - 1 = ((2 ^ σ 9 b - 1 : Nat) : Int) by omega, b_and (by omega), Nat.and_two_pow_sub_one_eq_mod]
      refine ⟨by omega, ⟨by omega, by omega⟩, fun M4 e4 => ⟨⟨by omega, by omega⟩, ?_⟩⟩
      subst e4
      have ed : (s / 2 ^ br_off σ b) / 2 ^ σ 9 b = s / 2 ^ br_off σ (b + 1) := by rw [Nat.div_div_eq_div_mul, br_off_s, Nat.pow_add]
      first
        | rw [up_slot (by decide), n2 b 3 (by omega) (by omega), h9 b (by omega), b_shr (by omega) (by omega), ed]
        | rw [b_shr (by omega) (by omega), ed]
      refine ih (b + 1) _ (by omega) (fun b' hb' => ?_) (fun b' i hb' hi => ?_) (fun p hp => ?_)
      · by_cases e : b' = b
        · subst e; rw [up_hit]; rfl
        · rw [up_row (by omega)]; exact n1 b' (by omega)
      · by_cases e : b' = b
        · subst e; rw [up_slot (by omega)]; exact n2 b' i hb' hi
        · rw [up_row (by omega)]; exact n2 b' i hb' hi
      · rw [up_row (by omega)]; exact n3 p hp
  have l0 := loop (σ 5 0) 0 M (by omega) (fun b' hb' => by omega) (fun _ _ _ _ => rfl) (fun _ _ => rfl)
  have e0 : br_off σ 0 = 0 := rfl
  rw [e0, Nat.pow_zero, Nat.div_one] at l0
  exact l0
/-- what stays while it is looked for -/
def FZ (n : Nat) (M N : mM) : Prop := (∀ p, (p < 8 ∨ p % 3 ≠ 2 ∧ p < 48 ∨ 26 ≤ p ∧ p < 48 ∨ p = 49 ∨ 60 ≤ p ∧ p < 65 ∨ 70 ≤ p ∧ p ≠ 74) → N p = M p) ∧ ∀ b i, b < 6 → (i ≠ 7 ∨ n ≤ b) → N (8 + 3 * b) i = M (8 + 3 * b) i
theorem FZ_tr {n : Nat} {M N K : mM} (h : FZ n M N) (h1 : ∀ p, p < 48 ∨ p = 49 ∨ 60 ≤ p ∧ p < 65 ∨ 70 ≤ p ∧ p ≠ 74 → K p = N p) : FZ n M K := ⟨fun p hp => by rw [h1 p (by omega)]; exact h.1 p hp, fun b i hb hi => by rw [h1 (8 + 3 * b) (by omega)]; exact h.2 b i hb hi⟩
theorem br_hh {σ : St} {M N : mM} {s : Nat} (hw : Wf σ) (h : CR σ M) (hf : FZ (σ 5 0) M N) (ht : ∀ b, b < σ 5 0 → N (8 + 3 * b) 7 = br_pt σ s b) : HH (br_sv σ s) N := by
  obtain ⟨⟨g1, g2⟩, ⟨g3, g4, g5⟩, g6, g7, -⟩ := h
  refine ⟨⟨?_, fun j hj => ?_⟩, ?_, ?_, fun b hb => ?_⟩
  · rw [hf.1 1 (by omega)]; exact g1
  · rw [hf.1 2 (by omega), hf.1 3 (by omega), hf.1 4 (by omega), hf.1 6 (by omega)]; exact g2 j hj
  · rw [hf.1 1 (by omega)]; exact g3
  · rw [hf.1 1 (by omega)]; exact g4
  · obtain ⟨a1, a2, a3, a4, a5, a6⟩ := g5 b hb
    have h9 := (hw.2.2.2.2.1 b hb).2.2.2.1
    have h12 := (hw.2.2.2.2.1 b hb).2.2.2.2.1
    have p6 : 2 ^ σ 9 b ≤ 64 := Nat.pow_le_pow_right (n := 2) (j := 6) (by decide) h9
    have hpt := br_pt_lt (σ := σ) (s := s) (b := b)
    have e7 : N (8 + 3 * b) 7 = br_pt σ s b := by
      by_cases q : b < σ 5 0
      · exact ht b q
      · rw [hf.2 b 7 hb (by omega), (g7 b hb).2]
        have := (hw.2.2.2.2.2.1 b (by omega) hb).2.2.2
        unfold br_pt
        rw [this, Nat.pow_zero, Nat.mod_one]
        rfl
    refine ⟨?_, ?_, ?_, ?_, ?_, fun i hi => ?_⟩
    · rw [hf.2 b 0 hb (by omega)]; exact a1
    · rw [hf.2 b 1 hb (by omega)]; exact a2
    · rw [hf.2 b 2 hb (by omega)]; exact a3
    · rw [hf.2 b 3 hb (by omega)]; exact a4
    · rw [hf.2 b 6 hb (by omega), (g7 b hb).1, e7, b_or (by omega) (by omega)]
      rfl
    · rw [hf.1 (8 + 3 * b + 1) (by omega), hf.1 (8 + 3 * b + 2) (by omega)]
      exact a6 i hi
theorem kc_endsFair {σ : St} {M N : mM} {s : Nat} (hw : Wf σ) (hw2 : Wf2 σ) (h : CR σ M) (hf : FZ (σ 5 0) M N) (hs : s < 256) : C_ kk_X0_endsFair [v_P 74, v_I (s : Int)] N (fun r M' => (r ≠ 0 ↔ k_mis (br_sv (nz σ) s) (k_rp (br_sv (nz σ) s) 300) = 0) ∧ FZ (σ 5 0) M M' ∧ M' 74 = N 74) := by
  have h9 : ∀ b, b < 6 → N (8 + 3 * b) 3 = σ 9 b := fun b hb => by rw [hf.2 b 3 hb (by omega)]; exact (h.2.1.2.2 b hb).2.2.2.1
  refine c_intro (by decide) rfl (Nat.le_of_ble_eq_true rfl) (by simp [m_dv, Value.category]) (wp_X0_endsFair_0 ⟨_, kc_leaveOut hw (by rw [hf.1 1 (by omega)]; exact h.2.1.1) h9 hs, fun r2 M3 _ _ e3 => ?_⟩)
  obtain ⟨t1, t2, t3⟩ := e3
  have f3 : FZ (σ 5 0) M M3 := ⟨fun p hp => by rw [t3 p (by omega)]; exact hf.1 p hp, fun b i hb hi => by rw [t2 b i hb hi]; exact hf.2 b i hb hi⟩
  have hh3 := nz_hh (br_hh hw h f3 t1)
  rw [br_nz] at hh3
  have hwt := br_wf (s := s) (nz_wf hw)
  have hwt2 := br_wf2 (s := s) (nz_wf2 hw2)
  generalize br_sv (nz σ) s = τ at hh3 hwt hwt2 ⊢
  refine ⟨_, kc_mostWorth hwt hh3, fun r9 M10 _ _ e10 => ?_⟩
  obtain ⟨rfl, -, f10⟩ := e10
  have hh10 := HH_of hh3 (fun p hp => f10 p (by omega))
  refine ⟨_, kc_raise hwt hwt2 hh10, fun r16 M17 _ _ e17 => ?_⟩
  obtain ⟨-, x5, -, f17⟩ := e17
  have fr : FZ (σ 5 0) M M17 := FZ_tr f3 (fun p hp => by rw [f17 p (by omega), f10 p (by omega)])
  have f74 : M17 74 = N 74 := by rw [f17 74 (by omega), f10 74 (by omega), t3 74 (by omega)]
  rw [x5]
  exact ⟨fun q => ⟨⟨fun z => absurd rfl z, fun z => absurd z q⟩, fr, f74⟩, fun q => ⟨⟨fun _ => q, fun _ => by decide⟩, fr, f74⟩⟩
theorem br_sz {σ : St} : br_off (nz σ) (nz σ 5 0) = br_off σ (σ 5 0) := rfl
theorem kc_find {σ : St} {M : mM} (hw : Wf σ) (hw2 : Wf2 σ) (h : CR σ M) (hK : KB σ M) (ho : br_off σ (σ 5 0) ≤ 8) : C_ kk_X0_find [v_P 74] M (fun _ M' => M' 74 3 = br_st (nz σ) (2 ^ br_off σ (σ 5 0)) ∧ CR σ M' ∧ FrC M M' ∧ KB σ M' ∧ ∀ p, 70 ≤ p → p < 74 → M' p = M p) := by
  have hnb := hw.2.2.2.1
  have hwz := nz_wf hw
  refine c_intro (by decide) rfl (Nat.le_of_ble_eq_true rfl) (by simp [m_dv, Value.category]) (wp_X0_find_0 ⟨fun q => ⟨_, kc_alternatives hw ⟨h.1, h.2.1⟩, fun r2 M3 _ _ e3 => ?_⟩, fun q => ⟨hK q, h, Fr_rfl, hK, fun _ _ _ => rfl⟩⟩)
  obtain ⟨e3a, rfl⟩ := e3
  subst e3a
  refine ⟨_, kc_leftAlready hw h ho, fun r9 M10 _ _ e10 => ?_⟩
  obtain ⟨e10a, rfl⟩ := e10
  subst e10a
  have hex := br_ex hwz
  have hst := br_st_0 hwz
  rw [br_sz] at hex hst
  have fin : ∀ N : mM, FZ (σ 5 0) M10 N → N 74 3 = br_st (nz σ) (2 ^ br_off σ (σ 5 0)) → ∃ Qc1 : Int → mM → Prop, C_ kk_X0_leaveOut [v_P 74, v_I 0] N Qc1 ∧ ∀ (r2 : Int) (M3 : mM), m_ir r2 → m_okM M3 → Qc1 r2 M3 → (fun (_ : Int) (M' : mM) => M' 74 3 = br_st (nz σ) (2 ^ br_off σ (σ 5 0)) ∧ CR σ M' ∧ FrC M10 M' ∧ KB σ M' ∧ ∀ p, 70 ≤ p → p < 74 → M' p = M10 p) 0 (m_up M3 74 4 1) := by
    intro N hf hv
    have h9 : ∀ b, b < 6 → N (8 + 3 * b) 3 = σ 9 b := fun b hb => by rw [hf.2 b 3 hb (by omega)]; exact (h.2.1.2.2 b hb).2.2.2.1
    refine ⟨_, kc_leaveOut (s := 0) hw (by rw [hf.1 1 (by omega)]; exact h.2.1.1) h9 (by decide), fun r2 M3 _ _ e3 => ?_⟩
    obtain ⟨t1, t2, t3⟩ := e3
    have hv' : (m_up M3 74 4 1) 74 3 = br_st (nz σ) (2 ^ br_off σ (σ 5 0)) := by rw [up_slot (by decide), t3 74 (by omega)]; exact hv
    refine ⟨hv', ?_, fun p hp => by rw [up_row (by omega), t3 p (by omega)]; exact hf.1 p (by omega), fun _ => hv', fun p hp hp2 => by rw [up_row (by omega), t3 p (by omega)]; exact hf.1 p (by omega)⟩
    have rows : ∀ p, (p < 30 ∨ p = 61 ∨ p = 76) → (m_up M3 74 4 1) p = M10 p := fun p hp => by
      rw [up_row (by omega)]
      by_cases e : p < 8 ∨ p % 3 ≠ 2 ∨ 26 ≤ p
      · rw [t3 p e]; exact hf.1 p (by omega)
      · obtain ⟨b, rfl⟩ : ∃ b, p = 8 + 3 * b := ⟨(p - 8) / 3, by omega⟩
        funext i
        by_cases e2 : i ≠ 7 ∨ σ 5 0 ≤ b
        · rw [t2 b i (by omega) e2]; exact hf.2 b i (by omega) e2
        · have ei : i = 7 := by omega
          subst ei
          rw [t1 b (by omega), (h.2.2.2.1 b (by omega)).2]
          unfold br_pt
          rw [Nat.zero_div, Nat.zero_mod]
          rfl
    exact CR_fr h rows (by rw [up_row (by decide), t3 75 (by omega), hf.1 75 (by omega)])
  have e256 : 2 ^ br_off σ (σ 5 0) ≤ 256 := Nat.pow_le_pow_right (n := 2) (j := 8) (by decide) ho
  have hg := br_gn_lt hw (σ 5 0) hnb
  have gfree : ∀ s : Nat, (s &&& br_gn σ (σ 5 0) = 0 ↔ br_free (nz σ) s) := fun s => br_gn_free hw (σ 5 0) hnb
  have hon : ∀ s, s < 2 ^ br_off σ (σ 5 0) → br_on s ≤ br_off σ (σ 5 0) := fun s hs => br_on_8 ho hs
  have emin : min (br_off σ (σ 5 0) : Int) 8 = (br_off σ (σ 5 0) : Int) := by omega
  rw [emin]
  have eshl : m_shl 1 (br_off σ (σ 5 0) : Int) = ((2 ^ br_off σ (σ 5 0) : Nat) : Int) := b_shl1 (by omega)
  have efair := fun N s => @kc_endsFair σ M10 N s hw hw2 h
  have euni := fun x => @br_uni (nz σ) (2 ^ br_off σ (σ 5 0)) x
  generalize br_off σ (σ 5 0) = A at ho fin hex hst e256 hg hon eshl euni ⊢
  generalize br_gn σ (σ 5 0) = g at hg gfree ⊢
  have outer : ∀ (f z : Nat) (N : mM), z + f = A + 1 → FZ (σ 5 0) M10 N → ((N 74 3 = -6 ∧ ∀ s, s < 2 ^ A → br_fb (nz σ) s = true → z ≤ br_on s) ∨ N 74 3 = br_st (nz σ) (2 ^ A)) → X_ kk_X0_find 34 [v_P 74, v_I (A : Int), v_I (g : Int), v_I (z : Int), v_U] [] N (fun (_ : Int) (M' : mM) => M' 74 3 = br_st (nz σ) (2 ^ A) ∧ CR σ M' ∧ FrC M10 M' ∧ KB σ M' ∧ ∀ p, 70 ≤ p → p < 74 → M' p = M10 p) := by
    intro f
    induction f with
    | zero =>
      intro z N hz hf hv
      refine wp_X0_find_34 ⟨fun _ => fin N hf ?_, fun y => absurd y (by omega)⟩
      rcases hv with ⟨_, a⟩ | a
      · obtain ⟨s, s1, s2⟩ := hex
        have := a s s1 s2
        have := hon s s1
        omega
      · exact a
    | succ f ih =>
      intro z N hz hf hv
      refine wp_X0_find_34 ⟨fun y => absurd y (by omega), fun _ => ⟨fun q => fin N hf ?_, fun q => ?_⟩⟩
      · rcases hv with ⟨a, _⟩ | a
        · omega
        · exact a
      · have hv' : N 74 3 = -6 ∧ ∀ s, s < 2 ^ A → br_fb (nz σ) s = true → z ≤ br_on s := by
          rcases hv with a | a
          · exact a
          · omega
        have inner : ∀ (j s : Nat) (K : mM), s + j = 2 ^ A → FZ (σ 5 0) M10 K → ((K 74 3 = -6 ∧ ∀ s', s' < s → br_fb (nz σ) s' = true → z < br_on s') ∨ K 74 3 = br_st (nz σ) (2 ^ A)) → X_ kk_X0_find 49 [v_P 74, v_I (A : Int), v_I (g : Int), v_I (z : Int), v_I (s : Int)] [] K (fun (_ : Int) (M' : mM) => M' 74 3 = br_st (nz σ) (2 ^ A) ∧ CR σ M' ∧ FrC M10 M' ∧ KB σ M' ∧ ∀ p, 70 ≤ p → p < 74 → M' p = M10 p) := by
          intro j
          induction j with
          | zero =>
            intro s K hs hfK hvK
            refine wp_X0_find_49 ?_
            rw [eshl]
            refine ⟨fun _ => ⟨⟨by omega, by omega⟩, ih (z + 1) K (by omega) hfK ?_⟩, fun y => absurd y (by omega)⟩
            rcases hvK with ⟨a, b⟩ | a
            · exact Or.inl ⟨a, fun s' h1 h2 => b s' (by omega) h2⟩
            · exact Or.inr a
          | succ j ihj =>
            intro s K hs hfK hvK
            refine wp_X0_find_49 ?_
            rw [eshl]
            refine ⟨fun y => absurd y (by omega), fun _ => ⟨fun q2 => ⟨⟨by omega, by omega⟩, ih (z + 1) K (by omega) hfK ?_⟩, fun q2 => ?_⟩⟩
            · rcases hvK with ⟨a, _⟩ | a
              · omega
              · exact Or.inr a
            · have hvK' : K 74 3 = -6 ∧ ∀ s', s' < s → br_fb (nz σ) s' = true → z < br_on s' := by
                rcases hvK with a | a
                · exact a
                · omega
              obtain ⟨k1, k2⟩ := hvK'
              have is1 : m_ir ((s : Int) + 1) := ⟨by omega, by omega⟩
              have nxt : ∀ K' : mM, FZ (σ 5 0) M10 K' → K' 74 3 = -6 → (br_fb (nz σ) s = true → z < br_on s) → X_ kk_X0_find 49 [v_P 74, v_I (A : Int), v_I (g : Int), v_I (z : Int), v_I ((s : Int) + 1)] [] K' (fun (_ : Int) (M' : mM) => M' 74 3 = br_st (nz σ) (2 ^ A) ∧ CR σ M' ∧ FrC M10 M' ∧ KB σ M' ∧ ∀ p, 70 ≤ p → p < 74 → M' p = M10 p) := fun K' a1 a2 a3 =>
                ihj (s + 1) K' (by omega) a1 (Or.inl ⟨a2, fun s' h1 h2 => by
                  by_cases e : s' = s
                  · subst e; exact a3 h2
                  · exact k2 s' (by omega) h2⟩)
              refine ⟨_, kc_bitCount (n := s) (by omega), fun r4 M5 _ _ e5 => ?_⟩
              obtain ⟨e5a, rfl⟩ := e5
              subst e5a
              refine ⟨fun q3 => ⟨is1, nxt _ hfK k1 (fun hb => ?_)⟩, fun q3 => ?_⟩
              · have := hv'.2 s (by omega) hb
                omega
              · rw [b_and (by omega)]
                refine ⟨fun q4 => ⟨is1, nxt _ hfK k1 (fun hb => ?_)⟩, fun q4 => ⟨_, efair M5 s hfK (by omega), fun r13 M14 _ _ e14 => ?_⟩⟩
                · have := (gfree s).2 (br_fb_iff.1 hb).1
                  omega
                · obtain ⟨w1, w2, w3⟩ := e14
                  refine ⟨fun q5 => ⟨is1, nxt _ w2 (by rw [w3]; exact k1) (fun hb => ?_)⟩, fun q5 => ⟨is1, ?_⟩⟩
                  · exact absurd q5 (w1.2 (br_fb_iff.1 hb).2)
                  · have hb : br_fb (nz σ) s = true := br_fb_iff.2 ⟨(gfree s).1 (by omega), w1.1 q5⟩
                    have ev : br_st (nz σ) (2 ^ A) = s := euni s (by omega) hb (fun s' h1 h2 => by
                      have := hv'.2 s' h1 h2
                      by_cases e : s ≤ s'
                      · omega
                      · have := k2 s' (by omega) h2
                        omega)
                    refine ihj (s + 1) _ (by omega) ⟨fun p hp => by rw [up_row (by omega)]; exact w2.1 p hp, fun b i hb hi => by rw [up_row (by omega)]; exact w2.2 b i hb hi⟩ (Or.inr ?_)
                    rw [up_hit, ev]
        exact inner (2 ^ A) 0 N (by omega) hf (Or.inl ⟨hv'.1, fun s' hs' => absurd hs' (Nat.not_lt_zero s')⟩)
  refine outer (A + 1) 0 _ (by omega) ⟨fun p hp => up_row (by omega), fun b i hb hi => by rw [up_row (by omega)]⟩ (Or.inl ⟨up_hit, fun s _ _ => Nat.zero_le _⟩)
theorem kc_broken {σ : St} {M : mM} {w : Int} (hw : Wf σ) (hw2 : Wf2 σ) (h : CR σ M) (hK : KB σ M) : C_ kk_X10_broken [v_P 0, v_I w] M (fun r M' => r = (sp_broken σ w).1 ∧ CR σ M' ∧ FrC M M' ∧ KB σ M' ∧ ∀ p, 70 ≤ p → p < 74 → M' p = M p) := by
  have same : ∀ x : Int, x = (sp_broken σ w).1 → x = (sp_broken σ w).1 ∧ CR σ M ∧ FrC M M ∧ KB σ M ∧ ∀ p, 70 ≤ p → p < 74 → M p = M p := fun x e => ⟨e, h, Fr_rfl, hK, fun _ _ _ => rfl⟩
  refine c_intro (by decide) rfl (Nat.le_of_ble_eq_true rfl) (by simp [m_dv, Value.category]) (wp_X10_broken_0 ⟨fun q => same _ ?_, fun q => ⟨_, kc_alternatives hw ⟨h.1, h.2.1⟩, fun r2 M3 _ _ e3 => ?_⟩⟩)
  · unfold sp_broken
    rw [if_pos q]
  · obtain ⟨e3a, rfl⟩ := e3
    subst e3a
    have es : (sp_broken σ w).1 = if 8 < br_off σ (σ 5 0) then -3 else if w = 0 then br_st (nz σ) (2 ^ br_off σ (σ 5 0)) else (br_on (br_st (nz σ) (2 ^ br_off σ (σ 5 0))).toNat : Int) := by
      unfold sp_broken
      rw [if_neg q]
    rw [es] at same ⊢
    refine ⟨fun q2 => ⟨_, kc_find hw hw2 h hK (by omega), fun r9 M10 _ _ e10 => ?_⟩, fun q2 => same _ ?_⟩
    · obtain ⟨v, rest⟩ := e10
      have hst := br_st_0 (nz_wf hw)
      rw [br_sz] at hst
      have e256 : 2 ^ br_off σ (σ 5 0) ≤ 256 := Nat.pow_le_pow_right (n := 2) (j := 8) (by decide) (by omega)
      rw [if_neg (by omega)]
      refine ⟨fun q3 => ?_, fun q3 => ?_⟩
      · rw [v]
        obtain ⟨n, hn⟩ := nat_of hst.1
        rw [hn] at hst ⊢
        refine ⟨_, kc_bitCount (n := n) (by omega), fun r16 M17 _ _ e17 => ?_⟩
        obtain ⟨e17a, rfl⟩ := e17
        subst e17a
        rw [if_neg q3, Int.toNat_natCast]
        exact ⟨rfl, rest⟩
      · rw [if_pos q3]
        exact ⟨v, rest⟩
    · rw [if_pos (by omega)]
