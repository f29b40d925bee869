/-! the simple calls of the reference -/
theorem MR_up {σ : St} {M : mM} {p j : Nat} {v : Int} (hp : p < 79 ∨ 92 ≤ p ∧ p < 101 ∨ 102 ≤ p ∧ p < 108 ∨ 109 ≤ p) (h : MR σ M) : MR σ (m_up M p j v) := by
  obtain ⟨g1, g2, g3, g4, g5, g6, g7, g8, g9, g10, g11⟩ := h
  refine ⟨?_, fun j hj => ?_, ?_, ?_, fun b hb => ?_, fun b hb => ?_, ?_, fun i hi => ?_, fun l hl => ?_, ?_, fun d hd => ?_⟩
  · (try simp (disch := omega) only [up_row, up_slot, up_hit, su_row, su_slot, su_hit]); exact g1
  · (try simp (disch := omega) only [up_row, up_slot, up_hit, su_row, su_slot, su_hit] at hj ⊢); exact g2 j hj
  · (try simp (disch := omega) only [up_row, up_slot, up_hit, su_row, su_slot, su_hit]); exact g3
  · (try simp (disch := omega) only [up_row, up_slot, up_hit, su_row, su_slot, su_hit]); exact g4
  · (try simp (disch := omega) only [up_row, up_slot, up_hit, su_row, su_slot, su_hit] at hb ⊢); exact g5 b hb
  · (try simp (disch := omega) only [up_row, up_slot, up_hit, su_row, su_slot, su_hit]); exact g6 b hb
  · (try simp (disch := omega) only [up_row, up_slot, up_hit, su_row, su_slot, su_hit]); exact g7
  · (try simp (disch := omega) only [up_row, up_slot, up_hit, su_row, su_slot, su_hit] at hi ⊢); exact g8 i hi
  · (try simp (disch := omega) only [up_row, up_slot, up_hit, su_row, su_slot, su_hit]); exact g9 l hl
  · (try simp (disch := omega) only [up_row, up_slot, up_hit, su_row, su_slot, su_hit]); exact g10
  · (try simp (disch := omega) only [up_row, up_slot, up_hit, su_row, su_slot, su_hit] at hd ⊢); exact g11 d hd
theorem MR_top {σ : St} {M : mM} {v : Nat} (h : MR σ M) : MR (s_up σ 13 0 v) (m_up M 79 9 v) := by
  obtain ⟨g1, g2, g3, g4, g5, g6, g7, g8, g9, g10, g11⟩ := h
  refine ⟨?_, fun j hj => ?_, ?_, ?_, fun b hb => ?_, fun b hb => ?_, ?_, fun i hi => ?_, fun l hl => ?_, ?_, fun d hd => ?_⟩
  · (try simp (disch := omega) only [up_row, up_slot, up_hit, su_row, su_slot, su_hit]); exact g1
  · (try simp (disch := omega) only [up_row, up_slot, up_hit, su_row, su_slot, su_hit] at hj ⊢); exact g2 j hj
  · (try simp (disch := omega) only [up_row, up_slot, up_hit, su_row, su_slot, su_hit]); exact g3
  · simp (disch := omega) only [up_row, up_slot, up_hit, su_row, su_slot, su_hit]
  · (try simp (disch := omega) only [up_row, up_slot, up_hit, su_row, su_slot, su_hit] at hb ⊢); exact g5 b hb
  · (try simp (disch := omega) only [up_row, up_slot, up_hit, su_row, su_slot, su_hit]); exact g6 b hb
  · (try simp (disch := omega) only [up_row, up_slot, up_hit, su_row, su_slot, su_hit]); exact g7
  · (try simp (disch := omega) only [up_row, up_slot, up_hit, su_row, su_slot, su_hit] at hi ⊢); exact g8 i hi
  · (try simp (disch := omega) only [up_row, up_slot, up_hit, su_row, su_slot, su_hit]); exact g9 l hl
  · (try simp (disch := omega) only [up_row, up_slot, up_hit, su_row, su_slot, su_hit]); exact g10
  · (try simp (disch := omega) only [up_row, up_slot, up_hit, su_row, su_slot, su_hit] at hd ⊢); exact g11 d hd
theorem MR_price {σ : St} {M : mM} {l0 v : Nat} (h : MR σ M) : MR (s_up σ 14 l0 v) (m_up M 101 l0 v) := by
  obtain ⟨g1, g2, g3, g4, g5, g6, g7, g8, g9, g10, g11⟩ := h
  refine ⟨?_, fun j hj => ?_, ?_, ?_, fun b hb => ?_, fun b hb => ?_, ?_, fun i hi => ?_, fun l hl => ?_, ?_, fun d hd => ?_⟩
  · (try simp (disch := omega) only [up_row, up_slot, up_hit, su_row, su_slot, su_hit]); exact g1
  · (try simp (disch := omega) only [up_row, up_slot, up_hit, su_row, su_slot, su_hit] at hj ⊢); exact g2 j hj
  · (try simp (disch := omega) only [up_row, up_slot, up_hit, su_row, su_slot, su_hit]); exact g3
  · (try simp (disch := omega) only [up_row, up_slot, up_hit, su_row, su_slot, su_hit]); exact g4
  · (try simp (disch := omega) only [up_row, up_slot, up_hit, su_row, su_slot, su_hit] at hb ⊢); exact g5 b hb
  · (try simp (disch := omega) only [up_row, up_slot, up_hit, su_row, su_slot, su_hit]); exact g6 b hb
  · (try simp (disch := omega) only [up_row, up_slot, up_hit, su_row, su_slot, su_hit]); exact g7
  · (try simp (disch := omega) only [up_row, up_slot, up_hit, su_row, su_slot, su_hit] at hi ⊢); exact g8 i hi
  · by_cases e : l = l0
    · subst e
      simp (disch := omega) only [up_row, up_slot, up_hit, su_row, su_slot, su_hit]
    · simp (disch := omega) only [up_row, up_slot, up_hit, su_row, su_slot, su_hit]
      exact g9 l hl
  · (try simp (disch := omega) only [up_row, up_slot, up_hit, su_row, su_slot, su_hit]); exact g10
  · (try simp (disch := omega) only [up_row, up_slot, up_hit, su_row, su_slot, su_hit] at hd ⊢); exact g11 d hd
theorem MR_signs {σ : St} {M : mM} {c : Nat} (h : MR σ M) : MR (s_up (s_up σ 18 (σ 17 0) c) 17 0 (σ 17 0 + 1)) (m_up (m_up M 87 (σ 17 0) c) 79 11 (σ 17 0 + 1)) := by
  obtain ⟨g1, g2, g3, g4, g5, g6, g7, g8, g9, g10, g11⟩ := h
  refine ⟨?_, fun j hj => ?_, ?_, ?_, fun b hb => ?_, fun b hb => ?_, ?_, fun i hi => ?_, fun l hl => ?_, ?_, fun d hd => ?_⟩
  · (try simp (disch := omega) only [up_row, up_slot, up_hit, su_row, su_slot, su_hit]); exact g1
  · (try simp (disch := omega) only [up_row, up_slot, up_hit, su_row, su_slot, su_hit] at hj ⊢); exact g2 j hj
  · (try simp (disch := omega) only [up_row, up_slot, up_hit, su_row, su_slot, su_hit]); exact g3
  · (try simp (disch := omega) only [up_row, up_slot, up_hit, su_row, su_slot, su_hit]); exact g4
  · (try simp (disch := omega) only [up_row, up_slot, up_hit, su_row, su_slot, su_hit] at hb ⊢); exact g5 b hb
  · (try simp (disch := omega) only [up_row, up_slot, up_hit, su_row, su_slot, su_hit]); exact g6 b hb
  · simp (disch := omega) only [up_row, up_slot, up_hit, su_row, su_slot, su_hit]
    omega
  · by_cases e : i = σ 17 0
    · subst e
      simp (disch := omega) only [up_row, up_slot, up_hit, su_row, su_slot, su_hit]
    · simp (disch := omega) only [up_row, up_slot, up_hit, su_row, su_slot, su_hit] at hi ⊢
      exact g8 i (by omega)
  · (try simp (disch := omega) only [up_row, up_slot, up_hit, su_row, su_slot, su_hit]); exact g9 l hl
  · (try simp (disch := omega) only [up_row, up_slot, up_hit, su_row, su_slot, su_hit]); exact g10
  · (try simp (disch := omega) only [up_row, up_slot, up_hit, su_row, su_slot, su_hit] at hd ⊢); exact g11 d hd
theorem MR_wipe {σ : St} {M : mM} (h : MR σ M) : MR (s_up σ 17 0 0) (m_up M 79 11 0) := by
  obtain ⟨g1, g2, g3, g4, g5, g6, g7, g8, g9, g10, g11⟩ := h
  refine ⟨?_, fun j hj => ?_, ?_, ?_, fun b hb => ?_, fun b hb => ?_, ?_, fun i hi => ?_, fun l hl => ?_, ?_, fun d hd => ?_⟩
  · (try simp (disch := omega) only [up_row, up_slot, up_hit, su_row, su_slot, su_hit]); exact g1
  · (try simp (disch := omega) only [up_row, up_slot, up_hit, su_row, su_slot, su_hit] at hj ⊢); exact g2 j hj
  · (try simp (disch := omega) only [up_row, up_slot, up_hit, su_row, su_slot, su_hit]); exact g3
  · (try simp (disch := omega) only [up_row, up_slot, up_hit, su_row, su_slot, su_hit]); exact g4
  · (try simp (disch := omega) only [up_row, up_slot, up_hit, su_row, su_slot, su_hit] at hb ⊢); exact g5 b hb
  · (try simp (disch := omega) only [up_row, up_slot, up_hit, su_row, su_slot, su_hit]); exact g6 b hb
  · simp (disch := omega) only [up_row, up_slot, up_hit, su_row, su_slot, su_hit]
    rfl
  · simp (disch := omega) only [up_row, up_slot, up_hit, su_row, su_slot, su_hit] at hi
    omega
  · (try simp (disch := omega) only [up_row, up_slot, up_hit, su_row, su_slot, su_hit]); exact g9 l hl
  · (try simp (disch := omega) only [up_row, up_slot, up_hit, su_row, su_slot, su_hit]); exact g10
  · (try simp (disch := omega) only [up_row, up_slot, up_hit, su_row, su_slot, su_hit] at hd ⊢); exact g11 d hd
theorem MR_lesson {σ : St} {M : mM} {c : Nat} (h : MR σ M) : MR (s_up (s_up σ 16 (σ 15 0) c) 15 0 (σ 15 0 + 1)) (m_up (m_up M 108 (σ 15 0) c) 79 36 (σ 15 0 + 1)) := by
  obtain ⟨g1, g2, g3, g4, g5, g6, g7, g8, g9, g10, g11⟩ := h
  refine ⟨?_, fun j hj => ?_, ?_, ?_, fun b hb => ?_, fun b hb => ?_, ?_, fun i hi => ?_, fun l hl => ?_, ?_, fun d hd => ?_⟩
  · (try simp (disch := omega) only [up_row, up_slot, up_hit, su_row, su_slot, su_hit]); exact g1
  · (try simp (disch := omega) only [up_row, up_slot, up_hit, su_row, su_slot, su_hit] at hj ⊢); exact g2 j hj
  · (try simp (disch := omega) only [up_row, up_slot, up_hit, su_row, su_slot, su_hit]); exact g3
  · (try simp (disch := omega) only [up_row, up_slot, up_hit, su_row, su_slot, su_hit]); exact g4
  · (try simp (disch := omega) only [up_row, up_slot, up_hit, su_row, su_slot, su_hit] at hb ⊢); exact g5 b hb
  · (try simp (disch := omega) only [up_row, up_slot, up_hit, su_row, su_slot, su_hit]); exact g6 b hb
  · (try simp (disch := omega) only [up_row, up_slot, up_hit, su_row, su_slot, su_hit]); exact g7
  · (try simp (disch := omega) only [up_row, up_slot, up_hit, su_row, su_slot, su_hit] at hi ⊢); exact g8 i hi
  · (try simp (disch := omega) only [up_row, up_slot, up_hit, su_row, su_slot, su_hit]); exact g9 l hl
  · simp (disch := omega) only [up_row, up_slot, up_hit, su_row, su_slot, su_hit]
    omega
  · by_cases e : d = σ 15 0
    · subst e
      simp (disch := omega) only [up_row, up_slot, up_hit, su_row, su_slot, su_hit]
    · simp (disch := omega) only [up_row, up_slot, up_hit, su_row, su_slot, su_hit] at hd ⊢
      exact g11 d (by omega)
theorem MR_unlearn {σ : St} {M : mM} (h : MR σ M) : MR (s_up σ 15 0 0) (m_up M 79 36 0) := by
  obtain ⟨g1, g2, g3, g4, g5, g6, g7, g8, g9, g10, g11⟩ := h
  refine ⟨?_, fun j hj => ?_, ?_, ?_, fun b hb => ?_, fun b hb => ?_, ?_, fun i hi => ?_, fun l hl => ?_, ?_, fun d hd => ?_⟩
  · (try simp (disch := omega) only [up_row, up_slot, up_hit, su_row, su_slot, su_hit]); exact g1
  · (try simp (disch := omega) only [up_row, up_slot, up_hit, su_row, su_slot, su_hit] at hj ⊢); exact g2 j hj
  · (try simp (disch := omega) only [up_row, up_slot, up_hit, su_row, su_slot, su_hit]); exact g3
  · (try simp (disch := omega) only [up_row, up_slot, up_hit, su_row, su_slot, su_hit]); exact g4
  · (try simp (disch := omega) only [up_row, up_slot, up_hit, su_row, su_slot, su_hit] at hb ⊢); exact g5 b hb
  · (try simp (disch := omega) only [up_row, up_slot, up_hit, su_row, su_slot, su_hit]); exact g6 b hb
  · (try simp (disch := omega) only [up_row, up_slot, up_hit, su_row, su_slot, su_hit]); exact g7
  · (try simp (disch := omega) only [up_row, up_slot, up_hit, su_row, su_slot, su_hit] at hi ⊢); exact g8 i hi
  · (try simp (disch := omega) only [up_row, up_slot, up_hit, su_row, su_slot, su_hit]); exact g9 l hl
  · simp (disch := omega) only [up_row, up_slot, up_hit, su_row, su_slot, su_hit]
    rfl
  · simp (disch := omega) only [up_row, up_slot, up_hit, su_row, su_slot, su_hit] at hd
    omega
theorem MR_left {σ : St} {M : mM} {b0 v : Nat} (h : MR σ M) : MR (s_up σ 12 b0 v) (m_up M 91 b0 v) := by
  obtain ⟨g1, g2, g3, g4, g5, g6, g7, g8, g9, g10, g11⟩ := h
  refine ⟨?_, fun j hj => ?_, ?_, ?_, fun b hb => ?_, fun b hb => ?_, ?_, fun i hi => ?_, fun l hl => ?_, ?_, fun d hd => ?_⟩
  · (try simp (disch := omega) only [up_row, up_slot, up_hit, su_row, su_slot, su_hit]); exact g1
  · (try simp (disch := omega) only [up_row, up_slot, up_hit, su_row, su_slot, su_hit] at hj ⊢); exact g2 j hj
  · (try simp (disch := omega) only [up_row, up_slot, up_hit, su_row, su_slot, su_hit]); exact g3
  · (try simp (disch := omega) only [up_row, up_slot, up_hit, su_row, su_slot, su_hit]); exact g4
  · (try simp (disch := omega) only [up_row, up_slot, up_hit, su_row, su_slot, su_hit] at hb ⊢); exact g5 b hb
  · have g := g6 b hb
    by_cases e : b = b0
    · subst e
      simp (disch := omega) only [up_row, up_slot, up_hit, su_row, su_slot, su_hit]
      exact ⟨g.1, trivial, g.2.2⟩
    · simp (disch := omega) only [up_row, up_slot, up_hit, su_row, su_slot, su_hit]
      exact g
  · (try simp (disch := omega) only [up_row, up_slot, up_hit, su_row, su_slot, su_hit]); exact g7
  · (try simp (disch := omega) only [up_row, up_slot, up_hit, su_row, su_slot, su_hit] at hi ⊢); exact g8 i hi
  · (try simp (disch := omega) only [up_row, up_slot, up_hit, su_row, su_slot, su_hit]); exact g9 l hl
  · (try simp (disch := omega) only [up_row, up_slot, up_hit, su_row, su_slot, su_hit]); exact g10
  · (try simp (disch := omega) only [up_row, up_slot, up_hit, su_row, su_slot, su_hit] at hd ⊢); exact g11 d hd
theorem MR_coin {σ : St} {M : mM} {b0 w v : Nat} (hw : w < 3) (h : MR σ M) : MR (s_up σ (6 + w) b0 v) (m_up M (84 + w) b0 v) := by
  obtain ⟨g1, g2, g3, g4, g5, g6, g7, g8, g9, g10, g11⟩ := h
  refine ⟨?_, fun j hj => ?_, ?_, ?_, fun b hb => ?_, fun b hb => ?_, ?_, fun i hi => ?_, fun l hl => ?_, ?_, fun d hd => ?_⟩
  · (try simp (disch := omega) only [up_row, up_slot, up_hit, su_row, su_slot, su_hit]); exact g1
  · (try simp (disch := omega) only [up_row, up_slot, up_hit, su_row, su_slot, su_hit] at hj ⊢); exact g2 j hj
  · (try simp (disch := omega) only [up_row, up_slot, up_hit, su_row, su_slot, su_hit]); exact g3
  · (try simp (disch := omega) only [up_row, up_slot, up_hit, su_row, su_slot, su_hit]); exact g4
  · rcases (show w = 0 ∨ w = 1 ∨ w = 2 by omega) with rfl | rfl | rfl
    · simp (disch := omega) only [up_row, up_slot, up_hit, su_row, su_slot, su_hit] at hb ⊢
      have g := g5 b hb
      by_cases e : b = b0
      · subst e
        simp (disch := omega) only [up_row, up_slot, up_hit, su_row, su_slot, su_hit]
        exact ⟨trivial, g.2⟩
      · simp (disch := omega) only [up_row, up_slot, up_hit, su_row, su_slot, su_hit]
        exact g
    · simp (disch := omega) only [up_row, up_slot, up_hit, su_row, su_slot, su_hit] at hb ⊢
      have g := g5 b hb
      by_cases e : b = b0
      · subst e
        simp (disch := omega) only [up_row, up_slot, up_hit, su_row, su_slot, su_hit]
        exact ⟨g.1, trivial, g.2.2⟩
      · simp (disch := omega) only [up_row, up_slot, up_hit, su_row, su_slot, su_hit]
        exact g
    · simp (disch := omega) only [up_row, up_slot, up_hit, su_row, su_slot, su_hit] at hb ⊢
      have g := g5 b hb
      by_cases e : b = b0
      · subst e
        simp (disch := omega) only [up_row, up_slot, up_hit, su_row, su_slot, su_hit]
        exact ⟨g.1, g.2.1, trivial⟩
      · simp (disch := omega) only [up_row, up_slot, up_hit, su_row, su_slot, su_hit]
        exact g
  · (try simp (disch := omega) only [up_row, up_slot, up_hit, su_row, su_slot, su_hit]); exact g6 b hb
  · (try simp (disch := omega) only [up_row, up_slot, up_hit, su_row, su_slot, su_hit]); exact g7
  · (try simp (disch := omega) only [up_row, up_slot, up_hit, su_row, su_slot, su_hit] at hi ⊢); exact g8 i hi
  · (try simp (disch := omega) only [up_row, up_slot, up_hit, su_row, su_slot, su_hit]); exact g9 l hl
  · (try simp (disch := omega) only [up_row, up_slot, up_hit, su_row, su_slot, su_hit]); exact g10
  · (try simp (disch := omega) only [up_row, up_slot, up_hit, su_row, su_slot, su_hit] at hd ⊢); exact g11 d hd
theorem Fm_up {M : mM} {p j : Nat} {v : Int} (hp : 79 ≤ p) : FrM M (m_up M p j v) := fun q hq => up_row (by omega)
theorem Fm_trans {M M1 M2 : mM} (h1 : FrM M M1) (h2 : FrM M1 M2) : FrM M M2 := fun q hq => (h2 q hq).trans (h1 q hq)
theorem Fm_rfl {M : mM} : FrM M M := fun _ _ => rfl
/-- what a call of the reference does -/
abbrev PM (z : Int × St) (M : mM) (r : Int) (M' : mM) : Prop := r = z.1 ∧ MR z.2 M' ∧ FrM M M'
theorem PM_same {σ : St} {M : mM} {x : Int} (h : MR σ M) : PM (x, σ) M x M := ⟨rfl, h, Fm_rfl⟩
theorem km_lot {σ : St} {M : mM} {a b c : Int} (hw : Wf σ) (h : MR σ M) : C_ kk_X11_lot [v_P 79, v_I a, v_I b, v_I c] M (PM (sp_lot σ a b c) M) := by
  have h1 := h.1
  have hn := hw.1
  refine c_intro (by decide) rfl (Nat.le_of_ble_eq_true rfl) (by simp [m_dv, Value.category]) (wp_X11_lot_0 ?_)
  rw [h1]
  simp only [Int.toNat_natCast]
  refine ⟨fun q1 => ⟨fun q2 => ⟨fun q3 => ⟨fun q4 => ?_, fun q4 => ?_⟩, fun q => ?_⟩, fun q => ?_⟩, fun q => ?_⟩
  · obtain ⟨a', rfl⟩ := nat_of q1.1
    obtain ⟨b', rfl⟩ := nat_of q2.1
    obtain ⟨c', rfl⟩ := nat_of q3.1
    refine ⟨by omega, by omega, by omega, fun M4 e4 => ⟨by omega, ⟨by omega, by omega⟩, ⟨by omega, by omega⟩, ?_⟩⟩
    subst e4
    unfold sp_lot
    rw [if_neg (by omega), if_neg (by omega)]
    simp only [Int.toNat_natCast]
    refine ⟨by omega, ?_, Fm_trans (Fm_trans (Fm_trans (Fm_trans (Fm_up (by decide)) (Fm_up (by decide))) (Fm_up (by decide))) (Fm_up (by decide))) (Fm_up (by decide))⟩
    obtain ⟨g1, g2, g3, g4, g5, g6, g7, g8, g9, g10, g11⟩ := h
    refine ⟨?_, fun j hj => ?_, ?_, ?_, fun b hb => ?_, fun b hb => ?_, ?_, fun i hi => ?_, fun l hl => ?_, ?_, fun d hd => ?_⟩
    · simp (disch := omega) only [up_row, up_slot, up_hit, su_row, su_slot, su_hit]
      omega
    · simp (disch := omega) only [up_row, up_slot, up_hit, su_row, su_slot, su_hit] at hj ⊢
      by_cases e : j = σ 0 0
      · subst e
        simp (disch := omega) only [up_row, up_slot, up_hit, su_row, su_slot, su_hit]
        exact ⟨trivial, trivial, trivial, trivial⟩
      · simp (disch := omega) only [up_row, up_slot, up_hit, su_row, su_slot, su_hit]
        exact g2 j (by omega)
    · (try simp (disch := omega) only [up_row, up_slot, up_hit, su_row, su_slot, su_hit]); exact g3
    · (try simp (disch := omega) only [up_row, up_slot, up_hit, su_row, su_slot, su_hit]); exact g4
    · (try simp (disch := omega) only [up_row, up_slot, up_hit, su_row, su_slot, su_hit] at hb ⊢); exact g5 b hb
    · (try simp (disch := omega) only [up_row, up_slot, up_hit, su_row, su_slot, su_hit]); exact g6 b hb
    · (try simp (disch := omega) only [up_row, up_slot, up_hit, su_row, su_slot, su_hit]); exact g7
    · (try simp (disch := omega) only [up_row, up_slot, up_hit, su_row, su_slot, su_hit] at hi ⊢); exact g8 i hi
    · (try simp (disch := omega) only [up_row, up_slot, up_hit, su_row, su_slot, su_hit]); exact g9 l hl
    · (try simp (disch := omega) only [up_row, up_slot, up_hit, su_row, su_slot, su_hit]); exact g10
    · (try simp (disch := omega) only [up_row, up_slot, up_hit, su_row, su_slot, su_hit] at hd ⊢); exact g11 d hd
  · unfold sp_lot; rw [if_neg (by omega), if_pos (by omega)]; exact PM_same h
  · unfold sp_lot; rw [if_pos (by omega)]; exact PM_same h
  · unfold sp_lot; rw [if_pos (by omega)]; exact PM_same h
  · unfold sp_lot; rw [if_pos (by omega)]; exact PM_same h
theorem km_buyer {σ : St} {M : mM} (hw : Wf σ) (h : MR σ M) : C_ kk_X11_buyer [v_P 79] M (PM (sp_buyer σ) M) := by
  have h1 := h.2.2.1
  have hn := hw.2.2.2.1
  refine c_intro (by decide) rfl (Nat.le_of_ble_eq_true rfl) (by simp [m_dv, Value.category]) (wp_X11_buyer_0 ?_)
  rw [h1]
  simp only [Int.toNat_natCast]
  refine ⟨fun q => ⟨by omega, by omega, by omega, fun M4 e4 => ⟨⟨by omega, by omega⟩, ⟨by omega, by omega⟩, ?_⟩⟩, fun q => ?_⟩
  · subst e4
    unfold sp_buyer
    rw [if_neg (by omega)]
    refine ⟨by omega, ?_, Fm_trans (Fm_trans (Fm_trans (Fm_up (by decide)) (Fm_up (by decide))) (Fm_up (by decide))) (Fm_up (by decide))⟩
    have gw := hw.2.2.2.2.2.1 (σ 5 0) (Nat.le_refl _) (by omega)
    obtain ⟨g1, g2, g3, g4, g5, g6, g7, g8, g9, g10, g11⟩ := h
    refine ⟨?_, fun j hj => ?_, ?_, ?_, fun b hb => ?_, fun b hb => ?_, ?_, fun i hi => ?_, fun l hl => ?_, ?_, fun d hd => ?_⟩
    · (try simp (disch := omega) only [up_row, up_slot, up_hit, su_row, su_slot, su_hit]); exact g1
    · (try simp (disch := omega) only [up_row, up_slot, up_hit, su_row, su_slot, su_hit] at hj ⊢); exact g2 j hj
    · simp (disch := omega) only [up_row, up_slot, up_hit, su_row, su_slot, su_hit]
      omega
    · (try simp (disch := omega) only [up_row, up_slot, up_hit, su_row, su_slot, su_hit]); exact g4
    · simp (disch := omega) only [up_row, up_slot, up_hit, su_row, su_slot, su_hit] at hb ⊢
      by_cases e : b = σ 5 0
      · subst e
        simp (disch := omega) only [up_row, up_slot, up_hit, su_row, su_slot, su_hit]
        rw [gw.1, gw.2.1, gw.2.2.1]
        exact ⟨rfl, rfl, rfl⟩
      · simp (disch := omega) only [up_row, up_slot, up_hit, su_row, su_slot, su_hit]
        exact g5 b (by omega)
    · (try simp (disch := omega) only [up_row, up_slot, up_hit, su_row, su_slot, su_hit]); exact g6 b hb
    · (try simp (disch := omega) only [up_row, up_slot, up_hit, su_row, su_slot, su_hit]); exact g7
    · (try simp (disch := omega) only [up_row, up_slot, up_hit, su_row, su_slot, su_hit] at hi ⊢); exact g8 i hi
    · (try simp (disch := omega) only [up_row, up_slot, up_hit, su_row, su_slot, su_hit]); exact g9 l hl
    · (try simp (disch := omega) only [up_row, up_slot, up_hit, su_row, su_slot, su_hit]); exact g10
    · (try simp (disch := omega) only [up_row, up_slot, up_hit, su_row, su_slot, su_hit] at hd ⊢); exact g11 d hd
  · unfold sp_buyer
    rw [if_pos (by omega)]
    exact PM_same h
theorem km_say {σ : St} {M : mM} {c : Int} (hw : Wf σ) (h : MR σ M) : C_ kk_X11_say [v_P 79, v_I c] M (PM (sp_say σ c) M) := by
  have h1 := h.2.2.2.2.2.2.1
  have hn := hw.2.2.2.2.2.2.2.2.2.2.1
  refine c_intro (by decide) rfl (Nat.le_of_ble_eq_true rfl) (by simp [m_dv, Value.category]) (wp_X11_say_0 ?_)
  rw [h1]
  refine ⟨fun q => ⟨fun q2 => ⟨by omega, ⟨by omega, by omega⟩, ?_⟩, fun q2 => ?_⟩, fun q => ?_⟩
  · unfold sp_say
    rw [if_neg (by omega), if_neg (by omega)]
    obtain ⟨c', rfl⟩ := nat_of (x := c) (by omega)
    simp only [Int.toNat_natCast]
    exact ⟨rfl, MR_signs h, Fm_trans (Fm_up (by decide)) (Fm_up (by decide))⟩
  · unfold sp_say
    rw [if_neg (by omega), if_pos (by omega)]
    exact PM_same h
  · unfold sp_say
    rw [if_pos (by omega)]
    exact PM_same h
theorem km_wipe {σ : St} {M : mM} (h : MR σ M) : C_ kk_X11_wipe [v_P 79] M (PM (sp_wipe σ) M) :=
  c_intro (by decide) rfl (Nat.le_of_ble_eq_true rfl) (by simp [m_dv, Value.category]) (wp_X11_wipe_0 ⟨h.2.2.2.2.2.2.1, MR_wipe h, Fm_up (by decide)⟩)
theorem km_top {σ : St} {M : mM} {v : Int} (h : MR σ M) : C_ kk_X11_top [v_P 79, v_I v] M (PM (sp_top σ v) M) := by
  refine c_intro (by decide) rfl (Nat.le_of_ble_eq_true rfl) (by simp [m_dv, Value.category]) (wp_X11_top_0 ⟨fun q => ?_, fun q => ?_⟩)
  · unfold sp_top
    rw [if_neg (by omega)]
    obtain ⟨v', rfl⟩ := nat_of (x := v) (by omega)
    exact ⟨h.2.2.2.1, MR_top h, Fm_up (by decide)⟩
  · unfold sp_top
    rw [if_pos (by omega)]
    exact PM_same h
theorem km_order {σ : St} {M : mM} {k : Int} (hw : Wf σ) (h : MR σ M) : C_ kk_X11_order [v_P 79, v_I k] M (PM (sp_order σ k) M) := by
  have h1 := h.1
  have hn := hw.1
  refine c_intro (by decide) rfl (Nat.le_of_ble_eq_true rfl) (by simp [m_dv, Value.category]) (wp_X11_order_0 ?_)
  rw [h1]
  refine ⟨⟨by omega, by omega⟩, fun q => ⟨by omega, ?_⟩, fun q => ?_⟩
  · unfold sp_order
    rw [if_pos (by omega), (h.2.1 k.toNat (by omega)).2.2.2]
    exact PM_same h
  · unfold sp_order
    rw [if_neg (by omega)]
    exact PM_same h
theorem km_price {σ : St} {M : mM} {l v : Int} (hw : Wf σ) (h : MR σ M) : C_ kk_X11_price [v_P 79, v_I l, v_I v] M (PM (sp_price σ l v) M) := by
  have h1 := h.1
  have hn := hw.1
  refine c_intro (by decide) rfl (Nat.le_of_ble_eq_true rfl) (by simp [m_dv, Value.category]) (wp_X11_price_0 ?_)
  rw [h1]
  refine ⟨by omega, fun q => ⟨fun q2 => ⟨by omega, by omega, ?_⟩, fun q2 => ?_⟩, fun q => ?_⟩
  · unfold sp_price
    rw [if_neg (by omega), if_neg (by omega)]
    obtain ⟨v', rfl⟩ := nat_of (x := v) (by omega)
    exact ⟨h.2.2.2.2.2.2.2.2.1 l.toNat (by omega), MR_price h, Fm_up (by decide)⟩
  · unfold sp_price
    rw [if_neg (by omega), if_pos (by omega)]
    exact PM_same h
  · unfold sp_price
    rw [if_pos q]
    exact PM_same h
theorem km_lesson {σ : St} {M : mM} {v : Int} (hw : Wf σ) (h : MR σ M) : C_ kk_X11_lesson [v_P 79, v_I v] M (PM (sp_lesson σ v) M) := by
  have h1 := h.2.2.2.2.2.2.2.2.2.1
  have hn := hw.2.2.2.2.2.2.2.2.1
  refine c_intro (by decide) rfl (Nat.le_of_ble_eq_true rfl) (by simp [m_dv, Value.category]) (wp_X11_lesson_0 ?_)
  rw [h1]
  refine ⟨fun q => ⟨fun q2 => ⟨by omega, ⟨by omega, by omega⟩, ?_⟩, fun q2 => ?_⟩, fun q => ?_⟩
  · unfold sp_lesson
    rw [if_neg (by omega), if_neg (by omega)]
    obtain ⟨v', rfl⟩ := nat_of (x := v) (by omega)
    simp only [Int.toNat_natCast]
    exact ⟨rfl, MR_lesson h, Fm_trans (Fm_up (by decide)) (Fm_up (by decide))⟩
  · unfold sp_lesson
    rw [if_neg (by omega), if_pos (by omega)]
    exact PM_same h
  · unfold sp_lesson
    rw [if_pos (by omega)]
    exact PM_same h
theorem km_unlearn {σ : St} {M : mM} (h : MR σ M) : C_ kk_X11_unlearn [v_P 79] M (PM (sp_unlearn σ) M) :=
  c_intro (by decide) rfl (Nat.le_of_ble_eq_true rfl) (by simp [m_dv, Value.category]) (wp_X11_unlearn_0 ⟨h.2.2.2.2.2.2.2.2.2.1, MR_unlearn h, Fm_up (by decide)⟩)
theorem km_told {σ : St} {M : mM} {w : Int} (hw : Wf σ) (h : MR σ M) : C_ kk_X11_told [v_P 79, v_I w] M (PM (sp_told σ w) M) := by
  have h1 := h.2.2.1
  have hn := hw.2.2.2.1
  refine c_intro (by decide) rfl (Nat.le_of_ble_eq_true rfl) (by simp [m_dv, Value.category]) (wp_X11_told_0 ⟨fun q => ⟨⟨by omega, by omega⟩, fun q2 => ?_, fun q2 => ⟨⟨by omega, by omega⟩, by omega, ?_⟩⟩, fun q => ⟨fun q => ?_, fun q => ?_, fun q => ?_, fun q => ?_, fun q => ?_, fun q2 => ?_⟩⟩)
  · unfold sp_told
    rw [if_neg (by omega), if_neg (by omega), if_neg (by omega), if_neg (by omega), if_neg (by omega), if_pos (by omega)]
    rw [(hw.2.2.2.2.2.1 (w - 10).toNat (by omega) (by omega)).2.2.2]
    exact PM_same h
  · unfold sp_told
    rw [if_neg (by omega), if_neg (by omega), if_neg (by omega), if_neg (by omega), if_neg (by omega), if_pos (by omega)]
    rw [(h.2.2.2.2.2.1 (w - 10).toNat (by omega)).1]
    exact PM_same h
  · subst q; rw [h.1]; exact PM_same h
  · subst q; rw [h.2.2.1]; exact PM_same h
  · subst q; rw [h.2.2.2.2.2.2.1]; exact PM_same h
  · subst q; rw [h.2.2.2.2.2.2.2.2.2.1]; exact PM_same h
  · subst q; rw [h.2.2.2.1]; exact PM_same h
  · unfold sp_told
    rw [if_neg (by omega), if_neg (by omega), if_neg (by omega), if_neg (by omega), if_neg (by omega), if_neg (by omega)]
    exact PM_same h
theorem km_leave {σ : St} {M : mM} {b v : Int} (hw : Wf σ) (h : MR σ M) : C_ kk_X11_leave [v_P 79, v_I b, v_I v] M (PM (sp_leave σ b v) M) := by
  have h1 := h.2.2.1
  have hnb := hw.2.2.2.1
  refine c_intro (by decide) rfl (Nat.le_of_ble_eq_true rfl) (by simp [m_dv, Value.category]) (wp_X11_leave_0 ?_)
  rw [h1]
  refine ⟨by omega, fun q => ?_, fun q => ?_⟩
  · obtain ⟨b', rfl⟩ := nat_of q.1
    have hb6 : b' < 6 := by omega
    have g := h.2.2.2.2.2.1 b' hb6
    have gw := hw.2.2.2.2.1 b' hb6
    simp only [Int.toNat_natCast]
    rw [g.1, b_shl1 (by omega)]
    have p1 : 2 ^ σ 9 b' ≤ 2 ^ 6 := Nat.pow_le_pow_right (by decide) gw.2.2.2.1
    have p2 : 0 < 2 ^ σ 9 b' := Nat.pow_pos (by decide)
    refine ⟨by omega, ⟨by omega, by omega⟩, fun q2 => ⟨by omega, by omega, ?_⟩, fun q2 => ?_⟩
    · unfold sp_leave
      simp only [Int.toNat_natCast]
      rw [if_neg (by omega), if_neg (by omega)]
      obtain ⟨v', rfl⟩ := nat_of (x := v) (by omega)
      simp only [Int.toNat_natCast]
      exact ⟨g.2.1, MR_left h, Fm_up (by decide)⟩
    · unfold sp_leave
      simp only [Int.toNat_natCast]
      rw [if_neg (by omega), if_pos (by omega)]
      exact PM_same h
  · unfold sp_leave
    rw [if_pos q]
    exact PM_same h
theorem km_set {σ : St} {M : mM} {b w v : Int} (hw : Wf σ) (h : MR σ M) : C_ kk_X11_set [v_P 79, v_I b, v_I w, v_I v] M (PM (sp_set σ b w v) M) := by
  have h1 := h.2.2.1
  have hnb := hw.2.2.2.1
  refine c_intro (by decide) rfl (Nat.le_of_ble_eq_true rfl) (by simp [m_dv, Value.category]) ?_
  have key : ∀ (w' : Nat), w' < 3 → w = w' → (0 ≤ b ∧ b < σ 5 0) → (0 ≤ v ∧ v ≤ if w = 0 then 1000 else 99) → ((0 ≤ b ∧ b < 6) ∧ PM (sp_set σ b w v) M (M (84 + w') b.toNat) (m_up M (84 + w') b.toNat v)) := by
    intro w' hw3 e q hv
    subst e
    obtain ⟨b', rfl⟩ := nat_of q.1
    obtain ⟨v', rfl⟩ := nat_of hv.1
    refine ⟨by omega, ?_⟩
    unfold sp_set
    rw [if_neg (by omega), if_neg (by omega)]
    simp only [Int.toNat_natCast]
    refine ⟨?_, MR_coin hw3 h, Fm_up (by omega)⟩
    have g := h.2.2.2.2.1 b' (by omega)
    rcases (show w' = 0 ∨ w' = 1 ∨ w' = 2 by omega) with rfl | rfl | rfl
    · exact g.1
    · exact g.2.1
    · exact g.2.2
  have bad2 : (0 ≤ b ∧ b < σ 5 0) → (w < 0 ∨ 2 < w ∨ v < 0 ∨ (if w = 0 then 1000 else 99) < v) → PM (sp_set σ b w v) M (-2) M := by
    intro q q2
    unfold sp_set
    rw [if_neg (by omega), if_pos q2]
    exact PM_same h
  have bad1 : ¬ (0 ≤ b ∧ b < σ 5 0) → PM (sp_set σ b w v) M (-1) M := by
    intro q
    unfold sp_set
    rw [if_pos q]
    exact PM_same h
  refine wp_X11_set_0 ?_
  rw [h1]
  refine ⟨by omega, fun q => ⟨fun q2 => ⟨fun q3 => ⟨fun q4 => ⟨fun q5 => ⟨fun q6 => ?_, fun q6 => ?_⟩, fun q5 => absurd q5 q3⟩, fun q4 => ?_⟩, fun q3 => ⟨fun q4 => ⟨fun q5 => absurd q3 q5, fun q5 => ?_⟩, fun q4 => ?_⟩⟩, fun q2 => ?_⟩, fun q => bad1 q⟩
  · have k := key 2 (by decide) (by omega) q (by rw [if_neg q3]; exact q4)
    exact ⟨k.1, fun _ => ⟨fun _ => k, fun x => absurd x q6⟩, fun x => absurd x q3⟩
  · have k := key 1 (by decide) (by omega) q (by rw [if_neg q3]; exact q4)
    exact ⟨k.1, fun _ => ⟨fun x => absurd q6 x, fun _ => k⟩, fun x => absurd x q3⟩
  · exact bad2 q (by rw [if_neg q3]; omega)
  · have k := key 0 (by decide) (by omega) q (by rw [if_pos q3]; exact q4)
    exact ⟨k.1, fun x => absurd q3 x, fun _ => k⟩
  · exact bad2 q (by rw [if_pos q3]; omega)
  · exact bad2 q (by omega)
