/-! the simple calls of the class -/
theorem CR_forget {σ : St} {M : mM} (h : CR σ M) : CR σ (m_up (m_up M 70 7 0) 74 4 0) := by
  obtain ⟨⟨g1, g2⟩, ⟨g3, g4, g5⟩, g6, g7, ⟨g8, g9⟩, g10, ⟨g11, g12⟩⟩ := h
  refine ⟨⟨?_, fun j hj => ?_⟩, ⟨?_, ?_, fun b hb => ?_⟩, fun j hj => ?_, fun b hb => ?_, ⟨?_, fun i hi => ?_⟩, fun l hl => ?_, ⟨?_, fun d hd => ?_⟩⟩
  · (try simp (disch := omega) only [up_row, up_slot, up_hit, su_row, su_slot, su_hit]); exact g1
  · (try simp (disch := omega) only [up_row, up_slot, up_hit, su_row, su_slot, su_hit] at hj ⊢); exact g2 j hj
  · (try simp (disch := omega) only [up_row, up_slot, up_hit, su_row, su_slot, su_hit]); exact g3
  · (try simp (disch := omega) only [up_row, up_slot, up_hit, su_row, su_slot, su_hit]); exact g4
  · unfold HB1 n_need; (try simp (disch := omega) only [up_row, up_slot, up_hit, su_row, su_slot, su_hit]); exact g5 b hb
  · (try simp (disch := omega) only [up_row, up_slot, up_hit, su_row, su_slot, su_hit] at hj ⊢); exact g6 j hj
  · (try simp (disch := omega) only [up_row, up_slot, up_hit, su_row, su_slot, su_hit]); exact g7 b hb
  · (try simp (disch := omega) only [up_row, up_slot, up_hit, su_row, su_slot, su_hit]); exact g8
  · (try simp (disch := omega) only [up_row, up_slot, up_hit, su_row, su_slot, su_hit] at hi ⊢); exact g9 i hi
  · (try simp (disch := omega) only [up_row, up_slot, up_hit, su_row, su_slot, su_hit]); exact g10 l hl
  · (try simp (disch := omega) only [up_row, up_slot, up_hit, su_row, su_slot, su_hit]); exact g11
  · (try simp (disch := omega) only [up_row, up_slot, up_hit, su_row, su_slot, su_hit] at hd ⊢); exact g12 d hd
theorem CR_top {σ : St} {M : mM} {v : Nat} (h : CR σ M) : CR (s_up σ 13 0 v) (m_up M 1 8 v) := by
  obtain ⟨⟨g1, g2⟩, ⟨g3, g4, g5⟩, g6, g7, ⟨g8, g9⟩, g10, ⟨g11, g12⟩⟩ := h
  refine ⟨⟨?_, fun j hj => ?_⟩, ⟨?_, ?_, fun b hb => ?_⟩, fun j hj => ?_, fun b hb => ?_, ⟨?_, fun i hi => ?_⟩, fun l hl => ?_, ⟨?_, fun d hd => ?_⟩⟩
  · (try simp (disch := omega) only [up_row, up_slot, up_hit, su_row, su_slot, su_hit]); exact g1
  · (try simp (disch := omega) only [up_row, up_slot, up_hit, su_row, su_slot, su_hit] at hj ⊢); exact g2 j hj
  · (try simp (disch := omega) only [up_row, up_slot, up_hit, su_row, su_slot, su_hit]); exact g3
  · simp (disch := omega) only [up_row, up_slot, up_hit, su_row, su_slot, su_hit]
  · unfold HB1 n_need; (try simp (disch := omega) only [up_row, up_slot, up_hit, su_row, su_slot, su_hit]); exact g5 b hb
  · (try simp (disch := omega) only [up_row, up_slot, up_hit, su_row, su_slot, su_hit] at hj ⊢); exact g6 j hj
  · (try simp (disch := omega) only [up_row, up_slot, up_hit, su_row, su_slot, su_hit]); exact g7 b hb
  · (try simp (disch := omega) only [up_row, up_slot, up_hit, su_row, su_slot, su_hit]); exact g8
  · (try simp (disch := omega) only [up_row, up_slot, up_hit, su_row, su_slot, su_hit] at hi ⊢); exact g9 i hi
  · (try simp (disch := omega) only [up_row, up_slot, up_hit, su_row, su_slot, su_hit]); exact g10 l hl
  · (try simp (disch := omega) only [up_row, up_slot, up_hit, su_row, su_slot, su_hit]); exact g11
  · (try simp (disch := omega) only [up_row, up_slot, up_hit, su_row, su_slot, su_hit] at hd ⊢); exact g12 d hd
theorem CR_buyer {σ : St} {M : mM} {v : Nat} (h : CR σ M) : CR (s_up σ 5 0 v) (m_up M 1 6 v) := by
  obtain ⟨⟨g1, g2⟩, ⟨g3, g4, g5⟩, g6, g7, ⟨g8, g9⟩, g10, ⟨g11, g12⟩⟩ := h
  refine ⟨⟨?_, fun j hj => ?_⟩, ⟨?_, ?_, fun b hb => ?_⟩, fun j hj => ?_, fun b hb => ?_, ⟨?_, fun i hi => ?_⟩, fun l hl => ?_, ⟨?_, fun d hd => ?_⟩⟩
  · (try simp (disch := omega) only [up_row, up_slot, up_hit, su_row, su_slot, su_hit]); exact g1
  · (try simp (disch := omega) only [up_row, up_slot, up_hit, su_row, su_slot, su_hit] at hj ⊢); exact g2 j hj
  · simp (disch := omega) only [up_row, up_slot, up_hit, su_row, su_slot, su_hit]
  · (try simp (disch := omega) only [up_row, up_slot, up_hit, su_row, su_slot, su_hit]); exact g4
  · unfold HB1 n_need; (try simp (disch := omega) only [up_row, up_slot, up_hit, su_row, su_slot, su_hit]); exact g5 b hb
  · (try simp (disch := omega) only [up_row, up_slot, up_hit, su_row, su_slot, su_hit] at hj ⊢); exact g6 j hj
  · (try simp (disch := omega) only [up_row, up_slot, up_hit, su_row, su_slot, su_hit]); exact g7 b hb
  · (try simp (disch := omega) only [up_row, up_slot, up_hit, su_row, su_slot, su_hit]); exact g8
  · (try simp (disch := omega) only [up_row, up_slot, up_hit, su_row, su_slot, su_hit] at hi ⊢); exact g9 i hi
  · (try simp (disch := omega) only [up_row, up_slot, up_hit, su_row, su_slot, su_hit]); exact g10 l hl
  · (try simp (disch := omega) only [up_row, up_slot, up_hit, su_row, su_slot, su_hit]); exact g11
  · (try simp (disch := omega) only [up_row, up_slot, up_hit, su_row, su_slot, su_hit] at hd ⊢); exact g12 d hd
theorem CR_coin {σ : St} {M : mM} {b0 w v : Nat} (hw : w < 3) (h : CR σ M) (hb0 : b0 < 6) : CR (s_up σ (6 + w) b0 v) (m_up M (8 + 3 * b0) w v) := by
  obtain ⟨⟨g1, g2⟩, ⟨g3, g4, g5⟩, g6, g7, ⟨g8, g9⟩, g10, ⟨g11, g12⟩⟩ := h
  refine ⟨⟨?_, fun j hj => ?_⟩, ⟨?_, ?_, fun b hb => ?_⟩, fun j hj => ?_, fun b hb => ?_, ⟨?_, fun i hi => ?_⟩, fun l hl => ?_, ⟨?_, fun d hd => ?_⟩⟩
  · (try simp (disch := omega) only [up_row, up_slot, up_hit, su_row, su_slot, su_hit]); exact g1
  · (try simp (disch := omega) only [up_row, up_slot, up_hit, su_row, su_slot, su_hit] at hj ⊢); exact g2 j hj
  · (try simp (disch := omega) only [up_row, up_slot, up_hit, su_row, su_slot, su_hit]); exact g3
  · (try simp (disch := omega) only [up_row, up_slot, up_hit, su_row, su_slot, su_hit]); exact g4
  · unfold HB1 n_need
    have g := g5 b hb
    unfold HB1 n_need at g
    by_cases e : b = b0
    · subst e
      rcases (show w = 0 ∨ w = 1 ∨ w = 2 by omega) with rfl | rfl | rfl
      · simp (disch := omega) only [up_row, up_slot, up_hit, su_row, su_slot, su_hit]
        exact ⟨trivial, g.2⟩
      · simp (disch := omega) only [up_row, up_slot, up_hit, su_row, su_slot, su_hit]
        exact ⟨g.1, trivial, g.2.2⟩
      · simp (disch := omega) only [up_row, up_slot, up_hit, su_row, su_slot, su_hit]
        exact ⟨g.1, g.2.1, trivial, g.2.2.2⟩
    · rcases (show w = 0 ∨ w = 1 ∨ w = 2 by omega) with rfl | rfl | rfl
      · simp (disch := omega) only [up_row, up_slot, up_hit, su_row, su_slot, su_hit]
        exact g
      · simp (disch := omega) only [up_row, up_slot, up_hit, su_row, su_slot, su_hit]
        exact g
      · simp (disch := omega) only [up_row, up_slot, up_hit, su_row, su_slot, su_hit]
        exact g
  · (try simp (disch := omega) only [up_row, up_slot, up_hit, su_row, su_slot, su_hit] at hj ⊢); exact g6 j hj
  · have g := g7 b hb
    by_cases e : b = b0
    · subst e
      simp (disch := omega) only [up_row, up_slot, up_hit, su_row, su_slot, su_hit]
      exact g
    · simp (disch := omega) only [up_row, up_slot, up_hit, su_row, su_slot, su_hit]
      exact g
  · (try simp (disch := omega) only [up_row, up_slot, up_hit, su_row, su_slot, su_hit]); exact g8
  · (try simp (disch := omega) only [up_row, up_slot, up_hit, su_row, su_slot, su_hit] at hi ⊢); exact g9 i hi
  · (try simp (disch := omega) only [up_row, up_slot, up_hit, su_row, su_slot, su_hit]); exact g10 l hl
  · (try simp (disch := omega) only [up_row, up_slot, up_hit, su_row, su_slot, su_hit]); exact g11
  · (try simp (disch := omega) only [up_row, up_slot, up_hit, su_row, su_slot, su_hit] at hd ⊢); exact g12 d hd
theorem CR_left {σ : St} {M : mM} {b0 v : Nat} (h : CR σ M) (hb0 : b0 < 6) (hv : v < 2 ^ 31) : CR (s_up σ 12 b0 v) (m_up M (8 + 3 * b0) 6 v) := by
  obtain ⟨⟨g1, g2⟩, ⟨g3, g4, g5⟩, g6, g7, ⟨g8, g9⟩, g10, ⟨g11, g12⟩⟩ := h
  refine ⟨⟨?_, fun j hj => ?_⟩, ⟨?_, ?_, fun b hb => ?_⟩, fun j hj => ?_, fun b hb => ?_, ⟨?_, fun i hi => ?_⟩, fun l hl => ?_, ⟨?_, fun d hd => ?_⟩⟩
  · (try simp (disch := omega) only [up_row, up_slot, up_hit, su_row, su_slot, su_hit]); exact g1
  · (try simp (disch := omega) only [up_row, up_slot, up_hit, su_row, su_slot, su_hit] at hj ⊢); exact g2 j hj
  · (try simp (disch := omega) only [up_row, up_slot, up_hit, su_row, su_slot, su_hit]); exact g3
  · (try simp (disch := omega) only [up_row, up_slot, up_hit, su_row, su_slot, su_hit]); exact g4
  · unfold HB1 n_need
    have g := g5 b hb
    unfold HB1 n_need at g
    by_cases e : b = b0
    · subst e
      have e7 := (g7 b hb).2
      simp (disch := omega) only [up_row, up_slot, up_hit, su_row, su_slot, su_hit]
      refine ⟨g.1, g.2.1, g.2.2.1, g.2.2.2.1, ?_, g.2.2.2.2.2⟩
      rw [e7]
      have := b_or (a := v) (b := 0) hv (by decide)
      rw [Nat.or_zero] at this
      exact this
    · simp (disch := omega) only [up_row, up_slot, up_hit, su_row, su_slot, su_hit]
      exact g
  · (try simp (disch := omega) only [up_row, up_slot, up_hit, su_row, su_slot, su_hit] at hj ⊢); exact g6 j hj
  · have g := g7 b hb
    by_cases e : b = b0
    · subst e
      simp (disch := omega) only [up_row, up_slot, up_hit, su_row, su_slot, su_hit]
      exact ⟨trivial, g.2⟩
    · simp (disch := omega) only [up_row, up_slot, up_hit, su_row, su_slot, su_hit]
      exact g
  · (try simp (disch := omega) only [up_row, up_slot, up_hit, su_row, su_slot, su_hit]); exact g8
  · (try simp (disch := omega) only [up_row, up_slot, up_hit, su_row, su_slot, su_hit] at hi ⊢); exact g9 i hi
  · (try simp (disch := omega) only [up_row, up_slot, up_hit, su_row, su_slot, su_hit]); exact g10 l hl
  · (try simp (disch := omega) only [up_row, up_slot, up_hit, su_row, su_slot, su_hit]); exact g11
  · (try simp (disch := omega) only [up_row, up_slot, up_hit, su_row, su_slot, su_hit] at hd ⊢); exact g12 d hd
theorem CR_price {σ : St} {M : mM} {l0 v : Nat} (h : CR σ M) : CR (s_up σ 14 l0 v) (m_up M 61 l0 v) := by
  obtain ⟨⟨g1, g2⟩, ⟨g3, g4, g5⟩, g6, g7, ⟨g8, g9⟩, g10, ⟨g11, g12⟩⟩ := h
  refine ⟨⟨?_, fun j hj => ?_⟩, ⟨?_, ?_, fun b hb => ?_⟩, fun j hj => ?_, fun b hb => ?_, ⟨?_, fun i hi => ?_⟩, fun l hl => ?_, ⟨?_, fun d hd => ?_⟩⟩
  · (try simp (disch := omega) only [up_row, up_slot, up_hit, su_row, su_slot, su_hit]); exact g1
  · (try simp (disch := omega) only [up_row, up_slot, up_hit, su_row, su_slot, su_hit] at hj ⊢); exact g2 j hj
  · (try simp (disch := omega) only [up_row, up_slot, up_hit, su_row, su_slot, su_hit]); exact g3
  · (try simp (disch := omega) only [up_row, up_slot, up_hit, su_row, su_slot, su_hit]); exact g4
  · unfold HB1 n_need; (try simp (disch := omega) only [up_row, up_slot, up_hit, su_row, su_slot, su_hit]); exact g5 b hb
  · (try simp (disch := omega) only [up_row, up_slot, up_hit, su_row, su_slot, su_hit] at hj ⊢); exact g6 j hj
  · (try simp (disch := omega) only [up_row, up_slot, up_hit, su_row, su_slot, su_hit]); exact g7 b hb
  · (try simp (disch := omega) only [up_row, up_slot, up_hit, su_row, su_slot, su_hit]); exact g8
  · (try simp (disch := omega) only [up_row, up_slot, up_hit, su_row, su_slot, su_hit] at hi ⊢); exact g9 i hi
  · by_cases e : l = l0
    · subst e
      simp (disch := omega) only [up_row, up_slot, up_hit, su_row, su_slot, su_hit]
    · simp (disch := omega) only [up_row, up_slot, up_hit, su_row, su_slot, su_hit]
      exact g10 l hl
  · (try simp (disch := omega) only [up_row, up_slot, up_hit, su_row, su_slot, su_hit]); exact g11
  · (try simp (disch := omega) only [up_row, up_slot, up_hit, su_row, su_slot, su_hit] at hd ⊢); exact g12 d hd
theorem CR_signs {σ : St} {M : mM} {c : Nat} (h : CR σ M) : CR (s_up (s_up σ 18 (σ 17 0) c) 17 0 (σ 17 0 + 1)) (m_up (m_up M 27 (σ 17 0) c) 26 1 (σ 17 0 + 1)) := by
  obtain ⟨⟨g1, g2⟩, ⟨g3, g4, g5⟩, g6, g7, ⟨g8, g9⟩, g10, ⟨g11, g12⟩⟩ := h
  refine ⟨⟨?_, fun j hj => ?_⟩, ⟨?_, ?_, fun b hb => ?_⟩, fun j hj => ?_, fun b hb => ?_, ⟨?_, fun i hi => ?_⟩, fun l hl => ?_, ⟨?_, fun d hd => ?_⟩⟩
  · (try simp (disch := omega) only [up_row, up_slot, up_hit, su_row, su_slot, su_hit]); exact g1
  · (try simp (disch := omega) only [up_row, up_slot, up_hit, su_row, su_slot, su_hit] at hj ⊢); exact g2 j hj
  · (try simp (disch := omega) only [up_row, up_slot, up_hit, su_row, su_slot, su_hit]); exact g3
  · (try simp (disch := omega) only [up_row, up_slot, up_hit, su_row, su_slot, su_hit]); exact g4
  · unfold HB1 n_need; (try simp (disch := omega) only [up_row, up_slot, up_hit, su_row, su_slot, su_hit]); exact g5 b hb
  · (try simp (disch := omega) only [up_row, up_slot, up_hit, su_row, su_slot, su_hit] at hj ⊢); exact g6 j hj
  · (try simp (disch := omega) only [up_row, up_slot, up_hit, su_row, su_slot, su_hit]); exact g7 b hb
  · simp (disch := omega) only [up_row, up_slot, up_hit, su_row, su_slot, su_hit]
    omega
  · by_cases e : i = σ 17 0
    · subst e
      simp (disch := omega) only [up_row, up_slot, up_hit, su_row, su_slot, su_hit]
    · simp (disch := omega) only [up_row, up_slot, up_hit, su_row, su_slot, su_hit] at hi ⊢
      exact g9 i (by omega)
  · (try simp (disch := omega) only [up_row, up_slot, up_hit, su_row, su_slot, su_hit]); exact g10 l hl
  · (try simp (disch := omega) only [up_row, up_slot, up_hit, su_row, su_slot, su_hit]); exact g11
  · (try simp (disch := omega) only [up_row, up_slot, up_hit, su_row, su_slot, su_hit] at hd ⊢); exact g12 d hd
theorem CR_wipe {σ : St} {M : mM} (h : CR σ M) : CR (s_up σ 17 0 0) (m_up M 26 1 0) := by
  obtain ⟨⟨g1, g2⟩, ⟨g3, g4, g5⟩, g6, g7, ⟨g8, g9⟩, g10, ⟨g11, g12⟩⟩ := h
  refine ⟨⟨?_, fun j hj => ?_⟩, ⟨?_, ?_, fun b hb => ?_⟩, fun j hj => ?_, fun b hb => ?_, ⟨?_, fun i hi => ?_⟩, fun l hl => ?_, ⟨?_, fun d hd => ?_⟩⟩
  · (try simp (disch := omega) only [up_row, up_slot, up_hit, su_row, su_slot, su_hit]); exact g1
  · (try simp (disch := omega) only [up_row, up_slot, up_hit, su_row, su_slot, su_hit] at hj ⊢); exact g2 j hj
  · (try simp (disch := omega) only [up_row, up_slot, up_hit, su_row, su_slot, su_hit]); exact g3
  · (try simp (disch := omega) only [up_row, up_slot, up_hit, su_row, su_slot, su_hit]); exact g4
  · unfold HB1 n_need; (try simp (disch := omega) only [up_row, up_slot, up_hit, su_row, su_slot, su_hit]); exact g5 b hb
  · (try simp (disch := omega) only [up_row, up_slot, up_hit, su_row, su_slot, su_hit] at hj ⊢); exact g6 j hj
  · (try simp (disch := omega) only [up_row, up_slot, up_hit, su_row, su_slot, su_hit]); exact g7 b hb
  · simp (disch := omega) only [up_row, up_slot, up_hit, su_row, su_slot, su_hit]
    rfl
  · simp (disch := omega) only [up_row, up_slot, up_hit, su_row, su_slot, su_hit] at hi
    omega
  · (try simp (disch := omega) only [up_row, up_slot, up_hit, su_row, su_slot, su_hit]); exact g10 l hl
  · (try simp (disch := omega) only [up_row, up_slot, up_hit, su_row, su_slot, su_hit]); exact g11
  · (try simp (disch := omega) only [up_row, up_slot, up_hit, su_row, su_slot, su_hit] at hd ⊢); exact g12 d hd
theorem CR_lesson {σ : St} {M : mM} {c : Nat} (h : CR σ M) : CR (s_up (s_up σ 16 (σ 15 0) c) 15 0 (σ 15 0 + 1)) (m_up (m_up M 76 (σ 15 0) c) 75 2 (σ 15 0 + 1)) := by
  obtain ⟨⟨g1, g2⟩, ⟨g3, g4, g5⟩, g6, g7, ⟨g8, g9⟩, g10, ⟨g11, g12⟩⟩ := h
  refine ⟨⟨?_, fun j hj => ?_⟩, ⟨?_, ?_, fun b hb => ?_⟩, fun j hj => ?_, fun b hb => ?_, ⟨?_, fun i hi => ?_⟩, fun l hl => ?_, ⟨?_, fun d hd => ?_⟩⟩
  · (try simp (disch := omega) only [up_row, up_slot, up_hit, su_row, su_slot, su_hit]); exact g1
  · (try simp (disch := omega) only [up_row, up_slot, up_hit, su_row, su_slot, su_hit] at hj ⊢); exact g2 j hj
  · (try simp (disch := omega) only [up_row, up_slot, up_hit, su_row, su_slot, su_hit]); exact g3
  · (try simp (disch := omega) only [up_row, up_slot, up_hit, su_row, su_slot, su_hit]); exact g4
  · unfold HB1 n_need; (try simp (disch := omega) only [up_row, up_slot, up_hit, su_row, su_slot, su_hit]); exact g5 b hb
  · (try simp (disch := omega) only [up_row, up_slot, up_hit, su_row, su_slot, su_hit] at hj ⊢); exact g6 j hj
  · (try simp (disch := omega) only [up_row, up_slot, up_hit, su_row, su_slot, su_hit]); exact g7 b hb
  · (try simp (disch := omega) only [up_row, up_slot, up_hit, su_row, su_slot, su_hit]); exact g8
  · (try simp (disch := omega) only [up_row, up_slot, up_hit, su_row, su_slot, su_hit] at hi ⊢); exact g9 i hi
  · (try simp (disch := omega) only [up_row, up_slot, up_hit, su_row, su_slot, su_hit]); exact g10 l hl
  · simp (disch := omega) only [up_row, up_slot, up_hit, su_row, su_slot, su_hit]
    omega
  · by_cases e : d = σ 15 0
    · subst e
      simp (disch := omega) only [up_row, up_slot, up_hit, su_row, su_slot, su_hit]
    · simp (disch := omega) only [up_row, up_slot, up_hit, su_row, su_slot, su_hit] at hd ⊢
      exact g12 d (by omega)
theorem CR_unlearn {σ : St} {M : mM} (h : CR σ M) : CR (s_up σ 15 0 0) (m_up M 75 2 0) := by
  obtain ⟨⟨g1, g2⟩, ⟨g3, g4, g5⟩, g6, g7, ⟨g8, g9⟩, g10, ⟨g11, g12⟩⟩ := h
  refine ⟨⟨?_, fun j hj => ?_⟩, ⟨?_, ?_, fun b hb => ?_⟩, fun j hj => ?_, fun b hb => ?_, ⟨?_, fun i hi => ?_⟩, fun l hl => ?_, ⟨?_, fun d hd => ?_⟩⟩
  · (try simp (disch := omega) only [up_row, up_slot, up_hit, su_row, su_slot, su_hit]); exact g1
  · (try simp (disch := omega) only [up_row, up_slot, up_hit, su_row, su_slot, su_hit] at hj ⊢); exact g2 j hj
  · (try simp (disch := omega) only [up_row, up_slot, up_hit, su_row, su_slot, su_hit]); exact g3
  · (try simp (disch := omega) only [up_row, up_slot, up_hit, su_row, su_slot, su_hit]); exact g4
  · unfold HB1 n_need; (try simp (disch := omega) only [up_row, up_slot, up_hit, su_row, su_slot, su_hit]); exact g5 b hb
  · (try simp (disch := omega) only [up_row, up_slot, up_hit, su_row, su_slot, su_hit] at hj ⊢); exact g6 j hj
  · (try simp (disch := omega) only [up_row, up_slot, up_hit, su_row, su_slot, su_hit]); exact g7 b hb
  · (try simp (disch := omega) only [up_row, up_slot, up_hit, su_row, su_slot, su_hit]); exact g8
  · (try simp (disch := omega) only [up_row, up_slot, up_hit, su_row, su_slot, su_hit] at hi ⊢); exact g9 i hi
  · (try simp (disch := omega) only [up_row, up_slot, up_hit, su_row, su_slot, su_hit]); exact g10 l hl
  · simp (disch := omega) only [up_row, up_slot, up_hit, su_row, su_slot, su_hit]
    rfl
  · simp (disch := omega) only [up_row, up_slot, up_hit, su_row, su_slot, su_hit] at hd
    omega
theorem Fr_up {M : mM} {p j : Nat} {v : Int} (hp : p < 79) : FrC M (m_up M p j v) := fun q hq => up_row (by omega)
theorem Fr_trans {M M1 M2 : mM} (h1 : FrC M M1) (h2 : FrC M1 M2) : FrC M M2 := fun q hq => (h2 q hq).trans (h1 q hq)
theorem Fr_rfl {M : mM} : FrC M M := fun _ _ => rfl
theorem FrK_rfl {M : mM} : FrK M M := Or.inr fun _ _ _ => rfl
theorem FrK_up {M : mM} {p j : Nat} {v : Int} (hp : p < 70 ∨ 75 ≤ p) : FrK M (m_up M p j v) := Or.inr fun q h1 h2 => up_row (by omega)
theorem FrK_trans {M M1 M2 : mM} (h1 : FrK M M1) (h2 : ∀ p, 70 ≤ p → p < 75 → M2 p = M1 p) : FrK M M2 := by
  rcases h1 with ⟨a, b⟩ | h
  · exact Or.inl ⟨by rw [h2 70 (by omega) (by omega)]; exact a, by rw [h2 74 (by omega) (by omega)]; exact b⟩
  · exact Or.inr fun p a b => (h2 p a b).trans (h p a b)
theorem FrK_forget {M : mM} {p j : Nat} {v : Int} (hp : p < 70 ∨ 75 ≤ p) : FrK M (m_up (m_up (m_up M 70 7 0) 74 4 0) p j v) := Or.inl ⟨by simp (disch := omega) only [up_row, up_slot, up_hit, su_row, su_slot, su_hit], by simp (disch := omega) only [up_row, up_slot, up_hit, su_row, su_slot, su_hit]⟩
theorem FrC_forget {M : mM} : FrC M (m_up (m_up M 70 7 0) 74 4 0) := fun q hq => by simp (disch := omega) only [up_row, up_slot, up_hit, su_row, su_slot, su_hit]
/-- what a call of the class does -/
abbrev PC (z : Int × St) (M : mM) (r : Int) (M' : mM) : Prop := r = z.1 ∧ CR z.2 M' ∧ FrC M M' ∧ FrK M M'
theorem PC_same {σ : St} {M : mM} {x : Int} (h : CR σ M) : PC (x, σ) M x M := ⟨rfl, h, Fr_rfl, FrK_rfl⟩
theorem nat_of {x : Int} (h : 0 ≤ x) : ∃ n : Nat, x = n := ⟨x.toNat, by omega⟩
def sp_buyer (σ : St) : Int × St := if 6 ≤ σ 5 0 then (-4, σ) else (σ 5 0, s_up σ 5 0 (σ 5 0 + 1))
theorem kc_buyer {σ : St} {M : mM} (h : CR σ M) : C_ kk_X10_buyer [v_P 0] M (PC (sp_buyer σ) M) := by
  have h1 := h.2.1.1
  refine c_intro (by decide) rfl (Nat.le_of_ble_eq_true rfl) (by simp [m_dv, Value.category]) (wp_X10_buyer_0 ⟨fun q => ⟨_, c_forget, fun r2 M3 _ _ e3 => ?_⟩, fun q => ?_⟩)
  · subst e3
    rw [h1] at q
    unfold sp_buyer
    rw [if_neg (by omega)]
    simp (disch := omega) only [up_row, up_slot, up_hit, su_row, su_slot, su_hit]
    rw [h1]
    refine ⟨⟨by omega, by omega⟩, ⟨by omega, by omega⟩, by omega, ?_, Fr_trans FrC_forget (Fr_up (by decide)), FrK_forget (by decide)⟩
    exact CR_buyer (v := σ 5 0 + 1) (CR_forget h)
  · rw [h1] at q
    unfold sp_buyer
    rw [if_pos (by omega)]
    exact PC_same h
def sp_set (σ : St) (b w v : Int) : Int × St := if ¬ (0 ≤ b ∧ b < σ 5 0) then (-1, σ) else if w < 0 ∨ 2 < w ∨ v < 0 ∨ (if w = 0 then 1000 else 99) < v then (-2, σ) else (σ (6 + w.toNat) b.toNat, s_up σ (6 + w.toNat) b.toNat v.toNat)
theorem kc_set {σ : St} {M : mM} {b w v : Int} (hw : Wf σ) (h : CR σ M) : C_ kk_X10_set [v_P 0, v_I b, v_I w, v_I v] M (PC (sp_set σ b w v) M) := by
  have h1 := h.2.1.1
  have hnb := hw.2.2.2.1
  refine c_intro (by decide) rfl (Nat.le_of_ble_eq_true rfl) (by simp [m_dv, Value.category]) (wp_X10_set_0 ?_)
  rw [h1]
  refine ⟨fun q => ⟨fun q2 => ?_, fun q2 => ⟨fun r M' => M' = M ∧ r = if w = 0 then 1000 else 99, ?_, fun r2 M3 _ _ e3 => ?_⟩⟩, fun q => ?_⟩
  · unfold sp_set
    rw [if_neg (by omega), if_pos (by omega)]
    exact PC_same h
  · exact c_intro (by decide) rfl (Nat.le_of_ble_eq_true rfl) (by simp [m_dv, Value.category]) (wp_X1_most_0 ⟨fun a => ⟨fun _ => ⟨rfl, by rw [if_neg a]⟩, fun _ => ⟨rfl, by rw [if_neg a]⟩⟩, fun a => ⟨rfl, by rw [if_pos a]⟩⟩)
  · obtain ⟨e0, rfl⟩ := e3
    subst e0
    refine ⟨fun q3 => ?_, fun q3 => ⟨_, c_forget, fun r9 M10 _ _ e10 => ⟨by omega, ?_⟩⟩⟩
    · unfold sp_set
      rw [if_neg (by omega), if_pos (by omega)]
      exact PC_same h
    · obtain ⟨b', rfl⟩ := nat_of q.1
      obtain ⟨w', rfl⟩ := nat_of (x := w) (by omega)
      obtain ⟨v', rfl⟩ := nat_of (x := v) (by omega)
      unfold sp_set
      rw [if_neg (by omega), if_neg (by omega)]
      simp only [Int.toNat_natCast]
      have hb6 : b' < 6 := by omega
      have g := h.2.1.2.2 b' hb6
      have e : C_ kk_X1_put [v_P (8 + 3 * b'), v_I (w' : Int), v_I (v' : Int)] M10 (fun r M' => r = M10 (8 + 3 * b') w' ∧ M' = m_up M10 (8 + 3 * b') w' v') := by
        refine c_intro (by decide) rfl (Nat.le_of_ble_eq_true rfl) (by simp [m_dv, Value.category]) (wp_X1_put_0 (isB_at hb6) ⟨fun a => ⟨fun a2 => ?_, fun a2 => ?_⟩, fun a => ?_⟩)
        · rw [show w' = 2 by omega]
          exact ⟨rfl, rfl⟩
        · rw [show w' = 1 by omega]
          exact ⟨rfl, rfl⟩
        · rw [show w' = 0 by omega]
          exact ⟨rfl, rfl⟩
      refine ⟨_, e, fun r18 M19 _ _ e19 => ?_⟩
      obtain ⟨rfl, rfl⟩ := e19
      subst e10
      refine ⟨?_, CR_coin (by omega) (CR_forget h) hb6, Fr_trans FrC_forget (Fr_up (by omega)), FrK_forget (by omega)⟩
      simp (disch := omega) only [up_row, up_slot, up_hit, su_row, su_slot, su_hit]
      rcases (show w' = 0 ∨ w' = 1 ∨ w' = 2 by omega) with rfl | rfl | rfl
      · exact g.1
      · exact g.2.1
      · exact g.2.2.1
  · unfold sp_set
    rw [if_pos q]
    exact PC_same h
def sp_say (σ : St) (c : Int) : Int × St := if c < 33 ∨ 126 < c then (-2, σ) else if 50 ≤ σ 17 0 then (-4, σ) else (σ 17 0 + 1, s_up (s_up σ 18 (σ 17 0) c.toNat) 17 0 (σ 17 0 + 1))
theorem kc_say {σ : St} {M : mM} {c : Int} (h : CR σ M) : C_ kk_X10_say [v_P 0, v_I c] M (PC (sp_say σ c) M) := by
  have h1 := h.2.2.2.2.1.1
  refine c_intro (by decide) rfl (Nat.le_of_ble_eq_true rfl) (by simp [m_dv, Value.category]) (wp_X10_say_0 ?_)
  rw [h1]
  refine ⟨fun q => ?_, fun q => ⟨fun q2 => ⟨by omega, ⟨by omega, by omega⟩, ?_⟩, fun q2 => ?_⟩⟩
  · unfold sp_say
    rw [if_pos q]
    exact PC_same h
  · unfold sp_say
    rw [if_neg q, if_neg (by omega)]
    obtain ⟨c', rfl⟩ := nat_of (x := c) (by omega)
    simp only [Int.toNat_natCast]
    exact ⟨rfl, CR_signs h, Fr_trans (Fr_up (by decide)) (Fr_up (by decide)), FrK_trans (FrK_up (by decide)) (fun p _ _ => up_row (by omega))⟩
  · unfold sp_say
    rw [if_neg q, if_pos (by omega)]
    exact PC_same h
def sp_wipe (σ : St) : Int × St := (σ 17 0, s_up σ 17 0 0)
theorem kc_wipe {σ : St} {M : mM} (h : CR σ M) : C_ kk_X10_wipe [v_P 0] M (PC (sp_wipe σ) M) :=
  c_intro (by decide) rfl (Nat.le_of_ble_eq_true rfl) (by simp [m_dv, Value.category]) (wp_X10_wipe_0 ⟨h.2.2.2.2.1.1, CR_wipe h, Fr_up (by decide), FrK_up (by decide)⟩)
def sp_top (σ : St) (v : Int) : Int × St := if v < 1 ∨ 200 < v then (-2, σ) else (σ 13 0, s_up σ 13 0 v.toNat)
theorem kc_top {σ : St} {M : mM} {v : Int} (h : CR σ M) : C_ kk_X10_top [v_P 0, v_I v] M (PC (sp_top σ v) M) := by
  refine c_intro (by decide) rfl (Nat.le_of_ble_eq_true rfl) (by simp [m_dv, Value.category]) (wp_X10_top_0 ⟨fun q => ?_, fun q => ⟨_, c_forget, fun r2 M3 _ _ e3 => ?_⟩⟩)
  · unfold sp_top
    rw [if_pos q]
    exact PC_same h
  · subst e3
    unfold sp_top
    rw [if_neg q]
    obtain ⟨v', rfl⟩ := nat_of (x := v) (by omega)
    refine ⟨?_, CR_top (CR_forget h), Fr_trans FrC_forget (Fr_up (by decide)), FrK_forget (by decide)⟩
    simp (disch := omega) only [up_row, up_slot, up_hit, su_row, su_slot, su_hit]
    exact h.2.1.2.1
def sp_order (σ : St) (k : Int) : Int × St := (if 0 ≤ k ∧ k < σ 0 0 then (σ 4 k.toNat : Int) else -6, σ)
theorem kc_order {σ : St} {M : mM} {k : Int} (hw : Wf σ) (h : CR σ M) : C_ kk_X10_order [v_P 0, v_I k] M (PC (sp_order σ k) M) := by
  have h1 := h.1.1
  have hn := hw.1
  refine c_intro (by decide) rfl (Nat.le_of_ble_eq_true rfl) (by simp [m_dv, Value.category]) (wp_X10_order_0 ?_)
  rw [h1]
  refine ⟨fun q => ⟨by omega, ?_⟩, fun q => ?_⟩
  · unfold sp_order
    rw [if_pos q, h.2.2.1 k.toNat (by omega)]
    exact PC_same h
  · unfold sp_order
    rw [if_neg q]
    exact PC_same h
def sp_price (σ : St) (l v : Int) : Int × St := if ¬ (0 ≤ l ∧ l < σ 0 0) then (-1, σ) else if v < 0 ∨ 1000 < v then (-2, σ) else (σ 14 l.toNat, s_up σ 14 l.toNat v.toNat)
theorem kc_price {σ : St} {M : mM} {l v : Int} (hw : Wf σ) (h : CR σ M) : C_ kk_X10_price [v_P 0, v_I l, v_I v] M (PC (sp_price σ l v) M) := by
  have h1 := h.1.1
  have hn := hw.1
  refine c_intro (by decide) rfl (Nat.le_of_ble_eq_true rfl) (by simp [m_dv, Value.category]) (wp_X10_price_0 ?_)
  rw [h1]
  refine ⟨fun q => ⟨fun q2 => ?_, fun q2 => ⟨by omega, by omega, ?_⟩⟩, fun q => ?_⟩
  · unfold sp_price
    rw [if_neg (by omega), if_pos q2]
    exact PC_same h
  · unfold sp_price
    rw [if_neg (by omega), if_neg q2]
    obtain ⟨v', rfl⟩ := nat_of (x := v) (by omega)
    exact ⟨h.2.2.2.2.2.1 l.toNat (by omega), CR_price h, Fr_up (by decide), FrK_up (by decide)⟩
  · unfold sp_price
    rw [if_pos q]
    exact PC_same h
def sp_lesson (σ : St) (v : Int) : Int × St := if v < 1 ∨ 200 < v then (-2, σ) else if 8 ≤ σ 15 0 then (-4, σ) else (σ 15 0 + 1, s_up (s_up σ 16 (σ 15 0) v.toNat) 15 0 (σ 15 0 + 1))
theorem kc_lesson {σ : St} {M : mM} {v : Int} (h : CR σ M) : C_ kk_X10_lesson [v_P 0, v_I v] M (PC (sp_lesson σ v) M) := by
  have h1 := h.2.2.2.2.2.2.1
  refine c_intro (by decide) rfl (Nat.le_of_ble_eq_true rfl) (by simp [m_dv, Value.category]) (wp_X10_lesson_0 ?_)
  rw [h1]
  refine ⟨fun q => ?_, fun q => ⟨fun q2 => ⟨by omega, ⟨by omega, by omega⟩, ?_⟩, fun q2 => ?_⟩⟩
  · unfold sp_lesson
    rw [if_pos q]
    exact PC_same h
  · unfold sp_lesson
    rw [if_neg q, if_neg (by omega)]
    obtain ⟨v', rfl⟩ := nat_of (x := v) (by omega)
    simp only [Int.toNat_natCast]
    exact ⟨rfl, CR_lesson h, Fr_trans (Fr_up (by decide)) (Fr_up (by decide)), FrK_trans (FrK_up (by decide)) (fun p _ _ => up_row (by omega))⟩
  · unfold sp_lesson
    rw [if_neg q, if_pos (by omega)]
    exact PC_same h
def sp_unlearn (σ : St) : Int × St := (σ 15 0, s_up σ 15 0 0)
theorem kc_unlearn {σ : St} {M : mM} (h : CR σ M) : C_ kk_X10_unlearn [v_P 0] M (PC (sp_unlearn σ) M) :=
  c_intro (by decide) rfl (Nat.le_of_ble_eq_true rfl) (by simp [m_dv, Value.category]) (wp_X10_unlearn_0 ⟨h.2.2.2.2.2.2.1, CR_unlearn h, Fr_up (by decide), FrK_up (by decide)⟩)
def sp_told (σ : St) (w : Int) : Int × St := (if w = 0 then (σ 0 0 : Int) else if w = 1 then (σ 5 0 : Int) else if w = 2 then (σ 17 0 : Int) else if w = 3 then (σ 15 0 : Int) else if w = 4 then (σ 13 0 : Int) else if 10 ≤ w ∧ w ≤ 15 then (σ 9 (w - 10).toNat : Int) else -2, σ)
theorem kc_told {σ : St} {M : mM} {w : Int} (h : CR σ M) : C_ kk_X10_told [v_P 0, v_I w] M (PC (sp_told σ w) M) := by
  refine c_intro (by decide) rfl (Nat.le_of_ble_eq_true rfl) (by simp [m_dv, Value.category]) (wp_X10_told_0 ⟨fun q => ?_, fun q => ?_, fun q => ?_, fun q => ?_, fun q => ?_, fun q => ⟨fun q2 => ?_, fun q2 => ⟨⟨by omega, by omega⟩, by omega, ?_⟩⟩⟩)
  · subst q; rw [h.1.1]; exact PC_same h
  · subst q; rw [h.2.1.1]; exact PC_same h
  · subst q; rw [h.2.2.2.2.1.1]; exact PC_same h
  · subst q; rw [h.2.2.2.2.2.2.1]; exact PC_same h
  · subst q; rw [h.2.1.2.1]; exact PC_same h
  · unfold sp_told
    rw [if_neg (by omega), if_neg (by omega), if_neg (by omega), if_neg (by omega), if_neg (by omega), if_neg (by omega)]
    exact PC_same h
  · unfold sp_told
    rw [if_neg (by omega), if_neg (by omega), if_neg (by omega), if_neg (by omega), if_neg (by omega), if_pos (by omega)]
    rw [(h.2.1.2.2 (w - 10).toNat (by omega)).2.2.2.1]
    exact PC_same h
def sp_leave (σ : St) (b v : Int) : Int × St := if ¬ (0 ≤ b ∧ b < σ 5 0) then (-1, σ) else if v < 0 ∨ ((2 ^ σ 9 b.toNat : Nat) : Int) ≤ v then (-2, σ) else (σ 12 b.toNat, s_up σ 12 b.toNat v.toNat)
theorem kc_leave {σ : St} {M : mM} {b v : Int} (hw : Wf σ) (h : CR σ M) : C_ kk_X10_leave [v_P 0, v_I b, v_I v] M (PC (sp_leave σ b v) M) := by
  have h1 := h.2.1.1
  have hnb := hw.2.2.2.1
  refine c_intro (by decide) rfl (Nat.le_of_ble_eq_true rfl) (by simp [m_dv, Value.category]) (wp_X10_leave_0 ?_)
  rw [h1]
  refine ⟨fun q => ?_, fun q => ?_⟩
  · obtain ⟨b', rfl⟩ := nat_of q.1
    have hb6 : b' < 6 := by omega
    have g := h.2.1.2.2 b' hb6
    have gw := hw.2.2.2.2.1 b' hb6
    simp only [Int.toNat_natCast]
    rw [g.2.2.2.1, b_shl1 (by omega)]
    have p1 : 2 ^ σ 9 b' ≤ 2 ^ 6 := Nat.pow_le_pow_right (by decide) gw.2.2.2.1
    have p2 : 0 < 2 ^ σ 9 b' := Nat.pow_pos (by decide)
    refine ⟨by omega, ⟨by omega, by omega⟩, fun q2 => ?_, fun q2 => ⟨_, c_forget, fun r5 M6 _ _ e6 => ?_⟩⟩
    · unfold sp_leave
      simp only [Int.toNat_natCast]
      rw [if_neg (by omega), if_pos (by omega)]
      exact PC_same h
    · subst e6
      unfold sp_leave
      simp only [Int.toNat_natCast]
      rw [if_neg (by omega), if_neg (by omega)]
      obtain ⟨v', rfl⟩ := nat_of (x := v) (by omega)
      simp only [Int.toNat_natCast]
      refine ⟨?_, CR_left (CR_forget h) hb6 (by omega), Fr_trans FrC_forget (Fr_up (by omega)), FrK_forget (by omega)⟩
      simp (disch := omega) only [up_row, up_slot, up_hit, su_row, su_slot, su_hit]
      exact (h.2.2.2.1 b' hb6).1
  · unfold sp_leave
    rw [if_pos q]
    exact PC_same h
