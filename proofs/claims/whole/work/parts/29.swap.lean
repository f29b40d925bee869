/-! swap, alternative -/
def n_sw (a b x : Nat) : Nat := if x = a then b else if x = b then a else x
def s_sw (σ : St) (a b : Nat) : St := fun f k => if f = 4 ∧ k < σ 0 0 then n_sw a b (σ 4 k) else σ f k
def sp_swap (σ : St) (a b : Int) : Int × St := if ¬ (0 ≤ a ∧ a < σ 0 0) ∨ ¬ (0 ≤ b ∧ b < σ 0 0) then (-1, σ) else (1, s_sw σ a.toNat b.toNat)
theorem sw_row {σ : St} {a b f : Nat} (h : f ≠ 4) : s_sw σ a b f = σ f := by
  funext k
  unfold s_sw
  rw [if_neg (fun z => h z.1)]
theorem sw_hit {σ : St} {a b k : Nat} (h : k < σ 0 0) : s_sw σ a b 4 k = n_sw a b (σ 4 k) := by
  unfold s_sw
  rw [if_pos ⟨rfl, h⟩]
theorem kc_swap {σ : St} {M : mM} {a b : Int} (hw : Wf σ) (h : CR σ M) : C_ kk_X10_swap [v_P 0, v_I a, v_I b] M (PC (sp_swap σ a b) M) := by
  have hn := hw.1
  refine c_intro (by decide) rfl (Nat.le_of_ble_eq_true rfl) (by simp [m_dv, Value.category]) (wp_X10_swap_0 ?_)
  rw [h.1.1]
  refine ⟨fun q => ⟨fun q2 => ?_, fun q2 => ?_⟩, fun q => ?_⟩
  · obtain ⟨a', rfl⟩ := nat_of q.1
    obtain ⟨b', rfl⟩ := nat_of q2.1
    have loop : ∀ m k M', k + m = σ 0 0 → (∀ j, j < σ 0 0 → M' 5 j = if j < k then ((n_sw a' b' (σ 4 j) : Nat) : Int) else σ 4 j) → (∀ p, p ≠ 5 → M' p = M p) → X_ kk_X6_changePlaces 2 [v_P 1, v_I (a' : Int), v_I (b' : Int), v_I (k : Int)] [] M' (fun _ M'' => (∀ j, j < σ 0 0 → M'' 5 j = ((n_sw a' b' (σ 4 j) : Nat) : Int)) ∧ ∀ p, p ≠ 5 → M'' p = M p) := by
      intro m
      induction m with
      | zero =>
        intro k M' hk h1 h2
        refine wp_X6_changePlaces_2 ⟨fun _ => ⟨fun j hj => ?_, h2⟩, fun z => absurd z (by rw [h2 1 (by decide), h.1.1]; omega)⟩
        rw [h1 j hj, if_pos (by omega)]
      | succ m ih =>
        intro k M' hk h1 h2
        have e5 : M' 5 k = σ 4 k := by rw [h1 k (by omega), if_neg (by omega)]
        have i1 : m_ir ((k : Int) + 1) := ⟨by omega, by omega⟩
        refine wp_X6_changePlaces_2 ⟨fun z => absurd z (by rw [h2 1 (by decide), h.1.1]; omega), fun _ => ?_⟩
        rw [Int.toNat_natCast, e5]
        have step : ∀ v : Nat, v = n_sw a' b' (σ 4 k) → X_ kk_X6_changePlaces 2 [v_P 1, v_I (a' : Int), v_I (b' : Int), v_I ((k : Int) + 1)] [] (m_up M' 5 k v) (fun _ M'' => (∀ j, j < σ 0 0 → M'' 5 j = ((n_sw a' b' (σ 4 j) : Nat) : Int)) ∧ ∀ p, p ≠ 5 → M'' p = M p) := by
          intro v hv
          refine ih (k + 1) _ (by omega) (fun j hj => ?_) (fun p hp => by rw [up_row hp]; exact h2 p hp)
          by_cases e : j = k
          · subst e
            rw [up_hit, if_pos (by omega), hv]
          · rw [up_slot e, h1 j hj]
            by_cases z : j < k
            · rw [if_pos z, if_pos (by omega)]
            · rw [if_neg z, if_neg (by omega)]
        refine ⟨by omega, fun q3 => ⟨by omega, fun q4 => ⟨i1, ?_⟩, fun q4 => ⟨by omega, i1, ?_⟩⟩, fun q3 => ⟨by omega, i1, ?_⟩⟩
        · have e : n_sw a' b' (σ 4 k) = σ 4 k := by unfold n_sw; rw [if_neg (by omega), if_neg (by omega)]
          have s1 := step (σ 4 k) e.symm
          have eM : m_up M' 5 k (σ 4 k : Nat) = M' := by
            funext p j
            by_cases z : p = 5 ∧ j = k
            · rw [z.1, z.2, up_hit, e5]
            · exact m_up_ne (by omega)
          rw [eM] at s1
          exact s1
        · exact step a' (by unfold n_sw; rw [if_neg (by omega), if_pos (by omega)])
        · exact step b' (by unfold n_sw; rw [if_pos (by omega)])
    refine ⟨_, c_intro (by decide) rfl (Nat.le_of_ble_eq_true rfl) (by simp [m_dv, Value.category]) (wp_X6_changePlaces_0 (loop (σ 0 0) 0 M (by omega) (fun j hj => by rw [if_neg (by omega)]; exact h.2.2.1 j hj) (fun _ _ => rfl))), fun r2 M3 _ _ e3 => ?_⟩
    obtain ⟨e1, e2⟩ := e3
    unfold sp_swap
    rw [if_neg (by omega), Int.toNat_natCast, Int.toNat_natCast]
    refine ⟨rfl, ?_, fun p hp => e2 p (by omega), Or.inr fun p hp1 hp2 => e2 p (by omega)⟩
    show CR (s_sw σ a' b') M3
    obtain ⟨⟨g1, g2⟩, ⟨g3, g4, g5⟩, g6, g7, ⟨g8, g9⟩, g10, ⟨g11, g12⟩⟩ := h
    refine ⟨⟨?_, fun j hj => ?_⟩, ⟨?_, ?_, fun b hb => ?_⟩, fun j hj => ?_, fun b hb => ?_, ⟨?_, fun i hi => ?_⟩, fun l hl => ?_, ⟨?_, fun d hd => ?_⟩⟩
    · rw [sw_row (by decide), e2 1 (by decide)]; exact g1
    · rw [sw_row (by decide)] at hj
      rw [sw_row (by decide), sw_row (by decide), sw_row (by decide), e2 2 (by decide), e2 3 (by decide), e2 4 (by decide), e2 6 (by decide)]; exact g2 j hj
    · rw [sw_row (by decide), e2 1 (by decide)]; exact g3
    · rw [sw_row (by decide), e2 1 (by decide)]; exact g4
    · unfold HB1 n_need
      simp only [sw_row (σ := σ) (a := a') (b := b') (f := 6) (by decide), sw_row (σ := σ) (a := a') (b := b') (f := 7) (by decide), sw_row (σ := σ) (a := a') (b := b') (f := 8) (by decide), sw_row (σ := σ) (a := a') (b := b') (f := 9) (by decide), sw_row (σ := σ) (a := a') (b := b') (f := 10) (by decide), sw_row (σ := σ) (a := a') (b := b') (f := 11) (by decide), sw_row (σ := σ) (a := a') (b := b') (f := 12) (by decide)]
      rw [e2 (8 + 3 * b) (by omega), e2 (8 + 3 * b + 1) (by omega), e2 (8 + 3 * b + 2) (by omega)]
      exact g5 b hb
    · rw [sw_row (by decide)] at hj
      rw [sw_hit hj]
      exact e1 j hj
    · rw [sw_row (by decide), e2 (8 + 3 * b) (by omega)]; exact g7 b hb
    · rw [sw_row (by decide), e2 26 (by decide)]; exact g8
    · rw [sw_row (by decide)] at hi
      rw [sw_row (by decide), e2 27 (by decide)]; exact g9 i hi
    · rw [sw_row (by decide), e2 61 (by decide)]; exact g10 l hl
    · rw [sw_row (by decide), e2 75 (by decide)]; exact g11
    · rw [sw_row (by decide)] at hd
      rw [sw_row (by decide), e2 76 (by decide)]; exact g12 d hd
  · unfold sp_swap
    rw [if_pos (Or.inr q2)]
    exact PC_same h
  · unfold sp_swap
    rw [if_pos (Or.inl q)]
    exact PC_same h
theorem km_swap {σ : St} {M : mM} {a b : Int} (hw : Wf σ) (h : MR σ M) : C_ kk_X11_swap [v_P 79, v_I a, v_I b] M (PM (sp_swap σ a b) M) := by
  have hn := hw.1
  refine c_intro (by decide) rfl (Nat.le_of_ble_eq_true rfl) (by simp [m_dv, Value.category]) (wp_X11_swap_0 ?_)
  rw [h.1]
  refine ⟨by omega, fun q => ⟨by omega, fun q2 => ?_, fun q2 => ?_⟩, fun q => ?_⟩
  · obtain ⟨a', rfl⟩ := nat_of q.1
    obtain ⟨b', rfl⟩ := nat_of q2.1
    unfold sp_swap
    rw [if_neg (by omega), Int.toNat_natCast, Int.toNat_natCast]
    have fin : ∀ M3, (∀ j, j < σ 0 0 → M3 83 j = ((n_sw a' b' (σ 4 j) : Nat) : Int)) → (∀ p, p ≠ 83 → M3 p = M p) → PM (1, s_sw σ a' b') M 1 M3 := by
      intro M3 e1 e2
      refine ⟨rfl, ?_, fun p hp => e2 p (by omega)⟩
      show MR (s_sw σ a' b') M3
      obtain ⟨g1, g2, g3, g4, g5, g6, g7, g8, g9, g10, g11⟩ := h
      refine ⟨?_, fun j hj => ?_, ?_, ?_, fun b hb => ?_, fun b hb => ?_, ?_, fun i hi => ?_, fun l hl => ?_, ?_, fun d hd => ?_⟩
      · rw [sw_row (by decide), e2 79 (by decide)]; exact g1
      · rw [sw_row (by decide)] at hj
        rw [sw_row (by decide), sw_row (by decide), sw_row (by decide), sw_hit hj, e2 80 (by decide), e2 81 (by decide), e2 82 (by decide)]
        exact ⟨(g2 j hj).1, (g2 j hj).2.1, (g2 j hj).2.2.1, e1 j hj⟩
      · rw [sw_row (by decide), e2 79 (by decide)]; exact g3
      · rw [sw_row (by decide), e2 79 (by decide)]; exact g4
      · rw [sw_row (by decide)] at hb
        rw [sw_row (by decide), sw_row (by decide), sw_row (by decide), e2 84 (by decide), e2 85 (by decide), e2 86 (by decide)]; exact g5 b hb
      · rw [sw_row (by decide), sw_row (by decide), sw_row (by decide), sw_row (by decide), e2 90 (by decide), e2 91 (by decide), e2 89 (by decide), e2 88 (by decide)]; exact g6 b hb
      · rw [sw_row (by decide), e2 79 (by decide)]; exact g7
      · rw [sw_row (by decide)] at hi
        rw [sw_row (by decide), e2 87 (by decide)]; exact g8 i hi
      · rw [sw_row (by decide), e2 101 (by decide)]; exact g9 l hl
      · rw [sw_row (by decide), e2 79 (by decide)]; exact g10
      · rw [sw_row (by decide)] at hd
        rw [sw_row (by decide), e2 108 (by decide)]; exact g11 d hd
    have loop : ∀ m k M', k + m = σ 0 0 → (∀ j, j < σ 0 0 → M' 83 j = if j < k then ((n_sw a' b' (σ 4 j) : Nat) : Int) else σ 4 j) → (∀ p, p ≠ 83 → M' p = M p) → X_ kk_X11_swap 20 [v_P 79, v_I (a' : Int), v_I (b' : Int), v_I (k : Int), v_U] [] M' (PM (1, s_sw σ a' b') M) := by
      intro m
      induction m with
      | zero =>
        intro k M' hk h1 h2
        refine wp_X11_swap_20 ⟨fun _ => fin M' (fun j hj => ?_) h2, fun z => absurd z (by rw [h2 79 (by decide), h.1]; omega)⟩
        rw [h1 j hj, if_pos (by omega)]
      | succ m ih =>
        intro k M' hk h1 h2
        have e5 : M' 83 k = σ 4 k := by rw [h1 k (by omega), if_neg (by omega)]
        have i1 : m_ir ((k : Int) + 1) := ⟨by omega, by omega⟩
        refine wp_X11_swap_20 ⟨fun z => absurd z (by rw [h2 79 (by decide), h.1]; omega), fun _ => ?_⟩
        rw [Int.toNat_natCast, e5]
        have step : ∀ v : Nat, v = n_sw a' b' (σ 4 k) → X_ kk_X11_swap 20 [v_P 79, v_I (a' : Int), v_I (b' : Int), v_I ((k : Int) + 1), v_U] [] (m_up M' 83 k v) (PM (1, s_sw σ a' b') M) := by
          intro v hv
          refine ih (k + 1) _ (by omega) (fun j hj => ?_) (fun p hp => by rw [up_row hp]; exact h2 p hp)
          by_cases e : j = k
          · subst e
            rw [up_hit, if_pos (by omega), hv]
          · rw [up_slot e, h1 j hj]
            by_cases z : j < k
            · rw [if_pos z, if_pos (by omega)]
            · rw [if_neg z, if_neg (by omega)]
        refine ⟨by omega, fun q3 => ⟨fun q4 => ⟨by omega, i1, ?_⟩, fun q4 => ⟨by omega, i1, ?_⟩⟩, fun q3 => ⟨by omega, i1, ?_⟩⟩
        · exact step (σ 4 k) (by unfold n_sw; rw [if_neg (by omega), if_neg (by omega)])
        · exact step a' (by unfold n_sw; rw [if_neg (by omega), if_pos (by omega)])
        · exact step b' (by unfold n_sw; rw [if_pos (by omega)])
    exact loop (σ 0 0) 0 M (by omega) (fun j hj => by rw [if_neg (by omega)]; exact (h.2.1 j hj).2.2.2) (fun _ _ => rfl)
  · unfold sp_swap
    rw [if_pos (Or.inr q2)]
    exact PM_same h
  · unfold sp_swap
    rw [if_pos (Or.inl q)]
    exact PM_same h
def sp_alt (σ : St) (b i w : Int) : Int × St := (if ¬ (0 ≤ b ∧ b < σ 5 0) then -1 else if ¬ (0 ≤ i ∧ i < σ 9 b.toNat) then -1 else if w < 0 ∨ 5 < w then -2 else if w = 0 then (σ 10 (6 * b.toNat + i.toNat) : Int) else (σ 11 (5 * (6 * b.toNat + i.toNat) + (w.toNat - 1)) : Int), σ)
theorem pk_digit {c : Nat → Nat} (hc : ∀ s, s < 5 → c s < 16) {s : Nat} (hs : s < 5) : n_pack c / 2 ^ (5 * s) % 16 = c s := by
  have h0 := hc 0 (by decide)
  have h1 := hc 1 (by decide)
  have h2 := hc 2 (by decide)
  have h3 := hc 3 (by decide)
  have h4 := hc 4 (by decide)
  unfold n_pack
  rcases (show s = 0 ∨ s = 1 ∨ s = 2 ∨ s = 3 ∨ s = 4 by omega) with rfl | rfl | rfl | rfl | rfl
  · show _ / 1 % 16 = _
    omega
  · show _ / 32 % 16 = _
    omega
  · show _ / 1024 % 16 = _
    omega
  · show _ / 32768 % 16 = _
    omega
  · show _ / 1048576 % 16 = _
    omega
/-- Counts.of -/
theorem kc_of {M : mM} {c : Nat → Nat} {s : Nat} (hc : ∀ s, s < 5 → c s < 16) (hs : s < 5) : C_ kk_X3_of [v_I (n_pack c : Int), v_I (s : Int)] M (fun r M' => M' = M ∧ r = c s) := by
  refine c_intro (by decide) rfl (Nat.le_of_ble_eq_true rfl) (by simp [m_dv, Value.category]) (wp_X3_of_0 ?_)
  have hlt := g_lt hc
  rw [show (5 * (s : Int)) = ((5 * s : Nat) : Int) by omega, b_shr (by omega) (by omega)]
  have e := b_and' (a := n_pack c / 2 ^ (5 * s)) (b := 15) (by decide)
  rw [show ((15 : Nat) : Int) = 15 from rfl] at e
  rw [e, show (15 : Nat) = 2 ^ 4 - 1 from rfl, Nat.and_two_pow_sub_one_eq_mod]
  refine ⟨⟨by omega, by omega⟩, rfl, ?_⟩
  have := pk_digit hc hs
  rw [show (2 : Nat) ^ 4 = 16 from rfl, this]
theorem need16 {σ : St} (hw : Wf σ) {b i : Nat} (hb : b < 6) (hi : i < σ 9 b) : ∀ s, s < 5 → σ 11 (5 * (6 * b + i) + s) < 16 := fun s hs => by
  have := ((hw.2.2.2.2.1 b hb).2.2.2.2.2 i hi).2 s hs
  omega
theorem kc_alt {σ : St} {M : mM} {b i w : Int} (hw : Wf σ) (h : CR σ M) : C_ kk_X10_alternative [v_P 0, v_I b, v_I i, v_I w] M (PC (sp_alt σ b i w) M) := by
  have h1 := h.2.1.1
  have hnb := hw.2.2.2.1
  refine c_intro (by decide) rfl (Nat.le_of_ble_eq_true rfl) (by simp [m_dv, Value.category]) (wp_X10_alternative_0 ?_)
  rw [h1]
  refine ⟨fun q => ?_, fun q => ?_⟩
  · obtain ⟨b', rfl⟩ := nat_of q.1
    have hb6 : b' < 6 := by omega
    have g := h.2.1.2.2 b' hb6
    have g9 := (hw.2.2.2.2.1 b' hb6).2.2.2.1
    rw [Int.toNat_natCast, g.2.2.2.1]
    unfold sp_alt
    rw [Int.toNat_natCast]
    refine ⟨by omega, ⟨by omega, by omega⟩, fun q2 => ?_, fun q2 => ⟨fun q3 => ?_, fun q3 => ⟨by omega, fun q4 => ⟨by omega, ⟨by omega, by omega⟩, ?_⟩, fun q4 => ⟨by omega, ?_⟩⟩⟩⟩
    · rw [if_neg (by omega), if_pos (by omega)]
      exact PC_same h
    · rw [if_neg (by omega), if_neg (by omega), if_pos q3]
      exact PC_same h
    · obtain ⟨i', rfl⟩ := nat_of (x := i) (by omega)
      obtain ⟨w', rfl⟩ := nat_of (x := w) (by omega)
      rw [if_neg (by omega), if_neg (by omega), if_neg q3, if_neg q4]
      simp only [Int.toNat_natCast]
      rw [(g.2.2.2.2.2 i' (by omega)).2, n_need_pack, show ((w' : Int) - 1) = ((w' - 1 : Nat) : Int) by omega]
      refine ⟨_, kc_of (need16 hw hb6 (by omega)) (s := w' - 1) (by omega), fun r9 M10 _ _ e10 => ?_⟩
      obtain ⟨rfl, rfl⟩ := e10
      exact PC_same h
    · obtain ⟨i', rfl⟩ := nat_of (x := i) (by omega)
      rw [if_neg (by omega), if_neg (by omega), if_neg q3, if_pos q4]
      simp only [Int.toNat_natCast]
      rw [(g.2.2.2.2.2 i' (by omega)).1]
      exact PC_same h
  · unfold sp_alt
    rw [if_pos q]
    exact PC_same h
theorem km_alt {σ : St} {M : mM} {b i w : Int} (hw : Wf σ) (h : MR σ M) : C_ kk_X11_alternative [v_P 79, v_I b, v_I i, v_I w] M (PM (sp_alt σ b i w) M) := by
  have h1 := h.2.2.1
  have hnb := hw.2.2.2.1
  refine c_intro (by decide) rfl (Nat.le_of_ble_eq_true rfl) (by simp [m_dv, Value.category]) (wp_X11_alternative_0 ?_)
  rw [h1]
  refine ⟨by omega, fun q => ?_, fun q => ?_⟩
  · obtain ⟨b', rfl⟩ := nat_of q.1
    have hb6 : b' < 6 := by omega
    have g := h.2.2.2.2.2.1 b' hb6
    have g9 := (hw.2.2.2.2.1 b' hb6).2.2.2.1
    rw [Int.toNat_natCast, g.1]
    unfold sp_alt
    rw [Int.toNat_natCast]
    refine ⟨by omega, ⟨by omega, by omega⟩, fun q2 => ⟨fun q3 => ⟨⟨by omega, by omega⟩, ⟨by omega, by omega⟩, fun q4 => ⟨⟨by omega, by omega⟩, ⟨by omega, by omega⟩, ⟨by omega, by omega⟩, by omega, ?_⟩, fun q4 => ⟨by omega, ?_⟩⟩, fun q3 => ?_⟩, fun q2 => ?_⟩
    · obtain ⟨i', rfl⟩ := nat_of q2.1
      obtain ⟨w', rfl⟩ := nat_of q3.1
      rw [if_neg (by omega), if_neg (by omega), if_neg (by omega), if_neg q4]
      simp only [Int.toNat_natCast]
      rw [show (5 * (6 * (b' : Int) + (i' : Int)) + (w' : Int) - 1).toNat = 5 * (6 * b' + i') + (w' - 1) by omega, (g.2.2 i' (by omega)).2 (w' - 1) (by omega)]
      exact PM_same h
    · obtain ⟨i', rfl⟩ := nat_of q2.1
      rw [if_neg (by omega), if_neg (by omega), if_neg (by omega), if_pos q4]
      simp only [Int.toNat_natCast]
      rw [show (6 * (b' : Int) + (i' : Int)).toNat = 6 * b' + i' by omega, (g.2.2 i' (by omega)).1]
      exact PM_same h
    · rw [if_neg (by omega), if_neg (by omega), if_pos (by omega)]
      exact PM_same h
    · rw [if_neg (by omega), if_pos (by omega)]
      exact PM_same h
  · unfold sp_alt
    rw [if_pos q]
    exact PM_same h
/-! every call keeps the state well-formed -/
theorem wf_lot {σ : St} {a b c : Int} (h : Wf σ) : Wf (sp_lot σ a b c).2 := by
  unfold sp_lot
  split
  · exact h
  · split
    · exact h
    · rename_i h1 h2
      show Wf (s_up (s_up (s_up (s_up (s_up σ 1 (σ 0 0) a.toNat) 2 (σ 0 0) b.toNat) 3 (σ 0 0) c.toNat) 4 (σ 0 0) (σ 0 0)) 0 0 (σ 0 0 + 1))
      obtain ⟨g1, g2, g3, g4, g5, g6, g7, g8, g9, g10, g11, g12⟩ := h
      refine ⟨?_, fun j hj => ?_, fun i j hi hj e => ?_, ?_, fun b hb => ?_, fun b hb hb2 => ?_, ?_, fun l hl => ?_, ?_, fun d hd => ?_, ?_, fun i hi => ?_⟩
      · simp (disch := omega) only [up_row, up_slot, up_hit, su_row, su_slot, su_hit]
        omega
      · simp (disch := omega) only [up_row, up_slot, up_hit, su_row, su_slot, su_hit] at hj ⊢
        by_cases e : j = σ 0 0
        · subst e
          simp (disch := omega) only [up_row, up_slot, up_hit, su_row, su_slot, su_hit]
          omega
        · simp (disch := omega) only [up_row, up_slot, up_hit, su_row, su_slot, su_hit]
          have := g2 j (by omega)
          omega
      · simp (disch := omega) only [up_row, up_slot, up_hit, su_row, su_slot, su_hit] at hi hj e
        by_cases e1 : i = σ 0 0
        · subst e1
          by_cases e2 : j = σ 0 0
          · exact e2.symm
          · simp (disch := omega) only [up_row, up_slot, up_hit, su_row, su_slot, su_hit] at e
            have := (g2 j (by omega)).2.2.2
            omega
        · by_cases e2 : j = σ 0 0
          · subst e2
            simp (disch := omega) only [up_row, up_slot, up_hit, su_row, su_slot, su_hit] at e
            have := (g2 i (by omega)).2.2.2
            omega
          · simp (disch := omega) only [up_row, up_slot, up_hit, su_row, su_slot, su_hit] at e
            exact g3 i j (by omega) (by omega) e
      · (try simp (disch := omega) only [up_row, up_slot, up_hit, su_row, su_slot, su_hit]); exact g4
      · (try simp (disch := omega) only [up_row, up_slot, up_hit, su_row, su_slot, su_hit]); exact g5 b hb
      · (try simp (disch := omega) only [up_row, up_slot, up_hit, su_row, su_slot, su_hit] at hb ⊢); exact g6 b hb hb2
      · (try simp (disch := omega) only [up_row, up_slot, up_hit, su_row, su_slot, su_hit]); exact g7
      · (try simp (disch := omega) only [up_row, up_slot, up_hit, su_row, su_slot, su_hit]); exact g8 l hl
      · (try simp (disch := omega) only [up_row, up_slot, up_hit, su_row, su_slot, su_hit]); exact g9
      · (try simp (disch := omega) only [up_row, up_slot, up_hit, su_row, su_slot, su_hit] at hd ⊢); exact g10 d hd
      · (try simp (disch := omega) only [up_row, up_slot, up_hit, su_row, su_slot, su_hit]); exact g11
      · (try simp (disch := omega) only [up_row, up_slot, up_hit, su_row, su_slot, su_hit] at hi ⊢); exact g12 i hi
theorem wf_buyer {σ : St} (h : Wf σ) : Wf (sp_buyer σ).2 := by
  unfold sp_buyer
  split
  · exact h
  · show Wf (s_up σ 5 0 (σ 5 0 + 1))
    obtain ⟨g1, g2, g3, g4, g5, g6, g7, g8, g9, g10, g11, g12⟩ := h
    refine ⟨?_, fun j hj => ?_, fun i j hi hj e => ?_, ?_, fun b hb => ?_, fun b hb hb2 => ?_, ?_, fun l hl => ?_, ?_, fun d hd => ?_, ?_, fun i hi => ?_⟩
    · (try simp (disch := omega) only [up_row, up_slot, up_hit, su_row, su_slot, su_hit]); exact g1
    · (try simp (disch := omega) only [up_row, up_slot, up_hit, su_row, su_slot, su_hit] at hj ⊢); exact g2 j hj
    · (try simp (disch := omega) only [up_row, up_slot, up_hit, su_row, su_slot, su_hit] at hi hj e); exact g3 i j hi hj e
    · simp (disch := omega) only [up_row, up_slot, up_hit, su_row, su_slot, su_hit]
      omega
    · (try simp (disch := omega) only [up_row, up_slot, up_hit, su_row, su_slot, su_hit]); exact g5 b hb
    · simp (disch := omega) only [up_row, up_slot, up_hit, su_row, su_slot, su_hit] at hb ⊢
      exact g6 b (by omega) hb2
    · (try simp (disch := omega) only [up_row, up_slot, up_hit, su_row, su_slot, su_hit]); exact g7
    · (try simp (disch := omega) only [up_row, up_slot, up_hit, su_row, su_slot, su_hit]); exact g8 l hl
    · (try simp (disch := omega) only [up_row, up_slot, up_hit, su_row, su_slot, su_hit]); exact g9
    · (try simp (disch := omega) only [up_row, up_slot, up_hit, su_row, su_slot, su_hit] at hd ⊢); exact g10 d hd
    · (try simp (disch := omega) only [up_row, up_slot, up_hit, su_row, su_slot, su_hit]); exact g11
    · (try simp (disch := omega) only [up_row, up_slot, up_hit, su_row, su_slot, su_hit] at hi ⊢); exact g12 i hi
theorem wf_set {σ : St} {b0 w v : Int} (h : Wf σ) : Wf (sp_set σ b0 w v).2 := by
  unfold sp_set
  by_cases h1 : ¬ (0 ≤ b0 ∧ b0 < σ 5 0)
  · rw [if_pos h1]; exact h
  · rw [if_neg h1]
    by_cases h2 : w < 0 ∨ 2 < w ∨ v < 0 ∨ (if w = 0 then 1000 else 99) < v
    · rw [if_pos h2]; exact h
    · rw [if_neg h2]
      show Wf (s_up σ (6 + w.toNat) b0.toNat v.toNat)
      rcases (show w = 0 ∨ w = 1 ∨ w = 2 by omega) with rfl | rfl | rfl
      · rw [if_pos rfl] at h2
        show Wf (s_up σ 6 b0.toNat v.toNat)
        obtain ⟨g1, g2, g3, g4, g5, g6, g7, g8, g9, g10, g11, g12⟩ := h
        refine ⟨?_, fun j hj => ?_, fun i j hi hj e => ?_, ?_, fun b hb => ?_, fun b hb hb2 => ?_, ?_, fun l hl => ?_, ?_, fun d hd => ?_, ?_, fun i hi => ?_⟩
        · (try simp (disch := omega) only [up_row, up_slot, up_hit, su_row, su_slot, su_hit]); exact g1
        · (try simp (disch := omega) only [up_row, up_slot, up_hit, su_row, su_slot, su_hit] at hj ⊢); exact g2 j hj
        · (try simp (disch := omega) only [up_row, up_slot, up_hit, su_row, su_slot, su_hit] at hi hj e); exact g3 i j hi hj e
        · (try simp (disch := omega) only [up_row, up_slot, up_hit, su_row, su_slot, su_hit]); exact g4
        · have g := g5 b hb
          by_cases e : b = b0.toNat
          · subst e
            simp (disch := omega) only [up_row, up_slot, up_hit, su_row, su_slot, su_hit]
            exact ⟨by omega, g.2⟩
          · simp (disch := omega) only [up_row, up_slot, up_hit, su_row, su_slot, su_hit]
            exact g
        · simp (disch := omega) only [up_row, up_slot, up_hit, su_row, su_slot, su_hit] at hb
          simp (disch := omega) only [up_row, up_slot, up_hit, su_row, su_slot, su_hit]
          exact g6 b hb hb2
        · (try simp (disch := omega) only [up_row, up_slot, up_hit, su_row, su_slot, su_hit]); exact g7
        · (try simp (disch := omega) only [up_row, up_slot, up_hit, su_row, su_slot, su_hit]); exact g8 l hl
        · (try simp (disch := omega) only [up_row, up_slot, up_hit, su_row, su_slot, su_hit]); exact g9
        · (try simp (disch := omega) only [up_row, up_slot, up_hit, su_row, su_slot, su_hit] at hd ⊢); exact g10 d hd
        · (try simp (disch := omega) only [up_row, up_slot, up_hit, su_row, su_slot, su_hit]); exact g11
        · (try simp (disch := omega) only [up_row, up_slot, up_hit, su_row, su_slot, su_hit] at hi ⊢); exact g12 i hi
      · rw [if_neg (by decide)] at h2
        show Wf (s_up σ 7 b0.toNat v.toNat)
        obtain ⟨g1, g2, g3, g4, g5, g6, g7, g8, g9, g10, g11, g12⟩ := h
        refine ⟨?_, fun j hj => ?_, fun i j hi hj e => ?_, ?_, fun b hb => ?_, fun b hb hb2 => ?_, ?_, fun l hl => ?_, ?_, fun d hd => ?_, ?_, fun i hi => ?_⟩
        · (try simp (disch := omega) only [up_row, up_slot, up_hit, su_row, su_slot, su_hit]); exact g1
        · (try simp (disch := omega) only [up_row, up_slot, up_hit, su_row, su_slot, su_hit] at hj ⊢); exact g2 j hj
        · (try simp (disch := omega) only [up_row, up_slot, up_hit, su_row, su_slot, su_hit] at hi hj e); exact g3 i j hi hj e
        · (try simp (disch := omega) only [up_row, up_slot, up_hit, su_row, su_slot, su_hit]); exact g4
        · have g := g5 b hb
          by_cases e : b = b0.toNat
          · subst e
            simp (disch := omega) only [up_row, up_slot, up_hit, su_row, su_slot, su_hit]
            exact ⟨g.1, by omega, g.2.2⟩
          · simp (disch := omega) only [up_row, up_slot, up_hit, su_row, su_slot, su_hit]
            exact g
        · simp (disch := omega) only [up_row, up_slot, up_hit, su_row, su_slot, su_hit] at hb
          simp (disch := omega) only [up_row, up_slot, up_hit, su_row, su_slot, su_hit]
          exact g6 b hb hb2
        · (try simp (disch := omega) only [up_row, up_slot, up_hit, su_row, su_slot, su_hit]); exact g7
        · (try simp (disch := omega) only [up_row, up_slot, up_hit, su_row, su_slot, su_hit]); exact g8 l hl
        · (try simp (disch := omega) only [up_row, up_slot, up_hit, su_row, su_slot, su_hit]); exact g9
        · (try simp (disch := omega) only [up_row, up_slot, up_hit, su_row, su_slot, su_hit] at hd ⊢); exact g10 d hd
        · (try simp (disch := omega) only [up_row, up_slot, up_hit, su_row, su_slot, su_hit]); exact g11
        · (try simp (disch := omega) only [up_row, up_slot, up_hit, su_row, su_slot, su_hit] at hi ⊢); exact g12 i hi
      · rw [if_neg (by decide)] at h2
        show Wf (s_up σ 8 b0.toNat v.toNat)
        obtain ⟨g1, g2, g3, g4, g5, g6, g7, g8, g9, g10, g11, g12⟩ := h
        refine ⟨?_, fun j hj => ?_, fun i j hi hj e => ?_, ?_, fun b hb => ?_, fun b hb hb2 => ?_, ?_, fun l hl => ?_, ?_, fun d hd => ?_, ?_, fun i hi => ?_⟩
        · (try simp (disch := omega) only [up_row, up_slot, up_hit, su_row, su_slot, su_hit]); exact g1
        · (try simp (disch := omega) only [up_row, up_slot, up_hit, su_row, su_slot, su_hit] at hj ⊢); exact g2 j hj
        · (try simp (disch := omega) only [up_row, up_slot, up_hit, su_row, su_slot, su_hit] at hi hj e); exact g3 i j hi hj e
        · (try simp (disch := omega) only [up_row, up_slot, up_hit, su_row, su_slot, su_hit]); exact g4
        · have g := g5 b hb
          by_cases e : b = b0.toNat
          · subst e
            simp (disch := omega) only [up_row, up_slot, up_hit, su_row, su_slot, su_hit]
            exact ⟨g.1, g.2.1, by omega, g.2.2.2⟩
          · simp (disch := omega) only [up_row, up_slot, up_hit, su_row, su_slot, su_hit]
            exact g
        · simp (disch := omega) only [up_row, up_slot, up_hit, su_row, su_slot, su_hit] at hb
          simp (disch := omega) only [up_row, up_slot, up_hit, su_row, su_slot, su_hit]
          exact g6 b hb hb2
        · (try simp (disch := omega) only [up_row, up_slot, up_hit, su_row, su_slot, su_hit]); exact g7
        · (try simp (disch := omega) only [up_row, up_slot, up_hit, su_row, su_slot, su_hit]); exact g8 l hl
        · (try simp (disch := omega) only [up_row, up_slot, up_hit, su_row, su_slot, su_hit]); exact g9
        · (try simp (disch := omega) only [up_row, up_slot, up_hit, su_row, su_slot, su_hit] at hd ⊢); exact g10 d hd
        · (try simp (disch := omega) only [up_row, up_slot, up_hit, su_row, su_slot, su_hit]); exact g11
        · (try simp (disch := omega) only [up_row, up_slot, up_hit, su_row, su_slot, su_hit] at hi ⊢); exact g12 i hi
theorem wf_say {σ : St} {c : Int} (h : Wf σ) : Wf (sp_say σ c).2 := by
  unfold sp_say
  split
  · exact h
  · split
    · exact h
    · rename_i h1 h2
      show Wf (s_up (s_up σ 18 (σ 17 0) c.toNat) 17 0 (σ 17 0 + 1))
      obtain ⟨g1, g2, g3, g4, g5, g6, g7, g8, g9, g10, g11, g12⟩ := h
      refine ⟨?_, fun j hj => ?_, fun i j hi hj e => ?_, ?_, fun b hb => ?_, fun b hb hb2 => ?_, ?_, fun l hl => ?_, ?_, fun d hd => ?_, ?_, fun i hi => ?_⟩
      · (try simp (disch := omega) only [up_row, up_slot, up_hit, su_row, su_slot, su_hit]); exact g1
      · (try simp (disch := omega) only [up_row, up_slot, up_hit, su_row, su_slot, su_hit] at hj ⊢); exact g2 j hj
      · (try simp (disch := omega) only [up_row, up_slot, up_hit, su_row, su_slot, su_hit] at hi hj e); exact g3 i j hi hj e
      · (try simp (disch := omega) only [up_row, up_slot, up_hit, su_row, su_slot, su_hit]); exact g4
      · (try simp (disch := omega) only [up_row, up_slot, up_hit, su_row, su_slot, su_hit]); exact g5 b hb
      · (try simp (disch := omega) only [up_row, up_slot, up_hit, su_row, su_slot, su_hit] at hb ⊢); exact g6 b hb hb2
      · (try simp (disch := omega) only [up_row, up_slot, up_hit, su_row, su_slot, su_hit]); exact g7
      · (try simp (disch := omega) only [up_row, up_slot, up_hit, su_row, su_slot, su_hit]); exact g8 l hl
      · (try simp (disch := omega) only [up_row, up_slot, up_hit, su_row, su_slot, su_hit]); exact g9
      · (try simp (disch := omega) only [up_row, up_slot, up_hit, su_row, su_slot, su_hit] at hd ⊢); exact g10 d hd
      · simp (disch := omega) only [up_row, up_slot, up_hit, su_row, su_slot, su_hit]
        omega
      · by_cases e : i = σ 17 0
        · subst e
          simp (disch := omega) only [up_row, up_slot, up_hit, su_row, su_slot, su_hit]
          omega
        · simp (disch := omega) only [up_row, up_slot, up_hit, su_row, su_slot, su_hit] at hi ⊢
          exact g12 i (by omega)
theorem wf_wipe {σ : St} (h : Wf σ) : Wf (sp_wipe σ).2 := by
  show Wf (s_up σ 17 0 0)
  obtain ⟨g1, g2, g3, g4, g5, g6, g7, g8, g9, g10, g11, g12⟩ := h
  refine ⟨?_, fun j hj => ?_, fun i j hi hj e => ?_, ?_, fun b hb => ?_, fun b hb hb2 => ?_, ?_, fun l hl => ?_, ?_, fun d hd => ?_, ?_, fun i hi => ?_⟩
  · (try simp (disch := omega) only [up_row, up_slot, up_hit, su_row, su_slot, su_hit]); exact g1
  · (try simp (disch := omega) only [up_row, up_slot, up_hit, su_row, su_slot, su_hit] at hj ⊢); exact g2 j hj
  · (try simp (disch := omega) only [up_row, up_slot, up_hit, su_row, su_slot, su_hit] at hi hj e); exact g3 i j hi hj e
  · (try simp (disch := omega) only [up_row, up_slot, up_hit, su_row, su_slot, su_hit]); exact g4
  · (try simp (disch := omega) only [up_row, up_slot, up_hit, su_row, su_slot, su_hit]); exact g5 b hb
  · (try simp (disch := omega) only [up_row, up_slot, up_hit, su_row, su_slot, su_hit] at hb ⊢); exact g6 b hb hb2
  · (try simp (disch := omega) only [up_row, up_slot, up_hit, su_row, su_slot, su_hit]); exact g7
  · (try simp (disch := omega) only [up_row, up_slot, up_hit, su_row, su_slot, su_hit]); exact g8 l hl
  · (try simp (disch := omega) only [up_row, up_slot, up_hit, su_row, su_slot, su_hit]); exact g9
  · (try simp (disch := omega) only [up_row, up_slot, up_hit, su_row, su_slot, su_hit] at hd ⊢); exact g10 d hd
  · simp (disch := omega) only [up_row, up_slot, up_hit, su_row, su_slot, su_hit]
    omega
  · simp (disch := omega) only [up_row, up_slot, up_hit, su_row, su_slot, su_hit] at hi
    omega
theorem wf_top {σ : St} {v : Int} (h : Wf σ) : Wf (sp_top σ v).2 := by
  unfold sp_top
  split
  · exact h
  · rename_i h1
    show Wf (s_up σ 13 0 v.toNat)
    obtain ⟨g1, g2, g3, g4, g5, g6, g7, g8, g9, g10, g11, g12⟩ := h
    refine ⟨?_, fun j hj => ?_, fun i j hi hj e => ?_, ?_, fun b hb => ?_, fun b hb hb2 => ?_, ?_, fun l hl => ?_, ?_, fun d hd => ?_, ?_, fun i hi => ?_⟩
    · (try simp (disch := omega) only [up_row, up_slot, up_hit, su_row, su_slot, su_hit]); exact g1
    · (try simp (disch := omega) only [up_row, up_slot, up_hit, su_row, su_slot, su_hit] at hj ⊢); exact g2 j hj
    · (try simp (disch := omega) only [up_row, up_slot, up_hit, su_row, su_slot, su_hit] at hi hj e); exact g3 i j hi hj e
    · (try simp (disch := omega) only [up_row, up_slot, up_hit, su_row, su_slot, su_hit]); exact g4
    · (try simp (disch := omega) only [up_row, up_slot, up_hit, su_row, su_slot, su_hit]); exact g5 b hb
    · (try simp (disch := omega) only [up_row, up_slot, up_hit, su_row, su_slot, su_hit] at hb ⊢); exact g6 b hb hb2
    · simp (disch := omega) only [up_row, up_slot, up_hit, su_row, su_slot, su_hit]
      omega
    · (try simp (disch := omega) only [up_row, up_slot, up_hit, su_row, su_slot, su_hit]); exact g8 l hl
    · (try simp (disch := omega) only [up_row, up_slot, up_hit, su_row, su_slot, su_hit]); exact g9
    · (try simp (disch := omega) only [up_row, up_slot, up_hit, su_row, su_slot, su_hit] at hd ⊢); exact g10 d hd
    · (try simp (disch := omega) only [up_row, up_slot, up_hit, su_row, su_slot, su_hit]); exact g11
    · (try simp (disch := omega) only [up_row, up_slot, up_hit, su_row, su_slot, su_hit] at hi ⊢); exact g12 i hi
theorem wf_price {σ : St} {l0 v : Int} (h : Wf σ) : Wf (sp_price σ l0 v).2 := by
  unfold sp_price
  split
  · exact h
  · split
    · exact h
    · rename_i h1 h2
      show Wf (s_up σ 14 l0.toNat v.toNat)
      obtain ⟨g1, g2, g3, g4, g5, g6, g7, g8, g9, g10, g11, g12⟩ := h
      refine ⟨?_, fun j hj => ?_, fun i j hi hj e => ?_, ?_, fun b hb => ?_, fun b hb hb2 => ?_, ?_, fun l hl => ?_, ?_, fun d hd => ?_, ?_, fun i hi => ?_⟩
      · (try simp (disch := omega) only [up_row, up_slot, up_hit, su_row, su_slot, su_hit]); exact g1
      · (try simp (disch := omega) only [up_row, up_slot, up_hit, su_row, su_slot, su_hit] at hj ⊢); exact g2 j hj
      · (try simp (disch := omega) only [up_row, up_slot, up_hit, su_row, su_slot, su_hit] at hi hj e); exact g3 i j hi hj e
      · (try simp (disch := omega) only [up_row, up_slot, up_hit, su_row, su_slot, su_hit]); exact g4
      · (try simp (disch := omega) only [up_row, up_slot, up_hit, su_row, su_slot, su_hit]); exact g5 b hb
      · (try simp (disch := omega) only [up_row, up_slot, up_hit, su_row, su_slot, su_hit] at hb ⊢); exact g6 b hb hb2
      · (try simp (disch := omega) only [up_row, up_slot, up_hit, su_row, su_slot, su_hit]); exact g7
      · by_cases e : l = l0.toNat
        · subst e
          simp (disch := omega) only [up_row, up_slot, up_hit, su_row, su_slot, su_hit]
          omega
        · simp (disch := omega) only [up_row, up_slot, up_hit, su_row, su_slot, su_hit]
          exact g8 l hl
      · (try simp (disch := omega) only [up_row, up_slot, up_hit, su_row, su_slot, su_hit]); exact g9
      · (try simp (disch := omega) only [up_row, up_slot, up_hit, su_row, su_slot, su_hit] at hd ⊢); exact g10 d hd
      · (try simp (disch := omega) only [up_row, up_slot, up_hit, su_row, su_slot, su_hit]); exact g11
      · (try simp (disch := omega) only [up_row, up_slot, up_hit, su_row, su_slot, su_hit] at hi ⊢); exact g12 i hi
theorem wf_lesson {σ : St} {v : Int} (h : Wf σ) : Wf (sp_lesson σ v).2 := by
  unfold sp_lesson
  split
  · exact h
  · split
    · exact h
    · rename_i h1 h2
      show Wf (s_up (s_up σ 16 (σ 15 0) v.toNat) 15 0 (σ 15 0 + 1))
      obtain ⟨g1, g2, g3, g4, g5, g6, g7, g8, g9, g10, g11, g12⟩ := h
      refine ⟨?_, fun j hj => ?_, fun i j hi hj e => ?_, ?_, fun b hb => ?_, fun b hb hb2 => ?_, ?_, fun l hl => ?_, ?_, fun d hd => ?_, ?_, fun i hi => ?_⟩
      · (try simp (disch := omega) only [up_row, up_slot, up_hit, su_row, su_slot, su_hit]); exact g1
      · (try simp (disch := omega) only [up_row, up_slot, up_hit, su_row, su_slot, su_hit] at hj ⊢); exact g2 j hj
      · (try simp (disch := omega) only [up_row, up_slot, up_hit, su_row, su_slot, su_hit] at hi hj e); exact g3 i j hi hj e
      · (try simp (disch := omega) only [up_row, up_slot, up_hit, su_row, su_slot, su_hit]); exact g4
      · (try simp (disch := omega) only [up_row, up_slot, up_hit, su_row, su_slot, su_hit]); exact g5 b hb
      · (try simp (disch := omega) only [up_row, up_slot, up_hit, su_row, su_slot, su_hit] at hb ⊢); exact g6 b hb hb2
      · (try simp (disch := omega) only [up_row, up_slot, up_hit, su_row, su_slot, su_hit]); exact g7
      · (try simp (disch := omega) only [up_row, up_slot, up_hit, su_row, su_slot, su_hit]); exact g8 l hl
      · simp (disch := omega) only [up_row, up_slot, up_hit, su_row, su_slot, su_hit]
        omega
      · by_cases e : d = σ 15 0
        · subst e
          simp (disch := omega) only [up_row, up_slot, up_hit, su_row, su_slot, su_hit]
          omega
        · simp (disch := omega) only [up_row, up_slot, up_hit, su_row, su_slot, su_hit] at hd ⊢
          exact g10 d (by omega)
      · (try simp (disch := omega) only [up_row, up_slot, up_hit, su_row, su_slot, su_hit]); exact g11
      · (try simp (disch := omega) only [up_row, up_slot, up_hit, su_row, su_slot, su_hit] at hi ⊢); exact g12 i hi
theorem wf_unlearn {σ : St} (h : Wf σ) : Wf (sp_unlearn σ).2 := by
  show Wf (s_up σ 15 0 0)
  obtain ⟨g1, g2, g3, g4, g5, g6, g7, g8, g9, g10, g11, g12⟩ := h
  refine ⟨?_, fun j hj => ?_, fun i j hi hj e => ?_, ?_, fun b hb => ?_, fun b hb hb2 => ?_, ?_, fun l hl => ?_, ?_, fun d hd => ?_, ?_, fun i hi => ?_⟩
  · (try simp (disch := omega) only [up_row, up_slot, up_hit, su_row, su_slot, su_hit]); exact g1
  · (try simp (disch := omega) only [up_row, up_slot, up_hit, su_row, su_slot, su_hit] at hj ⊢); exact g2 j hj
  · (try simp (disch := omega) only [up_row, up_slot, up_hit, su_row, su_slot, su_hit] at hi hj e); exact g3 i j hi hj e
  · (try simp (disch := omega) only [up_row, up_slot, up_hit, su_row, su_slot, su_hit]); exact g4
  · (try simp (disch := omega) only [up_row, up_slot, up_hit, su_row, su_slot, su_hit]); exact g5 b hb
  · (try simp (disch := omega) only [up_row, up_slot, up_hit, su_row, su_slot, su_hit] at hb ⊢); exact g6 b hb hb2
  · (try simp (disch := omega) only [up_row, up_slot, up_hit, su_row, su_slot, su_hit]); exact g7
  · (try simp (disch := omega) only [up_row, up_slot, up_hit, su_row, su_slot, su_hit]); exact g8 l hl
  · simp (disch := omega) only [up_row, up_slot, up_hit, su_row, su_slot, su_hit]
    omega
  · simp (disch := omega) only [up_row, up_slot, up_hit, su_row, su_slot, su_hit] at hd
    omega
  · (try simp (disch := omega) only [up_row, up_slot, up_hit, su_row, su_slot, su_hit]); exact g11
  · (try simp (disch := omega) only [up_row, up_slot, up_hit, su_row, su_slot, su_hit] at hi ⊢); exact g12 i hi
theorem wf_leave {σ : St} {b0 v : Int} (h : Wf σ) : Wf (sp_leave σ b0 v).2 := by
  unfold sp_leave
  split
  · exact h
  · split
    · exact h
    · rename_i h1 h2
      show Wf (s_up σ 12 b0.toNat v.toNat)
      obtain ⟨g1, g2, g3, g4, g5, g6, g7, g8, g9, g10, g11, g12⟩ := h
      refine ⟨?_, fun j hj => ?_, fun i j hi hj e => ?_, ?_, fun b hb => ?_, fun b hb hb2 => ?_, ?_, fun l hl => ?_, ?_, fun d hd => ?_, ?_, fun i hi => ?_⟩
      · (try simp (disch := omega) only [up_row, up_slot, up_hit, su_row, su_slot, su_hit]); exact g1
      · (try simp (disch := omega) only [up_row, up_slot, up_hit, su_row, su_slot, su_hit] at hj ⊢); exact g2 j hj
      · (try simp (disch := omega) only [up_row, up_slot, up_hit, su_row, su_slot, su_hit] at hi hj e); exact g3 i j hi hj e
      · (try simp (disch := omega) only [up_row, up_slot, up_hit, su_row, su_slot, su_hit]); exact g4
      · have g := g5 b hb
        by_cases e : b = b0.toNat
        · subst e
          simp (disch := omega) only [up_row, up_slot, up_hit, su_row, su_slot, su_hit]
          refine ⟨g.1, g.2.1, g.2.2.1, g.2.2.2.1, ?_, g.2.2.2.2.2⟩
          omega
        · simp (disch := omega) only [up_row, up_slot, up_hit, su_row, su_slot, su_hit]
          exact g
      · (try simp (disch := omega) only [up_row, up_slot, up_hit, su_row, su_slot, su_hit] at hb ⊢); exact g6 b hb hb2
      · (try simp (disch := omega) only [up_row, up_slot, up_hit, su_row, su_slot, su_hit]); exact g7
      · (try simp (disch := omega) only [up_row, up_slot, up_hit, su_row, su_slot, su_hit]); exact g8 l hl
      · (try simp (disch := omega) only [up_row, up_slot, up_hit, su_row, su_slot, su_hit]); exact g9
      · (try simp (disch := omega) only [up_row, up_slot, up_hit, su_row, su_slot, su_hit] at hd ⊢); exact g10 d hd
      · (try simp (disch := omega) only [up_row, up_slot, up_hit, su_row, su_slot, su_hit]); exact g11
      · (try simp (disch := omega) only [up_row, up_slot, up_hit, su_row, su_slot, su_hit] at hi ⊢); exact g12 i hi
theorem wf_swap {σ : St} {a b : Int} (h : Wf σ) : Wf (sp_swap σ a b).2 := by
  unfold sp_swap
  split
  · exact h
  · rename_i h1
    show Wf (s_sw σ a.toNat b.toNat)
    obtain ⟨g1, g2, g3, g4, g5, g6, g7, g8, g9, g10, g11, g12⟩ := h
    have r : ∀ f, f ≠ 4 → s_sw σ a.toNat b.toNat f = σ f := fun f hf => sw_row hf
    refine ⟨?_, fun j hj => ?_, fun i j hi hj e => ?_, ?_, fun b hb => ?_, fun b hb hb2 => ?_, ?_, fun l hl => ?_, ?_, fun d hd => ?_, ?_, fun i hi => ?_⟩
    · rw [r 0 (by decide)]; exact g1
    · rw [r 0 (by decide)] at hj
      rw [r 0 (by decide), r 1 (by decide), r 2 (by decide), r 3 (by decide), sw_hit hj]
      have g := g2 j hj
      refine ⟨g.1, g.2.1, g.2.2.1, ?_⟩
      unfold n_sw
      split
      · omega
      · split
        · omega
        · exact g.2.2.2
    · rw [r 0 (by decide)] at hi hj
      rw [sw_hit hi, sw_hit hj] at e
      refine g3 i j hi hj ?_
      unfold n_sw at e
      split at e <;> split at e <;> (try split at e) <;> (try split at e) <;> omega
    · rw [r 5 (by decide)]; exact g4
    · rw [r 6 (by decide), r 7 (by decide), r 8 (by decide), r 9 (by decide), r 10 (by decide), r 11 (by decide), r 12 (by decide)]; exact g5 b hb
    · rw [r 5 (by decide)] at hb
      rw [r 6 (by decide), r 7 (by decide), r 8 (by decide), r 9 (by decide)]; exact g6 b hb hb2
    · rw [r 13 (by decide)]; exact g7
    · rw [r 14 (by decide)]; exact g8 l hl
    · rw [r 15 (by decide)]; exact g9
    · rw [r 15 (by decide)] at hd
      rw [r 16 (by decide)]; exact g10 d hd
    · rw [r 17 (by decide)]; exact g11
    · rw [r 17 (by decide)] at hi
      rw [r 18 (by decide)]; exact g12 i hi
theorem wf_wish {σ : St} {b : Int} (h : Wf σ) : Wf (sp_wish σ b).2 := by
  unfold sp_wish
  split
  · exact h
  · split
    · exact h
    · rename_i h1 h2
      show Wf (w_st σ b.toNat)
      have hf : n_fault σ = -6 := by
        by_cases z : n_fault σ = -6
        · exact z
        · exact absurd z h2
      obtain ⟨sN, hrN, -⟩ := n_fl_end (m := σ 17 0) (i := 0) hf
      rw [Nat.zero_add] at hrN
      have hin := (p_run_ok hrN).2
      have hn : ∀ a, p_num σ (σ 17 0) a ≤ 999 := by obtain ⟨aw, ns, mn, dg, al⟩ := sN; exact hin.1
      have hwn : ∀ a t, p_wan σ (σ 17 0) a t ≤ 9 := by obtain ⟨aw, ns, mn, dg, al⟩ := sN; exact hin.2.1
      have hal := w_al_le (σ := σ)
      obtain ⟨g1, g2, g3, g4, g5, g6, g7, g8, g9, g10, g11, g12⟩ := h
      have r : ∀ f, f ≠ 9 ∧ f ≠ 10 ∧ f ≠ 11 ∧ f ≠ 12 ∧ f ≠ 17 → w_st σ b.toNat f = σ f := fun f hf => w_row hf
      refine ⟨?_, fun j hj => ?_, fun i j hi hj e => ?_, ?_, fun c hc => ?_, fun c hc hc2 => ?_, ?_, fun l hl => ?_, ?_, fun d hd => ?_, ?_, fun i hi => ?_⟩
      · rw [r 0 (by decide)]; exact g1
      · rw [r 0 (by decide)] at hj
        rw [r 0 (by decide), r 1 (by decide), r 2 (by decide), r 3 (by decide), r 4 (by decide)]; exact g2 j hj
      · rw [r 0 (by decide)] at hi hj
        rw [r 4 (by decide)] at e
        exact g3 i j hi hj e
      · rw [r 5 (by decide)]; exact g4
      · rw [r 6 (by decide), r 7 (by decide), r 8 (by decide)]
        have g := g5 c hc
        by_cases e : c = b.toNat
        · subst e
          rw [w_9, w_12]
          refine ⟨g.1, g.2.1, g.2.2.1, hal, Nat.pow_pos (by decide), fun i hi => ⟨?_, fun t ht => ?_⟩⟩
          · rw [w_10 (by omega)]; exact hn i
          · rw [w_11 (by omega) ht]; exact hwn i t
        · rw [w_9n e, w_12n e]
          refine ⟨g.1, g.2.1, g.2.2.1, g.2.2.2.1, g.2.2.2.2.1, fun i hi => ⟨?_, fun t ht => ?_⟩⟩
          · rw [w_10n e (by have := g.2.2.2.1; omega)]; exact (g.2.2.2.2.2 i hi).1
          · rw [w_11n e (by have := g.2.2.2.1; omega) ht]; exact (g.2.2.2.2.2 i hi).2 t ht
      · rw [r 5 (by decide)] at hc
        rw [r 6 (by decide), r 7 (by decide), r 8 (by decide), w_9n (by omega)]; exact g6 c hc hc2
      · rw [r 13 (by decide)]; exact g7
      · rw [r 14 (by decide)]; exact g8 l hl
      · rw [r 15 (by decide)]; exact g9
      · rw [r 15 (by decide)] at hd
        rw [r 16 (by decide)]; exact g10 d hd
      · rw [w_17]; omega
      · rw [w_17] at hi; omega
