/-! the pure methods, as rules -/
section MU
variable {k : mI} {pc : Nat} {ls st : List mV} {M : mM} {Q : Int → mM → Prop}
theorem x_in {idx : Nat} {v lo hi : Int} (hd : decode k.2.1 pc = .ok (.invokestatic idx, 3)) (hl : Cond.methodLink k.1.cls idx yX11_in ∈ lw_gd) (hR : kk_X11_in.2.2.2.2.1 + 1 ≤ k.2.2.2.2.1 ∧ 8 + (kk_X11_in.2.2.1 + 11) + kk_X11_in.2.2.2.2.2.1 ≤ k.2.2.2.2.2.1) (h8 : ∀ ad b, ((st.map (m_dv ad b)).map fun v => v.category).sum ≤ 8) (h1 : lo ≤ v ∧ v ≤ hi → X_ k (pc + 3) ls (v_I 1 :: st) M Q) (h0 : ¬ (lo ≤ v ∧ v ≤ hi) → X_ k (pc + 3) ls (v_I 0 :: st) M Q) : X_ k pc ls (v_L hi :: v_L lo :: v_L v :: st) M Q := by
  refine x_callS (as := [v_L v, v_L lo, v_L hi]) hd mt_X11_in hl hR h8 c_in (fun r M' _ _ hq => ?_)
  obtain ⟨e0, rfl⟩ := hq
  rw [e0]
  by_cases hc : lo ≤ v ∧ v ≤ hi
  · rw [if_pos hc]; exact h1 hc
  · rw [if_neg hc]; exact h0 hc
theorem c_isNot {x a b : Int} : C_ kk_X10_isNot [v_I x, v_I a, v_I b] M (fun r M' => M' = M ∧ r = if x < a ∨ b < x then 1 else 0) := by
  refine c_intro (by decide) rfl (Nat.le_of_ble_eq_true rfl) (by simp [m_dv, Value.category]) ?_
  refine wp_X10_isNot_0 ⟨fun h => ⟨rfl, by rw [if_pos (Or.inl h)]⟩, fun h => ⟨fun h2 => ⟨rfl, by rw [if_neg (by omega)]⟩, fun h2 => ⟨rfl, by rw [if_pos (by omega)]⟩⟩⟩
theorem x_isNot {idx : Nat} {x a b : Int} (hd : decode k.2.1 pc = .ok (.invokestatic idx, 3)) (hl : Cond.methodLink k.1.cls idx yX10_isNot ∈ lw_gd) (hR : kk_X10_isNot.2.2.2.2.1 + 1 ≤ k.2.2.2.2.1 ∧ 8 + (kk_X10_isNot.2.2.1 + 11) + kk_X10_isNot.2.2.2.2.2.1 ≤ k.2.2.2.2.2.1) (h8 : ∀ ad b, ((st.map (m_dv ad b)).map fun v => v.category).sum ≤ 8) (h1 : x < a ∨ b < x → X_ k (pc + 3) ls (v_I 1 :: st) M Q) (h0 : ¬ (x < a ∨ b < x) → X_ k (pc + 3) ls (v_I 0 :: st) M Q) : X_ k pc ls (v_I b :: v_I a :: v_I x :: st) M Q := by
  refine x_callS (as := [v_I x, v_I a, v_I b]) hd mt_X10_isNot hl hR h8 c_isNot (fun r M' _ _ hq => ?_)
  obtain ⟨e0, rfl⟩ := hq
  rw [e0]
  by_cases hc : x < a ∨ b < x
  · rw [if_pos hc]; exact h1 hc
  · rw [if_neg hc]; exact h0 hc
theorem c_hasLot {x : Int} : C_ kk_X6_hasLot [v_P 1, v_I x] M (fun r M' => M' = M ∧ r = if 0 ≤ x ∧ x < M 1 0 then 1 else 0) := by
  refine c_intro (by decide) rfl (Nat.le_of_ble_eq_true rfl) (by simp [m_dv, Value.category]) ?_
  refine wp_X6_hasLot_0 ⟨fun h => ⟨rfl, by rw [if_neg (by omega)]⟩, fun h => ⟨fun h2 => ⟨rfl, by rw [if_neg (by omega)]⟩, fun h2 => ⟨rfl, by rw [if_pos (by omega)]⟩⟩⟩
theorem x_hasLot {idx : Nat} {x : Int} (hd : decode k.2.1 pc = .ok (.invokevirtual idx, 3)) (hl : Cond.methodLink k.1.cls idx yX6_hasLot ∈ lw_gd) (hR : kk_X6_hasLot.2.2.2.2.1 + 1 ≤ k.2.2.2.2.1 ∧ 8 + (kk_X6_hasLot.2.2.1 + 11) + kk_X6_hasLot.2.2.2.2.2.1 ≤ k.2.2.2.2.2.1) (h8 : ∀ ad b, ((st.map (m_dv ad b)).map fun v => v.category).sum ≤ 8) (h1 : 0 ≤ x ∧ x < M 1 0 → X_ k (pc + 3) ls (v_I 1 :: st) M Q) (h0 : ¬ (0 ≤ x ∧ x < M 1 0) → X_ k (pc + 3) ls (v_I 0 :: st) M Q) : X_ k pc ls (v_I x :: v_P 1 :: st) M Q := by
  refine x_callV (as := [v_I x]) hd mt_X6_hasLot hl hR sh_1 rfl h8 c_hasLot (fun r M' _ _ hq => ?_)
  obtain ⟨e0, rfl⟩ := hq
  rw [e0]
  by_cases hc : 0 ≤ x ∧ x < M 1 0
  · rw [if_pos hc]; exact h1 hc
  · rw [if_neg hc]; exact h0 hc
theorem c_hasBuyer {x : Int} : C_ kk_X6_hasBuyer [v_P 1, v_I x] M (fun r M' => M' = M ∧ r = if 0 ≤ x ∧ x < M 1 6 then 1 else 0) := by
  refine c_intro (by decide) rfl (Nat.le_of_ble_eq_true rfl) (by simp [m_dv, Value.category]) ?_
  refine wp_X6_hasBuyer_0 ⟨fun h => ⟨rfl, by rw [if_neg (by omega)]⟩, fun h => ⟨fun h2 => ⟨rfl, by rw [if_neg (by omega)]⟩, fun h2 => ⟨rfl, by rw [if_pos (by omega)]⟩⟩⟩
theorem x_hasBuyer {idx : Nat} {x : Int} (hd : decode k.2.1 pc = .ok (.invokevirtual idx, 3)) (hl : Cond.methodLink k.1.cls idx yX6_hasBuyer ∈ lw_gd) (hR : kk_X6_hasBuyer.2.2.2.2.1 + 1 ≤ k.2.2.2.2.1 ∧ 8 + (kk_X6_hasBuyer.2.2.1 + 11) + kk_X6_hasBuyer.2.2.2.2.2.1 ≤ k.2.2.2.2.2.1) (h8 : ∀ ad b, ((st.map (m_dv ad b)).map fun v => v.category).sum ≤ 8) (h1 : 0 ≤ x ∧ x < M 1 6 → X_ k (pc + 3) ls (v_I 1 :: st) M Q) (h0 : ¬ (0 ≤ x ∧ x < M 1 6) → X_ k (pc + 3) ls (v_I 0 :: st) M Q) : X_ k pc ls (v_I x :: v_P 1 :: st) M Q := by
  refine x_callV (as := [v_I x]) hd mt_X6_hasBuyer hl hR sh_1 rfl h8 c_hasBuyer (fun r M' _ _ hq => ?_)
  obtain ⟨e0, rfl⟩ := hq
  rw [e0]
  by_cases hc : 0 ≤ x ∧ x < M 1 6
  · rw [if_pos hc]; exact h1 hc
  · rw [if_neg hc]; exact h0 hc
theorem x_max {idx : Nat} {x y : Int} (hd : decode k.2.1 pc = .ok (.invokestatic idx, 3)) (hl : Cond.methodLink k.1.cls idx yJ9_max_7cf53 ∈ lw_gd) (hR : kk_J9_max_7cf53.2.2.2.2.1 + 1 ≤ k.2.2.2.2.1 ∧ 8 + (kk_J9_max_7cf53.2.2.1 + 11) + kk_J9_max_7cf53.2.2.2.2.2.1 ≤ k.2.2.2.2.2.1) (h8 : ∀ ad b, ((st.map (m_dv ad b)).map fun v => v.category).sum ≤ 8) (h : X_ k (pc + 3) ls (v_I (max x y) :: st) M Q) : X_ k pc ls (v_I y :: v_I x :: st) M Q := by
  intro p l e R s m args below meth c cells slots Qw D cI cB cA ad A b H locs lr hC hSc hls hst hM hW hL hret
  have iy : m_ir y := m_oks_head hst
  have ix : m_ir x := m_oks_head (m_oks_tail hst)
  have iz : m_ir (max x y) := ⟨by omega, by omega⟩
  have h2 : 19 + 2 + 0 ≤ k.2.2.2.2.2.1 := hR.2
  have h3 := hC.2.2.2.2.2.2.2.2.1
  have h4 := h8 ad b
  refine va_mmax hC.1 hC.2.1 (hC.2.2.1.trans hL.1.symm) hC.2.2.2.1 (hC.2.2.2.2.1 _ hl) (hC.2.2.2.2.1 _ mt_J9_max_7cf53.2.2.2) (hC.2.2.2.2.1 _ mt_J9_max_7cf53.2.1) (hC.2.2.2.2.1 _ mt_J9_max_7cf53.1) (Nat.le_trans (show 1 ≤ k.2.2.2.2.1 from hR.1) hC.2.2.2.2.2.2.2.1) (by omega) hC.2.2.2.2.2.2.2.2.2.1 hC.2.2.2.2.2.2.2.2.2.2 hd ?_
  have e9 : (if Int32.ofInt x < Int32.ofInt y then Int32.ofInt y else Int32.ofInt x) = Int32.ofInt (max x y) := by
    simp only [m_lt ix iy, m_lt iy ix]
    split
    · congr 1
      omega
    · congr 1
      omega
  rw [e9]
  exact h p l e R s m args below meth c cells slots Qw D cI cB cA ad A b H locs lr hC hSc hls (m_oks_cons (v := v_I (max x y)) iz (m_oks_tail (m_oks_tail hst))) hM hW hL hret
theorem x_min {idx : Nat} {x y : Int} (hd : decode k.2.1 pc = .ok (.invokestatic idx, 3)) (hl : Cond.methodLink k.1.cls idx yJ9_min_7cf53 ∈ lw_gd) (hR : kk_J9_min_7cf53.2.2.2.2.1 + 1 ≤ k.2.2.2.2.1 ∧ 8 + (kk_J9_min_7cf53.2.2.1 + 11) + kk_J9_min_7cf53.2.2.2.2.2.1 ≤ k.2.2.2.2.2.1) (h8 : ∀ ad b, ((st.map (m_dv ad b)).map fun v => v.category).sum ≤ 8) (h : X_ k (pc + 3) ls (v_I (min x y) :: st) M Q) : X_ k pc ls (v_I y :: v_I x :: st) M Q := by
  intro p l e R s m args below meth c cells slots Qw D cI cB cA ad A b H locs lr hC hSc hls hst hM hW hL hret
  have iy : m_ir y := m_oks_head hst
  have ix : m_ir x := m_oks_head (m_oks_tail hst)
  have iz : m_ir (min x y) := ⟨by omega, by omega⟩
  have h2 : 19 + 2 + 0 ≤ k.2.2.2.2.2.1 := hR.2
  have h3 := hC.2.2.2.2.2.2.2.2.1
  have h4 := h8 ad b
  refine va_mmin hC.1 hC.2.1 (hC.2.2.1.trans hL.1.symm) hC.2.2.2.1 (hC.2.2.2.2.1 _ hl) (hC.2.2.2.2.1 _ mt_J9_min_7cf53.2.2.2) (hC.2.2.2.2.1 _ mt_J9_min_7cf53.2.1) (hC.2.2.2.2.1 _ mt_J9_min_7cf53.1) (Nat.le_trans (show 1 ≤ k.2.2.2.2.1 from hR.1) hC.2.2.2.2.2.2.2.1) (by omega) hC.2.2.2.2.2.2.2.2.2.1 hC.2.2.2.2.2.2.2.2.2.2 hd ?_
  have e9 : (if Int32.ofInt y < Int32.ofInt x then Int32.ofInt y else Int32.ofInt x) = Int32.ofInt (min x y) := by
    simp only [m_lt ix iy, m_lt iy ix]
    split
    · congr 1
      omega
    · congr 1
      omega
  rw [e9]
  exact h p l e R s m args below meth c cells slots Qw D cI cB cA ad A b H locs lr hC hSc hls (m_oks_cons (v := v_I (min x y)) iz (m_oks_tail (m_oks_tail hst))) hM hW hL hret
end MU
