theorem wp_X11_isLot_0 {x1 : Int} {M : mM} {Q : Int → mM → Prop} (h : (m_ir ((M 79 4) - 1)) ∧ (0 ≤ x1 ∧ x1 ≤ ((M 79 4) - 1) → Q 1 M) ∧ (¬ (0 ≤ x1 ∧ x1 ≤ ((M 79 4) - 1)) → Q 0 M)) : X_ kk_X11_isLot 0 [v_P 79, v_I x1] [] M Q := by
  refine x_iload_n dX11_isLot_0 rfl rfl ?_
  refine x_i2l dX11_isLot_1 ?_
  refine x_lconst (z := 0) dX11_isLot_2 (by decide) (by decide) ?_
  refine x_aload_n dX11_isLot_3 rfl rfl ?_
  refine x_getI dX11_isLot_4 sh_79 cf_X11 fl_X11_107 (by decide) (by decide) ?_
  refine x_iconst dX11_isLot_7 (by decide) ?_
  obtain ⟨s1, h⟩ := h
  refine x_isub dX11_isLot_8 s1 ?_
  refine x_i2l dX11_isLot_9 ?_
  refine x_in (st := []) dX11_isLot_10 ml_X11_110 ⟨by decide, by decide⟩ (fun _ _ => Nat.le_of_ble_eq_true rfl) (fun hc => ?_) (fun hc => ?_)
  · change X_ kk_X11_isLot 13 [v_P 79, v_I x1] [v_I 1] M Q
    replace h := h.1 hc
    refine x_iret dX11_isLot_13 rfl (Or.inr ⟨rfl, Or.inr rfl⟩) (fun _ _ => h)
  · change X_ kk_X11_isLot 13 [v_P 79, v_I x1] [v_I 0] M Q
    replace h := h.2 hc
    refine x_iret dX11_isLot_13 rfl (Or.inr ⟨rfl, Or.inl rfl⟩) (fun _ _ => h)
theorem wp_X11_isBuyer_0 {x1 : Int} {M : mM} {Q : Int → mM → Prop} (h : (m_ir ((M 79 8) - 1)) ∧ (0 ≤ x1 ∧ x1 ≤ ((M 79 8) - 1) → Q 1 M) ∧ (¬ (0 ≤ x1 ∧ x1 ≤ ((M 79 8) - 1)) → Q 0 M)) : X_ kk_X11_isBuyer 0 [v_P 79, v_I x1] [] M Q := by
  refine x_iload_n dX11_isBuyer_0 rfl rfl ?_
  refine x_i2l dX11_isBuyer_1 ?_
  refine x_lconst (z := 0) dX11_isBuyer_2 (by decide) (by decide) ?_
  refine x_aload_n dX11_isBuyer_3 rfl rfl ?_
  refine x_getI dX11_isBuyer_4 sh_79 cf_X11 fl_X11_114 (by decide) (by decide) ?_
  refine x_iconst dX11_isBuyer_7 (by decide) ?_
  obtain ⟨s1, h⟩ := h
  refine x_isub dX11_isBuyer_8 s1 ?_
  refine x_i2l dX11_isBuyer_9 ?_
  refine x_in (st := []) dX11_isBuyer_10 ml_X11_110 ⟨by decide, by decide⟩ (fun _ _ => Nat.le_of_ble_eq_true rfl) (fun hc => ?_) (fun hc => ?_)
  · change X_ kk_X11_isBuyer 13 [v_P 79, v_I x1] [v_I 1] M Q
    replace h := h.1 hc
    refine x_iret dX11_isBuyer_13 rfl (Or.inr ⟨rfl, Or.inr rfl⟩) (fun _ _ => h)
  · change X_ kk_X11_isBuyer 13 [v_P 79, v_I x1] [v_I 0] M Q
    replace h := h.2 hc
    refine x_iret dX11_isBuyer_13 rfl (Or.inr ⟨rfl, Or.inl rfl⟩) (fun _ _ => h)
section MU2
variable {k : mI} {pc : Nat} {ls st : List mV} {M : mM} {Q : Int → mM → Prop}
theorem c_isLot {x : Int} (h0 : 0 ≤ M 79 4) : C_ kk_X11_isLot [v_P 79, v_I x] M (fun r M' => M' = M ∧ r = if 0 ≤ x ∧ x < M 79 4 then 1 else 0) := by
  refine c_intro (by decide) rfl (Nat.le_of_ble_eq_true rfl) (by simp [m_dv, Value.category]) ?_
  refine x_ok (fun _ _ hM => ?_)
  have hm := hM 79 4
  refine wp_X11_isLot_0 ⟨⟨by omega, by omega⟩, fun h => ⟨rfl, by rw [if_pos (by omega)]⟩, fun h => ⟨rfl, by rw [if_neg (by omega)]⟩⟩
theorem x_isLot {idx : Nat} {x : Int} (hd : decode k.2.1 pc = .ok (.invokevirtual idx, 3)) (hl : Cond.methodLink k.1.cls idx yX11_isLot ∈ lw_gd) (hR : kk_X11_isLot.2.2.2.2.1 + 1 ≤ k.2.2.2.2.1 ∧ 8 + (kk_X11_isLot.2.2.1 + 11) + kk_X11_isLot.2.2.2.2.2.1 ≤ k.2.2.2.2.2.1) (h8 : ∀ ad b, ((st.map (m_dv ad b)).map fun v => v.category).sum ≤ 8) (hz : 0 ≤ M 79 4) (h1 : 0 ≤ x ∧ x < M 79 4 → X_ k (pc + 3) ls (v_I 1 :: st) M Q) (h0 : ¬ (0 ≤ x ∧ x < M 79 4) → X_ k (pc + 3) ls (v_I 0 :: st) M Q) : X_ k pc ls (v_I x :: v_P 79 :: st) M Q := by
  refine x_callV (as := [v_I x]) hd mt_X11_isLot hl hR sh_79 rfl h8 (c_isLot hz) (fun r M' _ _ hq => ?_)
  obtain ⟨e0, rfl⟩ := hq
  rw [e0]
  by_cases hc : 0 ≤ x ∧ x < M 79 4
  · rw [if_pos hc]; exact h1 hc
  · rw [if_neg hc]; exact h0 hc
theorem c_isBuyer {x : Int} (h0 : 0 ≤ M 79 8) : C_ kk_X11_isBuyer [v_P 79, v_I x] M (fun r M' => M' = M ∧ r = if 0 ≤ x ∧ x < M 79 8 then 1 else 0) := by
  refine c_intro (by decide) rfl (Nat.le_of_ble_eq_true rfl) (by simp [m_dv, Value.category]) ?_
  refine x_ok (fun _ _ hM => ?_)
  have hm := hM 79 8
  refine wp_X11_isBuyer_0 ⟨⟨by omega, by omega⟩, fun h => ⟨rfl, by rw [if_pos (by omega)]⟩, fun h => ⟨rfl, by rw [if_neg (by omega)]⟩⟩
theorem x_isBuyer {idx : Nat} {x : Int} (hd : decode k.2.1 pc = .ok (.invokevirtual idx, 3)) (hl : Cond.methodLink k.1.cls idx yX11_isBuyer ∈ lw_gd) (hR : kk_X11_isBuyer.2.2.2.2.1 + 1 ≤ k.2.2.2.2.1 ∧ 8 + (kk_X11_isBuyer.2.2.1 + 11) + kk_X11_isBuyer.2.2.2.2.2.1 ≤ k.2.2.2.2.2.1) (h8 : ∀ ad b, ((st.map (m_dv ad b)).map fun v => v.category).sum ≤ 8) (hz : 0 ≤ M 79 8) (h1 : 0 ≤ x ∧ x < M 79 8 → X_ k (pc + 3) ls (v_I 1 :: st) M Q) (h0 : ¬ (0 ≤ x ∧ x < M 79 8) → X_ k (pc + 3) ls (v_I 0 :: st) M Q) : X_ k pc ls (v_I x :: v_P 79 :: st) M Q := by
  refine x_callV (as := [v_I x]) hd mt_X11_isBuyer hl hR sh_79 rfl h8 (c_isBuyer hz) (fun r M' _ _ hq => ?_)
  obtain ⟨e0, rfl⟩ := hq
  rw [e0]
  by_cases hc : 0 ≤ x ∧ x < M 79 8
  · rw [if_pos hc]; exact h1 hc
  · rw [if_neg hc]; exact h0 hc
end MU2
