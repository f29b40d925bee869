/-! the constructors, run -/
abbrev ki_X0 : mI := (yX0_init, cX0_init, 4, none, 1, 20, none)
theorem mi_X0 : y_MI ki_X0 3 := ⟨(m_in2 (List.mem_of_getElem? (i := 99) rfl) rfl), (m_in1 (List.mem_of_getElem? (i := 9) rfl) rfl), ⟨by decide +kernel, by decide +kernel, by decide +kernel⟩, (m_in2 (List.mem_of_getElem? (i := 98) rfl) rfl), rfl, rfl⟩
theorem dv_X0 : ∀ j, j < 5 → defaultValue (tyX0 j) = y_val (fun _ => 0) (if m_fk 0 j ≤ 1 then .inl 0 else .inr none) := by
  intro j hj
  match j, hj with
  | 0, _ => rfl
  | 1, _ => rfl
  | 2, _ => rfl
  | 3, _ => rfl
  | 4, _ => rfl
  | k + 5, h => exact absurd h (by omega)
abbrev ki_X1 : mI := (yX1_init, cX1_init, 1, none, 1, 20, none)
theorem mi_X1 : y_MI ki_X1 0 := ⟨(m_in1 (List.mem_of_getElem? (i := 35) rfl) rfl), (m_in1 (List.mem_of_getElem? (i := 3) rfl) rfl), ⟨by decide +kernel, by decide +kernel, by decide +kernel⟩, (m_in1 (List.mem_of_getElem? (i := 34) rfl) rfl), rfl, rfl⟩
theorem dv_X1 : ∀ j, j < 8 → defaultValue (tyX1 j) = y_val (fun _ => 0) (if m_fk 1 j ≤ 1 then .inl 0 else .inr none) := by
  intro j hj
  match j, hj with
  | 0, _ => rfl
  | 1, _ => rfl
  | 2, _ => rfl
  | 3, _ => rfl
  | 4, _ => rfl
  | 5, _ => rfl
  | 6, _ => rfl
  | 7, _ => rfl
  | k + 8, h => exact absurd h (by omega)
abbrev ki_X2 : mI := (yX2_init, cX2_init, 3, none, 1, 20, none)
theorem mi_X2 : y_MI ki_X2 2 := ⟨(m_in2 (List.mem_of_getElem? (i := 63) rfl) rfl), (m_in1 (List.mem_of_getElem? (i := 8) rfl) rfl), ⟨by decide +kernel, by decide +kernel, by decide +kernel⟩, (m_in2 (List.mem_of_getElem? (i := 62) rfl) rfl), rfl, rfl⟩
theorem dv_X2 : ∀ j, j < 8 → defaultValue (tyX2 j) = y_val (fun _ => 0) (if m_fk 2 j ≤ 1 then .inl 0 else .inr none) := by
  intro j hj
  match j, hj with
  | 0, _ => rfl
  | 1, _ => rfl
  | 2, _ => rfl
  | 3, _ => rfl
  | 4, _ => rfl
  | 5, _ => rfl
  | 6, _ => rfl
  | 7, _ => rfl
  | k + 8, h => exact absurd h (by omega)
abbrev ki_X4 : mI := (yX4_init, cX4_init, 2, none, 1, 20, none)
theorem mi_X4 : y_MI ki_X4 1 := ⟨(m_in1 (List.mem_of_getElem? (i := 175) rfl) rfl), (m_in1 (List.mem_of_getElem? (i := 5) rfl) rfl), ⟨by decide +kernel, by decide +kernel, by decide +kernel⟩, (m_in1 (List.mem_of_getElem? (i := 174) rfl) rfl), rfl, rfl⟩
theorem dv_X4 : ∀ j, j < 17 → defaultValue (tyX4 j) = y_val (fun _ => 0) (if m_fk 3 j ≤ 1 then .inl 0 else .inr none) := by
  intro j hj
  match j, hj with
  | 0, _ => rfl
  | 1, _ => rfl
  | 2, _ => rfl
  | 3, _ => rfl
  | 4, _ => rfl
  | 5, _ => rfl
  | 6, _ => rfl
  | 7, _ => rfl
  | 8, _ => rfl
  | 9, _ => rfl
  | 10, _ => rfl
  | 11, _ => rfl
  | 12, _ => rfl
  | 13, _ => rfl
  | 14, _ => rfl
  | 15, _ => rfl
  | 16, _ => rfl
  | k + 17, h => exact absurd h (by omega)
abbrev ki_X5 : mI := (yX5_init, cX5_init, 2, none, 1, 20, none)
theorem mi_X5 : y_MI ki_X5 1 := ⟨(m_in2 (List.mem_of_getElem? (i := 2) rfl) rfl), (m_in1 (List.mem_of_getElem? (i := 6) rfl) rfl), ⟨by decide +kernel, by decide +kernel, by decide +kernel⟩, (m_in2 (List.mem_of_getElem? (i := 1) rfl) rfl), rfl, rfl⟩
theorem dv_X5 : ∀ j, j < 6 → defaultValue (tyX5 j) = y_val (fun _ => 0) (if m_fk 4 j ≤ 1 then .inl 0 else .inr none) := by
  intro j hj
  match j, hj with
  | 0, _ => rfl
  | 1, _ => rfl
  | 2, _ => rfl
  | 3, _ => rfl
  | 4, _ => rfl
  | 5, _ => rfl
  | k + 6, h => exact absurd h (by omega)
abbrev ki_X6 : mI := (yX6_init, cX6_init, 2, none, 2, 40, none)
theorem mi_X6 : y_MI ki_X6 0 := ⟨(m_in1 (List.mem_of_getElem? (i := 28) rfl) rfl), (m_in1 (List.mem_of_getElem? (i := 2) rfl) rfl), ⟨by decide +kernel, by decide +kernel, by decide +kernel⟩, (m_in1 (List.mem_of_getElem? (i := 27) rfl) rfl), rfl, rfl⟩
theorem dv_X6 : ∀ j, j < 9 → defaultValue (tyX6 j) = y_val (fun _ => 0) (if m_fk 5 j ≤ 1 then .inl 0 else .inr none) := by
  intro j hj
  match j, hj with
  | 0, _ => rfl
  | 1, _ => rfl
  | 2, _ => rfl
  | 3, _ => rfl
  | 4, _ => rfl
  | 5, _ => rfl
  | 6, _ => rfl
  | 7, _ => rfl
  | 8, _ => rfl
  | k + 9, h => exact absurd h (by omega)
abbrev ki_X7 : mI := (yX7_init, cX7_init, 2, none, 1, 20, none)
theorem mi_X7 : y_MI ki_X7 1 := ⟨(m_in2 (List.mem_of_getElem? (i := 123) rfl) rfl), (m_in1 (List.mem_of_getElem? (i := 10) rfl) rfl), ⟨by decide +kernel, by decide +kernel, by decide +kernel⟩, (m_in2 (List.mem_of_getElem? (i := 122) rfl) rfl), rfl, rfl⟩
theorem dv_X7 : ∀ j, j < 6 → defaultValue (tyX7 j) = y_val (fun _ => 0) (if m_fk 6 j ≤ 1 then .inl 0 else .inr none) := by
  intro j hj
  match j, hj with
  | 0, _ => rfl
  | 1, _ => rfl
  | 2, _ => rfl
  | 3, _ => rfl
  | 4, _ => rfl
  | 5, _ => rfl
  | k + 6, h => exact absurd h (by omega)
abbrev ki_X8 : mI := (yX8_init, cX8_init, 2, none, 1, 20, none)
theorem mi_X8 : y_MI ki_X8 1 := ⟨(m_in2 (List.mem_of_getElem? (i := 29) rfl) rfl), (m_in1 (List.mem_of_getElem? (i := 7) rfl) rfl), ⟨by decide +kernel, by decide +kernel, by decide +kernel⟩, (m_in2 (List.mem_of_getElem? (i := 28) rfl) rfl), rfl, rfl⟩
theorem dv_X8 : ∀ j, j < 7 → defaultValue (tyX8 j) = y_val (fun _ => 0) (if m_fk 7 j ≤ 1 then .inl 0 else .inr none) := by
  intro j hj
  match j, hj with
  | 0, _ => rfl
  | 1, _ => rfl
  | 2, _ => rfl
  | 3, _ => rfl
  | 4, _ => rfl
  | 5, _ => rfl
  | 6, _ => rfl
  | k + 7, h => exact absurd h (by omega)
abbrev ki_X9 : mI := (yX9_init, cX9_init, 1, none, 1, 20, none)
theorem mi_X9 : y_MI ki_X9 0 := ⟨(m_in1 (List.mem_of_getElem? (i := 136) rfl) rfl), (m_in1 (List.mem_of_getElem? (i := 4) rfl) rfl), ⟨by decide +kernel, by decide +kernel, by decide +kernel⟩, (m_in1 (List.mem_of_getElem? (i := 135) rfl) rfl), rfl, rfl⟩
theorem dv_X9 : ∀ j, j < 9 → defaultValue (tyX9 j) = y_val (fun _ => 0) (if m_fk 8 j ≤ 1 then .inl 0 else .inr none) := by
  intro j hj
  match j, hj with
  | 0, _ => rfl
  | 1, _ => rfl
  | 2, _ => rfl
  | 3, _ => rfl
  | 4, _ => rfl
  | 5, _ => rfl
  | 6, _ => rfl
  | 7, _ => rfl
  | 8, _ => rfl
  | k + 9, h => exact absurd h (by omega)
abbrev ki_X10 : mI := (yX10_init, cX10_init, 1, none, 3, 61, none)
theorem mi_X10 : y_MI ki_X10 0 := ⟨(m_in1 (List.mem_of_getElem? (i := 20) rfl) rfl), (m_in1 (List.mem_of_getElem? (i := 1) rfl) rfl), ⟨by decide +kernel, by decide +kernel, by decide +kernel⟩, (m_in1 (List.mem_of_getElem? (i := 19) rfl) rfl), rfl, rfl⟩
theorem dv_X10 : ∀ j, j < 9 → defaultValue (tyX10 j) = y_val (fun _ => 0) (if m_fk 9 j ≤ 1 then .inl 0 else .inr none) := by
  intro j hj
  match j, hj with
  | 0, _ => rfl
  | 1, _ => rfl
  | 2, _ => rfl
  | 3, _ => rfl
  | 4, _ => rfl
  | 5, _ => rfl
  | 6, _ => rfl
  | 7, _ => rfl
  | 8, _ => rfl
  | k + 9, h => exact absurd h (by omega)
abbrev ki_X11 : mI := (yX11_init, cX11_init, 1, none, 1, 20, none)
theorem mi_X11 : y_MI ki_X11 0 := ⟨(m_in4 (List.mem_of_getElem? (i := 114) rfl) rfl), (m_in1 (List.mem_of_getElem? (i := 11) rfl) rfl), ⟨by decide +kernel, by decide +kernel, by decide +kernel⟩, (m_in4 (List.mem_of_getElem? (i := 113) rfl) rfl), rfl, rfl⟩
theorem dv_X11 : ∀ j, j < 39 → defaultValue (tyX11 j) = y_val (fun _ => 0) (if m_fk 10 j ≤ 1 then .inl 0 else .inr none) := by
  intro j hj
  match j, hj with
  | 0, _ => rfl
  | 1, _ => rfl
  | 2, _ => rfl
  | 3, _ => rfl
  | 4, _ => rfl
  | 5, _ => rfl
  | 6, _ => rfl
  | 7, _ => rfl
  | 8, _ => rfl
  | 9, _ => rfl
  | 10, _ => rfl
  | 11, _ => rfl
  | 12, _ => rfl
  | 13, _ => rfl
  | 14, _ => rfl
  | 15, _ => rfl
  | 16, _ => rfl
  | 17, _ => rfl
  | 18, _ => rfl
  | 19, _ => rfl
  | 20, _ => rfl
  | 21, _ => rfl
  | 22, _ => rfl
  | 23, _ => rfl
  | 24, _ => rfl
  | 25, _ => rfl
  | 26, _ => rfl
  | 27, _ => rfl
  | 28, _ => rfl
  | 29, _ => rfl
  | 30, _ => rfl
  | 31, _ => rfl
  | 32, _ => rfl
  | 33, _ => rfl
  | 34, _ => rfl
  | 35, _ => rfl
  | 36, _ => rfl
  | 37, _ => rfl
  | 38, _ => rfl
  | k + 39, h => exact absurd h (by omega)
def yk_i1 : yM := y_def
def yk_i2 : yM := yk_i1
def yk_i3 : yM := (y_up (y_up (y_up (y_up (y_up (y_up (y_up yk_i2 1 1 (.inr (some 2))) 1 2 (.inr (some 3))) 1 3 (.inr (some 4))) 1 4 (.inr (some 5))) 1 5 (.inr (some 6))) 1 7 (.inr (some 7))) 1 8 (.inl 100))
def yk_e3 : yM := (y_up (y_up (y_up (y_up (y_up yk_i3 8 0 (.inl 200)) 8 1 (.inl 10)) 8 2 (.inl 50)) 8 4 (.inr (some 9))) 8 5 (.inr (some 10)))
theorem yc_X1_3 : YC ki_X1 [v_P 8] 9 yk_i3 11 yk_e3 2 12 := by
  refine yc_intro (pcE := 39) (lsE := [v_P 8]) (by decide) rfl rfl (Nat.le_of_ble_eq_true rfl) (by simp [m_dv, Value.category]) dX1_init_39 ?_
  show Y_ ki_X1 0 [v_P 8] [] 9 yk_i3 0 0 (39, [v_P 8], 11, yk_e3, 2, 12)
  refine ya_aload_n dX1_init_0 rfl rfl ?_
  refine ya_objInit dX1_init_1 (m_in1 (List.mem_of_getElem? (i := 36) rfl) rfl) (m_in1 (List.mem_of_getElem? (i := 22) rfl) rfl) (m_in1 (List.mem_of_getElem? (i := 23) rfl) rfl) (by decide) (by decide) (fun _ _ => Nat.le_of_ble_eq_true rfl) ?_
  refine ya_aload_n dX1_init_4 rfl rfl ?_
  refine ya_sipush dX1_init_5 (by decide) ?_
  refine ya_putI dX1_init_8 sh_8 cf_X1 fl_X1_9 (by decide) rfl rfl (by decide) ?_
  refine ya_aload_n dX1_init_11 rfl rfl ?_
  refine ya_bipush dX1_init_12 (by decide) ?_
  refine ya_putI dX1_init_14 sh_8 cf_X1 fl_X1_15 (by decide) rfl rfl (by decide) ?_
  refine ya_aload_n dX1_init_17 rfl rfl ?_
  refine ya_bipush dX1_init_18 (by decide) ?_
  refine ya_putI dX1_init_20 sh_8 cf_X1 fl_X1_18 (by decide) rfl rfl (by decide) ?_
  refine ya_aload_n dX1_init_23 rfl rfl ?_
  refine ya_bipush dX1_init_24 (by decide) ?_
  refine yb_newa (n' := 10) (cu' := 1) (su' := 6) dX1_init_26 sh_9 (m_in1 (List.mem_of_getElem? (i := 79) rfl) rfl) (by decide) (by decide) (by decide) rfl rfl rfl (Nat.le_of_ble_eq_true rfl) (Nat.le_of_ble_eq_true rfl) rfl rfl ?_
  refine ya_putF dX1_init_28 sh_8 cf_X1 fl_X1_21 (by decide) rfl ⟨rfl, rfl⟩ rfl ⟨fun _ => rfl, fun _ => rfl⟩ (by decide) (by decide) ?_
  refine ya_aload_n dX1_init_31 rfl rfl ?_
  refine ya_bipush dX1_init_32 (by decide) ?_
  refine yb_newa (n' := 11) (cu' := 2) (su' := 12) dX1_init_34 sh_10 (m_in1 (List.mem_of_getElem? (i := 79) rfl) rfl) (by decide) (by decide) (by decide) rfl rfl rfl (Nat.le_of_ble_eq_true rfl) (Nat.le_of_ble_eq_true rfl) rfl rfl ?_
  refine ya_putF dX1_init_36 sh_8 cf_X1 fl_X1_25 (by decide) rfl ⟨rfl, rfl⟩ rfl ⟨fun _ => rfl, fun _ => rfl⟩ (by decide) (by decide) ?_
  exact y_end
def yk_i4 : yM := (y_up yk_e3 7 0 (.inr (some 8)))
def yk_e4 : yM := (y_up (y_up (y_up (y_up (y_up yk_i4 11 0 (.inl 200)) 11 1 (.inl 10)) 11 2 (.inl 50)) 11 4 (.inr (some 12))) 11 5 (.inr (some 13)))
theorem yc_X1_4 : YC ki_X1 [v_P 11] 12 yk_i4 14 yk_e4 2 12 := by
  refine yc_intro (pcE := 39) (lsE := [v_P 11]) (by decide) rfl rfl (Nat.le_of_ble_eq_true rfl) (by simp [m_dv, Value.category]) dX1_init_39 ?_
  show Y_ ki_X1 0 [v_P 11] [] 12 yk_i4 0 0 (39, [v_P 11], 14, yk_e4, 2, 12)
  refine ya_aload_n dX1_init_0 rfl rfl ?_
  refine ya_objInit dX1_init_1 (m_in1 (List.mem_of_getElem? (i := 36) rfl) rfl) (m_in1 (List.mem_of_getElem? (i := 22) rfl) rfl) (m_in1 (List.mem_of_getElem? (i := 23) rfl) rfl) (by decide) (by decide) (fun _ _ => Nat.le_of_ble_eq_true rfl) ?_
  refine ya_aload_n dX1_init_4 rfl rfl ?_
  refine ya_sipush dX1_init_5 (by decide) ?_
  refine ya_putI dX1_init_8 sh_11 cf_X1 fl_X1_9 (by decide) rfl rfl (by decide) ?_
  refine ya_aload_n dX1_init_11 rfl rfl ?_
  refine ya_bipush dX1_init_12 (by decide) ?_
  refine ya_putI dX1_init_14 sh_11 cf_X1 fl_X1_15 (by decide) rfl rfl (by decide) ?_
  refine ya_aload_n dX1_init_17 rfl rfl ?_
  refine ya_bipush dX1_init_18 (by decide) ?_
  refine ya_putI dX1_init_20 sh_11 cf_X1 fl_X1_18 (by decide) rfl rfl (by decide) ?_
  refine ya_aload_n dX1_init_23 rfl rfl ?_
  refine ya_bipush dX1_init_24 (by decide) ?_
  refine yb_newa (n' := 13) (cu' := 1) (su' := 6) dX1_init_26 sh_12 (m_in1 (List.mem_of_getElem? (i := 79) rfl) rfl) (by decide) (by decide) (by decide) rfl rfl rfl (Nat.le_of_ble_eq_true rfl) (Nat.le_of_ble_eq_true rfl) rfl rfl ?_
  refine ya_putF dX1_init_28 sh_11 cf_X1 fl_X1_21 (by decide) rfl ⟨rfl, rfl⟩ rfl ⟨fun _ => rfl, fun _ => rfl⟩ (by decide) (by decide) ?_
  refine ya_aload_n dX1_init_31 rfl rfl ?_
  refine ya_bipush dX1_init_32 (by decide) ?_
  refine yb_newa (n' := 14) (cu' := 2) (su' := 12) dX1_init_34 sh_13 (m_in1 (List.mem_of_getElem? (i := 79) rfl) rfl) (by decide) (by decide) (by decide) rfl rfl rfl (Nat.le_of_ble_eq_true rfl) (Nat.le_of_ble_eq_true rfl) rfl rfl ?_
  refine ya_putF dX1_init_36 sh_11 cf_X1 fl_X1_25 (by decide) rfl ⟨rfl, rfl⟩ rfl ⟨fun _ => rfl, fun _ => rfl⟩ (by decide) (by decide) ?_
  exact y_end
def yk_i5 : yM := (y_up yk_e4 7 1 (.inr (some 11)))
def yk_e5 : yM := (y_up (y_up (y_up (y_up (y_up yk_i5 14 0 (.inl 200)) 14 1 (.inl 10)) 14 2 (.inl 50)) 14 4 (.inr (some 15))) 14 5 (.inr (some 16)))
theorem yc_X1_5 : YC ki_X1 [v_P 14] 15 yk_i5 17 yk_e5 2 12 := by
  refine yc_intro (pcE := 39) (lsE := [v_P 14]) (by decide) rfl rfl (Nat.le_of_ble_eq_true rfl) (by simp [m_dv, Value.category]) dX1_init_39 ?_
  show Y_ ki_X1 0 [v_P 14] [] 15 yk_i5 0 0 (39, [v_P 14], 17, yk_e5, 2, 12)
  refine ya_aload_n dX1_init_0 rfl rfl ?_
  refine ya_objInit dX1_init_1 (m_in1 (List.mem_of_getElem? (i := 36) rfl) rfl) (m_in1 (List.mem_of_getElem? (i := 22) rfl) rfl) (m_in1 (List.mem_of_getElem? (i := 23) rfl) rfl) (by decide) (by decide) (fun _ _ => Nat.le_of_ble_eq_true rfl) ?_
  refine ya_aload_n dX1_init_4 rfl rfl ?_
  refine ya_sipush dX1_init_5 (by decide) ?_
  refine ya_putI dX1_init_8 sh_14 cf_X1 fl_X1_9 (by decide) rfl rfl (by decide) ?_
  refine ya_aload_n dX1_init_11 rfl rfl ?_
  refine ya_bipush dX1_init_12 (by decide) ?_
  refine ya_putI dX1_init_14 sh_14 cf_X1 fl_X1_15 (by decide) rfl rfl (by decide) ?_
  refine ya_aload_n dX1_init_17 rfl rfl ?_
  refine ya_bipush dX1_init_18 (by decide) ?_
  refine ya_putI dX1_init_20 sh_14 cf_X1 fl_X1_18 (by decide) rfl rfl (by decide) ?_
  refine ya_aload_n dX1_init_23 rfl rfl ?_
  refine ya_bipush dX1_init_24 (by decide) ?_
  refine yb_newa (n' := 16) (cu' := 1) (su' := 6) dX1_init_26 sh_15 (m_in1 (List.mem_of_getElem? (i := 79) rfl) rfl) (by decide) (by decide) (by decide) rfl rfl rfl (Nat.le_of_ble_eq_true rfl) (Nat.le_of_ble_eq_true rfl) rfl rfl ?_
  refine ya_putF dX1_init_28 sh_14 cf_X1 fl_X1_21 (by decide) rfl ⟨rfl, rfl⟩ rfl ⟨fun _ => rfl, fun _ => rfl⟩ (by decide) (by decide) ?_
  refine ya_aload_n dX1_init_31 rfl rfl ?_
  refine ya_bipush dX1_init_32 (by decide) ?_
  refine yb_newa (n' := 17) (cu' := 2) (su' := 12) dX1_init_34 sh_16 (m_in1 (List.mem_of_getElem? (i := 79) rfl) rfl) (by decide) (by decide) (by decide) rfl rfl rfl (Nat.le_of_ble_eq_true rfl) (Nat.le_of_ble_eq_true rfl) rfl rfl ?_
  refine ya_putF dX1_init_36 sh_14 cf_X1 fl_X1_25 (by decide) rfl ⟨rfl, rfl⟩ rfl ⟨fun _ => rfl, fun _ => rfl⟩ (by decide) (by decide) ?_
  exact y_end
def yk_i6 : yM := (y_up yk_e5 7 2 (.inr (some 14)))
def yk_e6 : yM := (y_up (y_up (y_up (y_up (y_up yk_i6 17 0 (.inl 200)) 17 1 (.inl 10)) 17 2 (.inl 50)) 17 4 (.inr (some 18))) 17 5 (.inr (some 19)))
theorem yc_X1_6 : YC ki_X1 [v_P 17] 18 yk_i6 20 yk_e6 2 12 := by
  refine yc_intro (pcE := 39) (lsE := [v_P 17]) (by decide) rfl rfl (Nat.le_of_ble_eq_true rfl) (by simp [m_dv, Value.category]) dX1_init_39 ?_
  show Y_ ki_X1 0 [v_P 17] [] 18 yk_i6 0 0 (39, [v_P 17], 20, yk_e6, 2, 12)
  refine ya_aload_n dX1_init_0 rfl rfl ?_
  refine ya_objInit dX1_init_1 (m_in1 (List.mem_of_getElem? (i := 36) rfl) rfl) (m_in1 (List.mem_of_getElem? (i := 22) rfl) rfl) (m_in1 (List.mem_of_getElem? (i := 23) rfl) rfl) (by decide) (by decide) (fun _ _ => Nat.le_of_ble_eq_true rfl) ?_
  refine ya_aload_n dX1_init_4 rfl rfl ?_
  refine ya_sipush dX1_init_5 (by decide) ?_
  refine ya_putI dX1_init_8 sh_17 cf_X1 fl_X1_9 (by decide) rfl rfl (by decide) ?_
  refine ya_aload_n dX1_init_11 rfl rfl ?_
  refine ya_bipush dX1_init_12 (by decide) ?_
  refine ya_putI dX1_init_14 sh_17 cf_X1 fl_X1_15 (by decide) rfl rfl (by decide) ?_
  refine ya_aload_n dX1_init_17 rfl rfl ?_
  refine ya_bipush dX1_init_18 (by decide) ?_
  refine ya_putI dX1_init_20 sh_17 cf_X1 fl_X1_18 (by decide) rfl rfl (by decide) ?_
  refine ya_aload_n dX1_init_23 rfl rfl ?_
  refine ya_bipush dX1_init_24 (by decide) ?_
  refine yb_newa (n' := 19) (cu' := 1) (su' := 6) dX1_init_26 sh_18 (m_in1 (List.mem_of_getElem? (i := 79) rfl) rfl) (by decide) (by decide) (by decide) rfl rfl rfl (Nat.le_of_ble_eq_true rfl) (Nat.le_of_ble_eq_true rfl) rfl rfl ?_
  refine ya_putF dX1_init_28 sh_17 cf_X1 fl_X1_21 (by decide) rfl ⟨rfl, rfl⟩ rfl ⟨fun _ => rfl, fun _ => rfl⟩ (by decide) (by decide) ?_
  refine ya_aload_n dX1_init_31 rfl rfl ?_
  refine ya_bipush dX1_init_32 (by decide) ?_
  refine yb_newa (n' := 20) (cu' := 2) (su' := 12) dX1_init_34 sh_19 (m_in1 (List.mem_of_getElem? (i := 79) rfl) rfl) (by decide) (by decide) (by decide) rfl rfl rfl (Nat.le_of_ble_eq_true rfl) (Nat.le_of_ble_eq_true rfl) rfl rfl ?_
  refine ya_putF dX1_init_36 sh_17 cf_X1 fl_X1_25 (by decide) rfl ⟨rfl, rfl⟩ rfl ⟨fun _ => rfl, fun _ => rfl⟩ (by decide) (by decide) ?_
  exact y_end
def yk_i7 : yM := (y_up yk_e6 7 3 (.inr (some 17)))
def yk_e7 : yM := (y_up (y_up (y_up (y_up (y_up yk_i7 20 0 (.inl 200)) 20 1 (.inl 10)) 20 2 (.inl 50)) 20 4 (.inr (some 21))) 20 5 (.inr (some 22)))
theorem yc_X1_7 : YC ki_X1 [v_P 20] 21 yk_i7 23 yk_e7 2 12 := by
  refine yc_intro (pcE := 39) (lsE := [v_P 20]) (by decide) rfl rfl (Nat.le_of_ble_eq_true rfl) (by simp [m_dv, Value.category]) dX1_init_39 ?_
  show Y_ ki_X1 0 [v_P 20] [] 21 yk_i7 0 0 (39, [v_P 20], 23, yk_e7, 2, 12)
  refine ya_aload_n dX1_init_0 rfl rfl ?_
  refine ya_objInit dX1_init_1 (m_in1 (List.mem_of_getElem? (i := 36) rfl) rfl) (m_in1 (List.mem_of_getElem? (i := 22) rfl) rfl) (m_in1 (List.mem_of_getElem? (i := 23) rfl) rfl) (by decide) (by decide) (fun _ _ => Nat.le_of_ble_eq_true rfl) ?_
  refine ya_aload_n dX1_init_4 rfl rfl ?_
  refine ya_sipush dX1_init_5 (by decide) ?_
  refine ya_putI dX1_init_8 sh_20 cf_X1 fl_X1_9 (by decide) rfl rfl (by decide) ?_
  refine ya_aload_n dX1_init_11 rfl rfl ?_
  refine ya_bipush dX1_init_12 (by decide) ?_
  refine ya_putI dX1_init_14 sh_20 cf_X1 fl_X1_15 (by decide) rfl rfl (by decide) ?_
  refine ya_aload_n dX1_init_17 rfl rfl ?_
  refine ya_bipush dX1_init_18 (by decide) ?_
  refine ya_putI dX1_init_20 sh_20 cf_X1 fl_X1_18 (by decide) rfl rfl (by decide) ?_
  refine ya_aload_n dX1_init_23 rfl rfl ?_
  refine ya_bipush dX1_init_24 (by decide) ?_
  refine yb_newa (n' := 22) (cu' := 1) (su' := 6) dX1_init_26 sh_21 (m_in1 (List.mem_of_getElem? (i := 79) rfl) rfl) (by decide) (by decide) (by decide) rfl rfl rfl (Nat.le_of_ble_eq_true rfl) (Nat.le_of_ble_eq_true rfl) rfl rfl ?_
  refine ya_putF dX1_init_28 sh_20 cf_X1 fl_X1_21 (by decide) rfl ⟨rfl, rfl⟩ rfl ⟨fun _ => rfl, fun _ => rfl⟩ (by decide) (by decide) ?_
  refine ya_aload_n dX1_init_31 rfl rfl ?_
  refine ya_bipush dX1_init_32 (by decide) ?_
  refine yb_newa (n' := 23) (cu' := 2) (su' := 12) dX1_init_34 sh_22 (m_in1 (List.mem_of_getElem? (i := 79) rfl) rfl) (by decide) (by decide) (by decide) rfl rfl rfl (Nat.le_of_ble_eq_true rfl) (Nat.le_of_ble_eq_true rfl) rfl rfl ?_
  refine ya_putF dX1_init_36 sh_20 cf_X1 fl_X1_25 (by decide) rfl ⟨rfl, rfl⟩ rfl ⟨fun _ => rfl, fun _ => rfl⟩ (by decide) (by decide) ?_
  exact y_end
def yk_i8 : yM := (y_up yk_e7 7 4 (.inr (some 20)))
def yk_e8 : yM := (y_up (y_up (y_up (y_up (y_up yk_i8 23 0 (.inl 200)) 23 1 (.inl 10)) 23 2 (.inl 50)) 23 4 (.inr (some 24))) 23 5 (.inr (some 25)))
theorem yc_X1_8 : YC ki_X1 [v_P 23] 24 yk_i8 26 yk_e8 2 12 := by
  refine yc_intro (pcE := 39) (lsE := [v_P 23]) (by decide) rfl rfl (Nat.le_of_ble_eq_true rfl) (by simp [m_dv, Value.category]) dX1_init_39 ?_
  show Y_ ki_X1 0 [v_P 23] [] 24 yk_i8 0 0 (39, [v_P 23], 26, yk_e8, 2, 12)
  refine ya_aload_n dX1_init_0 rfl rfl ?_
  refine ya_objInit dX1_init_1 (m_in1 (List.mem_of_getElem? (i := 36) rfl) rfl) (m_in1 (List.mem_of_getElem? (i := 22) rfl) rfl) (m_in1 (List.mem_of_getElem? (i := 23) rfl) rfl) (by decide) (by decide) (fun _ _ => Nat.le_of_ble_eq_true rfl) ?_
  refine ya_aload_n dX1_init_4 rfl rfl ?_
  refine ya_sipush dX1_init_5 (by decide) ?_
  refine ya_putI dX1_init_8 sh_23 cf_X1 fl_X1_9 (by decide) rfl rfl (by decide) ?_
  refine ya_aload_n dX1_init_11 rfl rfl ?_
  refine ya_bipush dX1_init_12 (by decide) ?_
  refine ya_putI dX1_init_14 sh_23 cf_X1 fl_X1_15 (by decide) rfl rfl (by decide) ?_
  refine ya_aload_n dX1_init_17 rfl rfl ?_
  refine ya_bipush dX1_init_18 (by decide) ?_
  refine ya_putI dX1_init_20 sh_23 cf_X1 fl_X1_18 (by decide) rfl rfl (by decide) ?_
  refine ya_aload_n dX1_init_23 rfl rfl ?_
  refine ya_bipush dX1_init_24 (by decide) ?_
  refine yb_newa (n' := 25) (cu' := 1) (su' := 6) dX1_init_26 sh_24 (m_in1 (List.mem_of_getElem? (i := 79) rfl) rfl) (by decide) (by decide) (by decide) rfl rfl rfl (Nat.le_of_ble_eq_true rfl) (Nat.le_of_ble_eq_true rfl) rfl rfl ?_
  refine ya_putF dX1_init_28 sh_23 cf_X1 fl_X1_21 (by decide) rfl ⟨rfl, rfl⟩ rfl ⟨fun _ => rfl, fun _ => rfl⟩ (by decide) (by decide) ?_
  refine ya_aload_n dX1_init_31 rfl rfl ?_
  refine ya_bipush dX1_init_32 (by decide) ?_
  refine yb_newa (n' := 26) (cu' := 2) (su' := 12) dX1_init_34 sh_25 (m_in1 (List.mem_of_getElem? (i := 79) rfl) rfl) (by decide) (by decide) (by decide) rfl rfl rfl (Nat.le_of_ble_eq_true rfl) (Nat.le_of_ble_eq_true rfl) rfl rfl ?_
  refine ya_putF dX1_init_36 sh_23 cf_X1 fl_X1_25 (by decide) rfl ⟨rfl, rfl⟩ rfl ⟨fun _ => rfl, fun _ => rfl⟩ (by decide) (by decide) ?_
  exact y_end
def yk_e2 : yM := (y_up yk_e8 7 5 (.inr (some 23)))
theorem yc_X6_2 : YC ki_X6 [v_P 1] 2 yk_i2 26 yk_e2 24 166 := by
  refine yc_intro (pcE := 86) (lsE := [v_P 1, v_I 6]) (by decide) rfl rfl (Nat.le_of_ble_eq_true rfl) (by simp [m_dv, Value.category]) dX6_init_86 ?_
  show Y_ ki_X6 0 [v_P 1, v_U] [] 2 yk_i2 0 0 (86, [v_P 1, v_I 6], 26, yk_e2, 24, 166)
  refine ya_aload_n dX6_init_0 rfl rfl ?_
  refine ya_objInit dX6_init_1 (m_in1 (List.mem_of_getElem? (i := 29) rfl) rfl) (m_in1 (List.mem_of_getElem? (i := 22) rfl) rfl) (m_in1 (List.mem_of_getElem? (i := 23) rfl) rfl) (by decide) (by decide) (fun _ _ => Nat.le_of_ble_eq_true rfl) ?_
  refine ya_aload_n dX6_init_4 rfl rfl ?_
  refine ya_bipush dX6_init_5 (by decide) ?_
  refine yb_newa (n' := 3) (cu' := 1) (su' := 8) dX6_init_7 sh_2 (m_in1 (List.mem_of_getElem? (i := 79) rfl) rfl) (by decide) (by decide) (by decide) rfl rfl rfl (Nat.le_of_ble_eq_true rfl) (Nat.le_of_ble_eq_true rfl) rfl rfl ?_
  refine ya_putF dX6_init_9 sh_1 cf_X6 fl_X6_9 (by decide) rfl ⟨rfl, rfl⟩ rfl ⟨fun _ => rfl, fun _ => rfl⟩ (by decide) (by decide) ?_
  refine ya_aload_n dX6_init_12 rfl rfl ?_
  refine ya_bipush dX6_init_13 (by decide) ?_
  refine yb_newa (n' := 4) (cu' := 2) (su' := 16) dX6_init_15 sh_3 (m_in1 (List.mem_of_getElem? (i := 79) rfl) rfl) (by decide) (by decide) (by decide) rfl rfl rfl (Nat.le_of_ble_eq_true rfl) (Nat.le_of_ble_eq_true rfl) rfl rfl ?_
  refine ya_putF dX6_init_17 sh_1 cf_X6 fl_X6_15 (by decide) rfl ⟨rfl, rfl⟩ rfl ⟨fun _ => rfl, fun _ => rfl⟩ (by decide) (by decide) ?_
  refine ya_aload_n dX6_init_20 rfl rfl ?_
  refine ya_bipush dX6_init_21 (by decide) ?_
  refine yb_newa (n' := 5) (cu' := 3) (su' := 24) dX6_init_23 sh_4 (m_in1 (List.mem_of_getElem? (i := 79) rfl) rfl) (by decide) (by decide) (by decide) rfl rfl rfl (Nat.le_of_ble_eq_true rfl) (Nat.le_of_ble_eq_true rfl) rfl rfl ?_
  refine ya_putF dX6_init_25 sh_1 cf_X6 fl_X6_18 (by decide) rfl ⟨rfl, rfl⟩ rfl ⟨fun _ => rfl, fun _ => rfl⟩ (by decide) (by decide) ?_
  refine ya_aload_n dX6_init_28 rfl rfl ?_
  refine ya_bipush dX6_init_29 (by decide) ?_
  refine yb_newa (n' := 6) (cu' := 4) (su' := 32) dX6_init_31 sh_5 (m_in1 (List.mem_of_getElem? (i := 79) rfl) rfl) (by decide) (by decide) (by decide) rfl rfl rfl (Nat.le_of_ble_eq_true rfl) (Nat.le_of_ble_eq_true rfl) rfl rfl ?_
  refine ya_putF dX6_init_33 sh_1 cf_X6 fl_X6_21 (by decide) rfl ⟨rfl, rfl⟩ rfl ⟨fun _ => rfl, fun _ => rfl⟩ (by decide) (by decide) ?_
  refine ya_aload_n dX6_init_36 rfl rfl ?_
  refine ya_bipush dX6_init_37 (by decide) ?_
  refine yb_newa (n' := 7) (cu' := 5) (su' := 40) dX6_init_39 sh_6 (m_in1 (List.mem_of_getElem? (i := 79) rfl) rfl) (by decide) (by decide) (by decide) rfl rfl rfl (Nat.le_of_ble_eq_true rfl) (Nat.le_of_ble_eq_true rfl) rfl rfl ?_
  refine ya_putF dX6_init_41 sh_1 cf_X6 fl_X6_24 (by decide) rfl ⟨rfl, rfl⟩ rfl ⟨fun _ => rfl, fun _ => rfl⟩ (by decide) (by decide) ?_
  refine ya_aload_n dX6_init_44 rfl rfl ?_
  refine ya_bipush dX6_init_45 (by decide) ?_
  refine yb_newq (n' := 8) (cu' := 6) (su' := 46) dX6_init_47 sh_7 (m_in1 (List.mem_of_getElem? (i := 30) rfl) rfl) (by decide) (by decide) (by decide) rfl rfl rfl (Nat.le_of_ble_eq_true rfl) (Nat.le_of_ble_eq_true rfl) rfl rfl ?_
  refine ya_putF dX6_init_50 sh_1 cf_X6 fl_X6_29 (by decide) rfl ⟨rfl, rfl⟩ rfl ⟨fun _ => rfl, fun _ => rfl⟩ (by decide) (by decide) ?_
  refine ya_aload_n dX6_init_53 rfl rfl ?_
  refine ya_bipush dX6_init_54 (by decide) ?_
  refine ya_putI dX6_init_56 sh_1 cf_X6 fl_X6_33 (by decide) rfl rfl (by decide) ?_
  refine ya_iconst dX6_init_59 ?_
  refine ya_istore_n (ls' := [v_P 1, v_I 0]) dX6_init_60 rfl (Nat.le_of_ble_eq_true rfl) rfl ?_
  refine ya_iload_n dX6_init_61 rfl rfl ?_
  refine ya_bipush dX6_init_62 (by decide) ?_
  refine ya_ge_n (tgt := 86) dX6_init_64 (by decide) (by decide) ?_
  refine ya_aload_n dX6_init_67 rfl rfl ?_
  refine ya_get (x := 7) dX6_init_68 sh_1 cf_X6 fl_X6_29 (by decide) (by decide) rfl ?_
  refine ya_iload_n dX6_init_71 rfl rfl ?_
  refine yb_new (n' := 9) (cu' := 7) (su' := 54) dX6_init_72 sh_8 cf_X1 (m_in1 (List.mem_of_getElem? (i := 30) rfl) rfl) (m_in1 (List.mem_of_getElem? (i := 32) rfl) rfl) (m_in1 (List.mem_of_getElem? (i := 3) rfl) rfl) dv_X1 rfl rfl rfl (Nat.le_of_ble_eq_true rfl) (Nat.le_of_ble_eq_true rfl) rfl rfl ?_
  refine ya_dup dX6_init_75 (fun _ _ => rfl) ?_
  refine yb_callN (as := []) (st := [v_P 8, v_I 0, v_P 7]) (n' := 11) (K' := yk_e3) (cu' := 9) (su' := 66) (host := "FallClocks") dX6_init_76 mi_X1 (fun s hX => hX.2.2.1) ⟨(Nat.le_of_ble_eq_true rfl), (Nat.le_of_ble_eq_true rfl)⟩ (fun _ _ => Nat.le_of_ble_eq_true rfl) yc_X1_3 rfl rfl (Nat.le_of_ble_eq_true rfl) (Nat.le_of_ble_eq_true rfl) rfl rfl (Nat.le_of_ble_eq_true rfl) ?_
  refine yb_aast (j := 0) dX6_init_79 sh_7 sh_8 (by decide) (by decide) (by decide) rfl ?_
  refine yb_iinc (y := 1) (ls' := [v_P 1, v_I 1]) dX6_init_80 rfl (Nat.le_of_ble_eq_true rfl) (by decide) rfl ?_
  refine ya_goto (tgt := 61) dX6_init_83 (by decide) ?_
  refine ya_iload_n dX6_init_61 rfl rfl ?_
  refine ya_bipush dX6_init_62 (by decide) ?_
  refine ya_ge_n (tgt := 86) dX6_init_64 (by decide) (by decide) ?_
  refine ya_aload_n dX6_init_67 rfl rfl ?_
  refine ya_get (x := 7) dX6_init_68 sh_1 cf_X6 fl_X6_29 (by decide) (by decide) rfl ?_
  refine ya_iload_n dX6_init_71 rfl rfl ?_
  refine yb_new (n' := 12) (cu' := 10) (su' := 74) dX6_init_72 sh_11 cf_X1 (m_in1 (List.mem_of_getElem? (i := 30) rfl) rfl) (m_in1 (List.mem_of_getElem? (i := 32) rfl) rfl) (m_in1 (List.mem_of_getElem? (i := 3) rfl) rfl) dv_X1 rfl rfl rfl (Nat.le_of_ble_eq_true rfl) (Nat.le_of_ble_eq_true rfl) rfl rfl ?_
  refine ya_dup dX6_init_75 (fun _ _ => rfl) ?_
  refine yb_callN (as := []) (st := [v_P 11, v_I 1, v_P 7]) (n' := 14) (K' := yk_e4) (cu' := 12) (su' := 86) (host := "FallClocks") dX6_init_76 mi_X1 (fun s hX => hX.2.2.1) ⟨(Nat.le_of_ble_eq_true rfl), (Nat.le_of_ble_eq_true rfl)⟩ (fun _ _ => Nat.le_of_ble_eq_true rfl) yc_X1_4 rfl rfl (Nat.le_of_ble_eq_true rfl) (Nat.le_of_ble_eq_true rfl) rfl rfl (Nat.le_of_ble_eq_true rfl) ?_
  refine yb_aast (j := 1) dX6_init_79 sh_7 sh_11 (by decide) (by decide) (by decide) rfl ?_
  refine yb_iinc (y := 2) (ls' := [v_P 1, v_I 2]) dX6_init_80 rfl (Nat.le_of_ble_eq_true rfl) (by decide) rfl ?_
  refine ya_goto (tgt := 61) dX6_init_83 (by decide) ?_
  refine ya_iload_n dX6_init_61 rfl rfl ?_
  refine ya_bipush dX6_init_62 (by decide) ?_
  refine ya_ge_n (tgt := 86) dX6_init_64 (by decide) (by decide) ?_
  refine ya_aload_n dX6_init_67 rfl rfl ?_
  refine ya_get (x := 7) dX6_init_68 sh_1 cf_X6 fl_X6_29 (by decide) (by decide) rfl ?_
  refine ya_iload_n dX6_init_71 rfl rfl ?_
  refine yb_new (n' := 15) (cu' := 13) (su' := 94) dX6_init_72 sh_14 cf_X1 (m_in1 (List.mem_of_getElem? (i := 30) rfl) rfl) (m_in1 (List.mem_of_getElem? (i := 32) rfl) rfl) (m_in1 (List.mem_of_getElem? (i := 3) rfl) rfl) dv_X1 rfl rfl rfl (Nat.le_of_ble_eq_true rfl) (Nat.le_of_ble_eq_true rfl) rfl rfl ?_
  refine ya_dup dX6_init_75 (fun _ _ => rfl) ?_
  refine yb_callN (as := []) (st := [v_P 14, v_I 2, v_P 7]) (n' := 17) (K' := yk_e5) (cu' := 15) (su' := 106) (host := "FallClocks") dX6_init_76 mi_X1 (fun s hX => hX.2.2.1) ⟨(Nat.le_of_ble_eq_true rfl), (Nat.le_of_ble_eq_true rfl)⟩ (fun _ _ => Nat.le_of_ble_eq_true rfl) yc_X1_5 rfl rfl (Nat.le_of_ble_eq_true rfl) (Nat.le_of_ble_eq_true rfl) rfl rfl (Nat.le_of_ble_eq_true rfl) ?_
  refine yb_aast (j := 2) dX6_init_79 sh_7 sh_14 (by decide) (by decide) (by decide) rfl ?_
  refine yb_iinc (y := 3) (ls' := [v_P 1, v_I 3]) dX6_init_80 rfl (Nat.le_of_ble_eq_true rfl) (by decide) rfl ?_
  refine ya_goto (tgt := 61) dX6_init_83 (by decide) ?_
  refine ya_iload_n dX6_init_61 rfl rfl ?_
  refine ya_bipush dX6_init_62 (by decide) ?_
  refine ya_ge_n (tgt := 86) dX6_init_64 (by decide) (by decide) ?_
  refine ya_aload_n dX6_init_67 rfl rfl ?_
  refine ya_get (x := 7) dX6_init_68 sh_1 cf_X6 fl_X6_29 (by decide) (by decide) rfl ?_
  refine ya_iload_n dX6_init_71 rfl rfl ?_
  refine yb_new (n' := 18) (cu' := 16) (su' := 114) dX6_init_72 sh_17 cf_X1 (m_in1 (List.mem_of_getElem? (i := 30) rfl) rfl) (m_in1 (List.mem_of_getElem? (i := 32) rfl) rfl) (m_in1 (List.mem_of_getElem? (i := 3) rfl) rfl) dv_X1 rfl rfl rfl (Nat.le_of_ble_eq_true rfl) (Nat.le_of_ble_eq_true rfl) rfl rfl ?_
  refine ya_dup dX6_init_75 (fun _ _ => rfl) ?_
  refine yb_callN (as := []) (st := [v_P 17, v_I 3, v_P 7]) (n' := 20) (K' := yk_e6) (cu' := 18) (su' := 126) (host := "FallClocks") dX6_init_76 mi_X1 (fun s hX => hX.2.2.1) ⟨(Nat.le_of_ble_eq_true rfl), (Nat.le_of_ble_eq_true rfl)⟩ (fun _ _ => Nat.le_of_ble_eq_true rfl) yc_X1_6 rfl rfl (Nat.le_of_ble_eq_true rfl) (Nat.le_of_ble_eq_true rfl) rfl rfl (Nat.le_of_ble_eq_true rfl) ?_
  refine yb_aast (j := 3) dX6_init_79 sh_7 sh_17 (by decide) (by decide) (by decide) rfl ?_
  refine yb_iinc (y := 4) (ls' := [v_P 1, v_I 4]) dX6_init_80 rfl (Nat.le_of_ble_eq_true rfl) (by decide) rfl ?_
  refine ya_goto (tgt := 61) dX6_init_83 (by decide) ?_
  refine ya_iload_n dX6_init_61 rfl rfl ?_
  refine ya_bipush dX6_init_62 (by decide) ?_
  refine ya_ge_n (tgt := 86) dX6_init_64 (by decide) (by decide) ?_
  refine ya_aload_n dX6_init_67 rfl rfl ?_
  refine ya_get (x := 7) dX6_init_68 sh_1 cf_X6 fl_X6_29 (by decide) (by decide) rfl ?_
  refine ya_iload_n dX6_init_71 rfl rfl ?_
  refine yb_new (n' := 21) (cu' := 19) (su' := 134) dX6_init_72 sh_20 cf_X1 (m_in1 (List.mem_of_getElem? (i := 30) rfl) rfl) (m_in1 (List.mem_of_getElem? (i := 32) rfl) rfl) (m_in1 (List.mem_of_getElem? (i := 3) rfl) rfl) dv_X1 rfl rfl rfl (Nat.le_of_ble_eq_true rfl) (Nat.le_of_ble_eq_true rfl) rfl rfl ?_
  refine ya_dup dX6_init_75 (fun _ _ => rfl) ?_
  refine yb_callN (as := []) (st := [v_P 20, v_I 4, v_P 7]) (n' := 23) (K' := yk_e7) (cu' := 21) (su' := 146) (host := "FallClocks") dX6_init_76 mi_X1 (fun s hX => hX.2.2.1) ⟨(Nat.le_of_ble_eq_true rfl), (Nat.le_of_ble_eq_true rfl)⟩ (fun _ _ => Nat.le_of_ble_eq_true rfl) yc_X1_7 rfl rfl (Nat.le_of_ble_eq_true rfl) (Nat.le_of_ble_eq_true rfl) rfl rfl (Nat.le_of_ble_eq_true rfl) ?_
  refine yb_aast (j := 4) dX6_init_79 sh_7 sh_20 (by decide) (by decide) (by decide) rfl ?_
  refine yb_iinc (y := 5) (ls' := [v_P 1, v_I 5]) dX6_init_80 rfl (Nat.le_of_ble_eq_true rfl) (by decide) rfl ?_
  refine ya_goto (tgt := 61) dX6_init_83 (by decide) ?_
  refine ya_iload_n dX6_init_61 rfl rfl ?_
  refine ya_bipush dX6_init_62 (by decide) ?_
  refine ya_ge_n (tgt := 86) dX6_init_64 (by decide) (by decide) ?_
  refine ya_aload_n dX6_init_67 rfl rfl ?_
  refine ya_get (x := 7) dX6_init_68 sh_1 cf_X6 fl_X6_29 (by decide) (by decide) rfl ?_
  refine ya_iload_n dX6_init_71 rfl rfl ?_
  refine yb_new (n' := 24) (cu' := 22) (su' := 154) dX6_init_72 sh_23 cf_X1 (m_in1 (List.mem_of_getElem? (i := 30) rfl) rfl) (m_in1 (List.mem_of_getElem? (i := 32) rfl) rfl) (m_in1 (List.mem_of_getElem? (i := 3) rfl) rfl) dv_X1 rfl rfl rfl (Nat.le_of_ble_eq_true rfl) (Nat.le_of_ble_eq_true rfl) rfl rfl ?_
  refine ya_dup dX6_init_75 (fun _ _ => rfl) ?_
  refine yb_callN (as := []) (st := [v_P 23, v_I 5, v_P 7]) (n' := 26) (K' := yk_e8) (cu' := 24) (su' := 166) (host := "FallClocks") dX6_init_76 mi_X1 (fun s hX => hX.2.2.1) ⟨(Nat.le_of_ble_eq_true rfl), (Nat.le_of_ble_eq_true rfl)⟩ (fun _ _ => Nat.le_of_ble_eq_true rfl) yc_X1_8 rfl rfl (Nat.le_of_ble_eq_true rfl) (Nat.le_of_ble_eq_true rfl) rfl rfl (Nat.le_of_ble_eq_true rfl) ?_
  refine yb_aast (j := 5) dX6_init_79 sh_7 sh_23 (by decide) (by decide) (by decide) rfl ?_
  refine yb_iinc (y := 6) (ls' := [v_P 1, v_I 6]) dX6_init_80 rfl (Nat.le_of_ble_eq_true rfl) (by decide) rfl ?_
  refine ya_goto (tgt := 61) dX6_init_83 (by decide) ?_
  refine ya_iload_n dX6_init_61 rfl rfl ?_
  refine ya_bipush dX6_init_62 (by decide) ?_
  refine ya_ge_y (tgt := 86) dX6_init_64 (by decide) (by decide) ?_
  exact y_end
def yk_i9 : yM := (y_up yk_e2 0 0 (.inr (some 1)))
def yk_e9 : yM := (y_up (y_up (y_up yk_i9 26 0 (.inr (some 27))) 26 2 (.inr (some 28))) 26 3 (.inr (some 29)))
theorem yc_X9_9 : YC ki_X9 [v_P 26] 27 yk_i9 30 yk_e9 3 62 := by
  refine yc_intro (pcE := 28) (lsE := [v_P 26]) (by decide) rfl rfl (Nat.le_of_ble_eq_true rfl) (by simp [m_dv, Value.category]) dX9_init_28 ?_
  show Y_ ki_X9 0 [v_P 26] [] 27 yk_i9 0 0 (28, [v_P 26], 30, yk_e9, 3, 62)
  refine ya_aload_n dX9_init_0 rfl rfl ?_
  refine ya_objInit dX9_init_1 (m_in1 (List.mem_of_getElem? (i := 137) rfl) rfl) (m_in1 (List.mem_of_getElem? (i := 22) rfl) rfl) (m_in1 (List.mem_of_getElem? (i := 23) rfl) rfl) (by decide) (by decide) (fun _ _ => Nat.le_of_ble_eq_true rfl) ?_
  refine ya_aload_n dX9_init_4 rfl rfl ?_
  refine ya_bipush dX9_init_5 (by decide) ?_
  refine yb_newa (n' := 28) (cu' := 1) (su' := 50) dX9_init_7 sh_27 (m_in1 (List.mem_of_getElem? (i := 79) rfl) rfl) (by decide) (by decide) (by decide) rfl rfl rfl (Nat.le_of_ble_eq_true rfl) (Nat.le_of_ble_eq_true rfl) rfl rfl ?_
  refine ya_putF dX9_init_9 sh_26 cf_X9 fl_X9_9 (by decide) rfl ⟨rfl, rfl⟩ rfl ⟨fun _ => rfl, fun _ => rfl⟩ (by decide) (by decide) ?_
  refine ya_aload_n dX9_init_12 rfl rfl ?_
  refine ya_bipush dX9_init_13 (by decide) ?_
  refine yb_newa (n' := 29) (cu' := 2) (su' := 56) dX9_init_15 sh_28 (m_in1 (List.mem_of_getElem? (i := 79) rfl) rfl) (by decide) (by decide) (by decide) rfl rfl rfl (Nat.le_of_ble_eq_true rfl) (Nat.le_of_ble_eq_true rfl) rfl rfl ?_
  refine ya_putF dX9_init_17 sh_26 cf_X9 fl_X9_15 (by decide) rfl ⟨rfl, rfl⟩ rfl ⟨fun _ => rfl, fun _ => rfl⟩ (by decide) (by decide) ?_
  refine ya_aload_n dX9_init_20 rfl rfl ?_
  refine ya_bipush dX9_init_21 (by decide) ?_
  refine yb_newa (n' := 30) (cu' := 3) (su' := 62) dX9_init_23 sh_29 (m_in1 (List.mem_of_getElem? (i := 79) rfl) rfl) (by decide) (by decide) (by decide) rfl rfl rfl (Nat.le_of_ble_eq_true rfl) (Nat.le_of_ble_eq_true rfl) rfl rfl ?_
  refine ya_putF dX9_init_25 sh_26 cf_X9 fl_X9_18 (by decide) rfl ⟨rfl, rfl⟩ rfl ⟨fun _ => rfl, fun _ => rfl⟩ (by decide) (by decide) ?_
  exact y_end
def yk_i10 : yM := (y_up yk_e9 0 1 (.inr (some 26)))
def yk_e10 : yM := (y_up (y_up (y_up (y_rows (y_up (y_up (y_up (y_up (y_up (y_up (y_up (y_up (y_up (y_up (y_up (y_up (y_up yk_i10 30 1 (.inr (some 31))) 30 2 (.inr (some 32))) 30 3 (.inr (some 33))) 30 4 (.inr (some 34))) 30 5 (.inr (some 35))) 30 6 (.inr (some 36))) 30 7 (.inr (some 37))) 30 8 (.inr (some 38))) 30 9 (.inr (some 39))) 30 10 (.inr (some 40))) 30 11 (.inr (some 41))) 30 12 (.inr (some 42))) 30 13 (.inr (some 43))) 44 3) 30 14 (.inr (some 44))) 30 0 (.inr (some 1))) 30 15 (.inr (some 5)))
theorem yc_X4_10 : YC ki_X4 [v_P 30, v_P 1] 31 yk_i10 48 yk_e10 17 93 := by
  refine yc_intro (pcE := 128) (lsE := [v_P 30, v_P 1]) (by decide) rfl rfl (Nat.le_of_ble_eq_true rfl) (by simp [m_dv, Value.category]) dX4_init_128 ?_
  show Y_ ki_X4 0 [v_P 30, v_P 1] [] 31 yk_i10 0 0 (128, [v_P 30, v_P 1], 48, yk_e10, 17, 93)
  refine ya_aload_n dX4_init_0 rfl rfl ?_
  refine ya_objInit dX4_init_1 (m_in1 (List.mem_of_getElem? (i := 176) rfl) rfl) (m_in1 (List.mem_of_getElem? (i := 22) rfl) rfl) (m_in1 (List.mem_of_getElem? (i := 23) rfl) rfl) (by decide) (by decide) (fun _ _ => Nat.le_of_ble_eq_true rfl) ?_
  refine ya_aload_n dX4_init_4 rfl rfl ?_
  refine ya_bipush dX4_init_5 (by decide) ?_
  refine yb_newa (n' := 32) (cu' := 1) (su' := 8) dX4_init_7 sh_31 (m_in1 (List.mem_of_getElem? (i := 79) rfl) rfl) (by decide) (by decide) (by decide) rfl rfl rfl (Nat.le_of_ble_eq_true rfl) (Nat.le_of_ble_eq_true rfl) rfl rfl ?_
  refine ya_putF dX4_init_9 sh_30 cf_X4 fl_X4_9 (by decide) rfl ⟨rfl, rfl⟩ rfl ⟨fun _ => rfl, fun _ => rfl⟩ (by decide) (by decide) ?_
  refine ya_aload_n dX4_init_12 rfl rfl ?_
  refine ya_bipush dX4_init_13 (by decide) ?_
  refine yb_newa (n' := 33) (cu' := 2) (su' := 16) dX4_init_15 sh_32 (m_in1 (List.mem_of_getElem? (i := 79) rfl) rfl) (by decide) (by decide) (by decide) rfl rfl rfl (Nat.le_of_ble_eq_true rfl) (Nat.le_of_ble_eq_true rfl) rfl rfl ?_
  refine ya_putF dX4_init_17 sh_30 cf_X4 fl_X4_15 (by decide) rfl ⟨rfl, rfl⟩ rfl ⟨fun _ => rfl, fun _ => rfl⟩ (by decide) (by decide) ?_
  refine ya_aload_n dX4_init_20 rfl rfl ?_
  refine ya_bipush dX4_init_21 (by decide) ?_
  refine yb_newa (n' := 34) (cu' := 3) (su' := 24) dX4_init_23 sh_33 (m_in1 (List.mem_of_getElem? (i := 79) rfl) rfl) (by decide) (by decide) (by decide) rfl rfl rfl (Nat.le_of_ble_eq_true rfl) (Nat.le_of_ble_eq_true rfl) rfl rfl ?_
  refine ya_putF dX4_init_25 sh_30 cf_X4 fl_X4_18 (by decide) rfl ⟨rfl, rfl⟩ rfl ⟨fun _ => rfl, fun _ => rfl⟩ (by decide) (by decide) ?_
  refine ya_aload_n dX4_init_28 rfl rfl ?_
  refine ya_bipush dX4_init_29 (by decide) ?_
  refine yb_newa (n' := 35) (cu' := 4) (su' := 30) dX4_init_31 sh_34 (m_in1 (List.mem_of_getElem? (i := 79) rfl) rfl) (by decide) (by decide) (by decide) rfl rfl rfl (Nat.le_of_ble_eq_true rfl) (Nat.le_of_ble_eq_true rfl) rfl rfl ?_
  refine ya_putF dX4_init_33 sh_30 cf_X4 fl_X4_21 (by decide) rfl ⟨rfl, rfl⟩ rfl ⟨fun _ => rfl, fun _ => rfl⟩ (by decide) (by decide) ?_
  refine ya_aload_n dX4_init_36 rfl rfl ?_
  refine ya_bipush dX4_init_37 (by decide) ?_
  refine yb_newa (n' := 36) (cu' := 5) (su' := 36) dX4_init_39 sh_35 (m_in1 (List.mem_of_getElem? (i := 79) rfl) rfl) (by decide) (by decide) (by decide) rfl rfl rfl (Nat.le_of_ble_eq_true rfl) (Nat.le_of_ble_eq_true rfl) rfl rfl ?_
  refine ya_putF dX4_init_41 sh_30 cf_X4 fl_X4_24 (by decide) rfl ⟨rfl, rfl⟩ rfl ⟨fun _ => rfl, fun _ => rfl⟩ (by decide) (by decide) ?_
  refine ya_aload_n dX4_init_44 rfl rfl ?_
  refine ya_bipush dX4_init_45 (by decide) ?_
  refine yb_newa (n' := 37) (cu' := 6) (su' := 42) dX4_init_47 sh_36 (m_in1 (List.mem_of_getElem? (i := 79) rfl) rfl) (by decide) (by decide) (by decide) rfl rfl rfl (Nat.le_of_ble_eq_true rfl) (Nat.le_of_ble_eq_true rfl) rfl rfl ?_
  refine ya_putF dX4_init_49 sh_30 cf_X4 fl_X4_27 (by decide) rfl ⟨rfl, rfl⟩ rfl ⟨fun _ => rfl, fun _ => rfl⟩ (by decide) (by decide) ?_
  refine ya_aload_n dX4_init_52 rfl rfl ?_
  refine ya_bipush dX4_init_53 (by decide) ?_
  refine yb_newa (n' := 38) (cu' := 7) (su' := 48) dX4_init_55 sh_37 (m_in1 (List.mem_of_getElem? (i := 79) rfl) rfl) (by decide) (by decide) (by decide) rfl rfl rfl (Nat.le_of_ble_eq_true rfl) (Nat.le_of_ble_eq_true rfl) rfl rfl ?_
  refine ya_putF dX4_init_57 sh_30 cf_X4 fl_X4_30 (by decide) rfl ⟨rfl, rfl⟩ rfl ⟨fun _ => rfl, fun _ => rfl⟩ (by decide) (by decide) ?_
  refine ya_aload_n dX4_init_60 rfl rfl ?_
  refine ya_bipush dX4_init_61 (by decide) ?_
  refine yb_newa (n' := 39) (cu' := 8) (su' := 54) dX4_init_63 sh_38 (m_in1 (List.mem_of_getElem? (i := 79) rfl) rfl) (by decide) (by decide) (by decide) rfl rfl rfl (Nat.le_of_ble_eq_true rfl) (Nat.le_of_ble_eq_true rfl) rfl rfl ?_
  refine ya_putF dX4_init_65 sh_30 cf_X4 fl_X4_33 (by decide) rfl ⟨rfl, rfl⟩ rfl ⟨fun _ => rfl, fun _ => rfl⟩ (by decide) (by decide) ?_
  refine ya_aload_n dX4_init_68 rfl rfl ?_
  refine ya_bipush dX4_init_69 (by decide) ?_
  refine yb_newa (n' := 40) (cu' := 9) (su' := 60) dX4_init_71 sh_39 (m_in1 (List.mem_of_getElem? (i := 79) rfl) rfl) (by decide) (by decide) (by decide) rfl rfl rfl (Nat.le_of_ble_eq_true rfl) (Nat.le_of_ble_eq_true rfl) rfl rfl ?_
  refine ya_putF dX4_init_73 sh_30 cf_X4 fl_X4_36 (by decide) rfl ⟨rfl, rfl⟩ rfl ⟨fun _ => rfl, fun _ => rfl⟩ (by decide) (by decide) ?_
  refine ya_aload_n dX4_init_76 rfl rfl ?_
  refine ya_iconst dX4_init_77 ?_
  refine yb_newa (n' := 41) (cu' := 10) (su' := 63) dX4_init_78 sh_40 (m_in1 (List.mem_of_getElem? (i := 79) rfl) rfl) (by decide) (by decide) (by decide) rfl rfl rfl (Nat.le_of_ble_eq_true rfl) (Nat.le_of_ble_eq_true rfl) rfl rfl ?_
  refine ya_putF dX4_init_80 sh_30 cf_X4 fl_X4_39 (by decide) rfl ⟨rfl, rfl⟩ rfl ⟨fun _ => rfl, fun _ => rfl⟩ (by decide) (by decide) ?_
  refine ya_aload_n dX4_init_83 rfl rfl ?_
  refine ya_iconst dX4_init_84 ?_
  refine yb_newa (n' := 42) (cu' := 11) (su' := 66) dX4_init_85 sh_41 (m_in1 (List.mem_of_getElem? (i := 79) rfl) rfl) (by decide) (by decide) (by decide) rfl rfl rfl (Nat.le_of_ble_eq_true rfl) (Nat.le_of_ble_eq_true rfl) rfl rfl ?_
  refine ya_putF dX4_init_87 sh_30 cf_X4 fl_X4_42 (by decide) rfl ⟨rfl, rfl⟩ rfl ⟨fun _ => rfl, fun _ => rfl⟩ (by decide) (by decide) ?_
  refine ya_aload_n dX4_init_90 rfl rfl ?_
  refine ya_iconst dX4_init_91 ?_
  refine yb_newa (n' := 43) (cu' := 12) (su' := 69) dX4_init_92 sh_42 (m_in1 (List.mem_of_getElem? (i := 79) rfl) rfl) (by decide) (by decide) (by decide) rfl rfl rfl (Nat.le_of_ble_eq_true rfl) (Nat.le_of_ble_eq_true rfl) rfl rfl ?_
  refine ya_putF dX4_init_94 sh_30 cf_X4 fl_X4_45 (by decide) rfl ⟨rfl, rfl⟩ rfl ⟨fun _ => rfl, fun _ => rfl⟩ (by decide) (by decide) ?_
  refine ya_aload_n dX4_init_97 rfl rfl ?_
  refine ya_iconst dX4_init_98 ?_
  refine yb_newa (n' := 44) (cu' := 13) (su' := 72) dX4_init_99 sh_43 (m_in1 (List.mem_of_getElem? (i := 79) rfl) rfl) (by decide) (by decide) (by decide) rfl rfl rfl (Nat.le_of_ble_eq_true rfl) (Nat.le_of_ble_eq_true rfl) rfl rfl ?_
  refine ya_putF dX4_init_101 sh_30 cf_X4 fl_X4_48 (by decide) rfl ⟨rfl, rfl⟩ rfl ⟨fun _ => rfl, fun _ => rfl⟩ (by decide) (by decide) ?_
  refine ya_aload_n dX4_init_104 rfl rfl ?_
  refine ya_iconst dX4_init_105 ?_
  refine ya_bipush dX4_init_106 (by decide) ?_
  refine yb_mna (n' := 48) (cu' := 17) (su' := 93) (L := 6) dX4_init_108 sh_44 (by decide) (m_in1 (List.mem_of_getElem? (i := 177) rfl) rfl) (m_in1 (List.mem_of_getElem? (i := 79) rfl) rfl) (by decide) (by decide) (by decide) (by decide) (by decide) (by decide) rfl rfl rfl (Nat.le_of_ble_eq_true rfl) (Nat.le_of_ble_eq_true rfl) rfl rfl ?_
  refine ya_putF dX4_init_112 sh_30 cf_X4 fl_X4_53 (by decide) rfl ⟨rfl, rfl⟩ rfl ⟨fun _ => rfl, fun _ => rfl⟩ (by decide) (by decide) ?_
  refine ya_aload_n dX4_init_115 rfl rfl ?_
  refine ya_aload_n dX4_init_116 rfl rfl ?_
  refine ya_putF dX4_init_117 sh_30 cf_X4 fl_X4_56 (by decide) rfl ⟨rfl, rfl⟩ rfl ⟨fun _ => rfl, fun _ => rfl⟩ (by decide) (by decide) ?_
  refine ya_aload_n dX4_init_120 rfl rfl ?_
  refine ya_aload_n dX4_init_121 rfl rfl ?_
  refine ya_get (x := 5) dX4_init_122 sh_1 cf_X6 fl_X4_60 (by decide) (by decide) rfl ?_
  refine ya_putR dX4_init_125 sh_30 cf_X4 fl_X4_65 (by decide) rfl ⟨fun _ => rfl, fun _ => rfl⟩ (by decide) (by decide) ?_
  exact y_end
def yk_i11 : yM := (y_up yk_e10 0 2 (.inr (some 30)))
def yk_e11 : yM := (y_up (y_up (y_rows (y_up (y_up (y_up yk_i11 48 1 (.inr (some 49))) 48 2 (.inr (some 50))) 48 3 (.inr (some 51))) 52 7) 48 4 (.inr (some 52))) 48 0 (.inr (some 1)))
theorem yc_X5_11 : YC ki_X5 [v_P 48, v_P 1] 49 yk_i11 60 yk_e11 11 882 := by
  refine yc_intro (pcE := 44) (lsE := [v_P 48, v_P 1]) (by decide) rfl rfl (Nat.le_of_ble_eq_true rfl) (by simp [m_dv, Value.category]) dX5_init_44 ?_
  show Y_ ki_X5 0 [v_P 48, v_P 1] [] 49 yk_i11 0 0 (44, [v_P 48, v_P 1], 60, yk_e11, 11, 882)
  refine ya_aload_n dX5_init_0 rfl rfl ?_
  refine ya_objInit dX5_init_1 (m_in2 (List.mem_of_getElem? (i := 3) rfl) rfl) (m_in1 (List.mem_of_getElem? (i := 22) rfl) rfl) (m_in1 (List.mem_of_getElem? (i := 23) rfl) rfl) (by decide) (by decide) (fun _ _ => Nat.le_of_ble_eq_true rfl) ?_
  refine ya_aload_n dX5_init_4 rfl rfl ?_
  refine ya_bipush dX5_init_5 (by decide) ?_
  refine yb_newa (n' := 50) (cu' := 1) (su' := 6) dX5_init_7 sh_49 (m_in1 (List.mem_of_getElem? (i := 79) rfl) rfl) (by decide) (by decide) (by decide) rfl rfl rfl (Nat.le_of_ble_eq_true rfl) (Nat.le_of_ble_eq_true rfl) rfl rfl ?_
  refine ya_putF dX5_init_9 sh_48 cf_X5 fl_X5_9 (by decide) rfl ⟨rfl, rfl⟩ rfl ⟨fun _ => rfl, fun _ => rfl⟩ (by decide) (by decide) ?_
  refine ya_aload_n dX5_init_12 rfl rfl ?_
  refine ya_iconst dX5_init_13 ?_
  refine yb_newa (n' := 51) (cu' := 2) (su' := 11) dX5_init_14 sh_50 (m_in1 (List.mem_of_getElem? (i := 79) rfl) rfl) (by decide) (by decide) (by decide) rfl rfl rfl (Nat.le_of_ble_eq_true rfl) (Nat.le_of_ble_eq_true rfl) rfl rfl ?_
  refine ya_putF dX5_init_16 sh_48 cf_X5 fl_X5_15 (by decide) rfl ⟨rfl, rfl⟩ rfl ⟨fun _ => rfl, fun _ => rfl⟩ (by decide) (by decide) ?_
  refine ya_aload_n dX5_init_19 rfl rfl ?_
  refine ya_bipush dX5_init_20 (by decide) ?_
  refine yb_newa (n' := 52) (cu' := 3) (su' := 119) dX5_init_22 sh_51 (m_in1 (List.mem_of_getElem? (i := 79) rfl) rfl) (by decide) (by decide) (by decide) rfl rfl rfl (Nat.le_of_ble_eq_true rfl) (Nat.le_of_ble_eq_true rfl) rfl rfl ?_
  refine ya_putF dX5_init_24 sh_48 cf_X5 fl_X5_18 (by decide) rfl ⟨rfl, rfl⟩ rfl ⟨fun _ => rfl, fun _ => rfl⟩ (by decide) (by decide) ?_
  refine ya_aload_n dX5_init_27 rfl rfl ?_
  refine ya_bipush dX5_init_28 (by decide) ?_
  refine ya_bipush dX5_init_30 (by decide) ?_
  refine yb_mna (n' := 60) (cu' := 11) (su' := 882) (L := 108) dX5_init_32 sh_52 (by decide) (m_in2 (List.mem_of_getElem? (i := 4) rfl) rfl) (m_in1 (List.mem_of_getElem? (i := 79) rfl) rfl) (by decide) (by decide) (by decide) (by decide) (by decide) (by decide) rfl rfl rfl (Nat.le_of_ble_eq_true rfl) (Nat.le_of_ble_eq_true rfl) rfl rfl ?_
  refine ya_putF dX5_init_36 sh_48 cf_X5 fl_X5_23 (by decide) rfl ⟨rfl, rfl⟩ rfl ⟨fun _ => rfl, fun _ => rfl⟩ (by decide) (by decide) ?_
  refine ya_aload_n dX5_init_39 rfl rfl ?_
  refine ya_aload_n dX5_init_40 rfl rfl ?_
  refine ya_putF dX5_init_41 sh_48 cf_X5 fl_X5_26 (by decide) rfl ⟨rfl, rfl⟩ rfl ⟨fun _ => rfl, fun _ => rfl⟩ (by decide) (by decide) ?_
  exact y_end
def yk_i12 : yM := (y_up yk_e11 0 3 (.inr (some 48)))
def yk_e12 : yM := (y_up (y_up (y_up (y_up (y_up yk_i12 60 1 (.inr (some 61))) 60 2 (.inr (some 62))) 60 3 (.inr (some 63))) 60 6 (.inr (some 64))) 60 0 (.inr (some 1)))
theorem yc_X8_12 : YC ki_X8 [v_P 60, v_P 1] 61 yk_i12 65 yk_e12 4 28 := by
  refine yc_intro (pcE := 41) (lsE := [v_P 60, v_P 1]) (by decide) rfl rfl (Nat.le_of_ble_eq_true rfl) (by simp [m_dv, Value.category]) dX8_init_41 ?_
  show Y_ ki_X8 0 [v_P 60, v_P 1] [] 61 yk_i12 0 0 (41, [v_P 60, v_P 1], 65, yk_e12, 4, 28)
  refine ya_aload_n dX8_init_0 rfl rfl ?_
  refine ya_objInit dX8_init_1 (m_in2 (List.mem_of_getElem? (i := 30) rfl) rfl) (m_in1 (List.mem_of_getElem? (i := 22) rfl) rfl) (m_in1 (List.mem_of_getElem? (i := 23) rfl) rfl) (by decide) (by decide) (fun _ _ => Nat.le_of_ble_eq_true rfl) ?_
  refine ya_aload_n dX8_init_4 rfl rfl ?_
  refine ya_bipush dX8_init_5 (by decide) ?_
  refine yb_newa (n' := 62) (cu' := 1) (su' := 8) dX8_init_7 sh_61 (m_in1 (List.mem_of_getElem? (i := 79) rfl) rfl) (by decide) (by decide) (by decide) rfl rfl rfl (Nat.le_of_ble_eq_true rfl) (Nat.le_of_ble_eq_true rfl) rfl rfl ?_
  refine ya_putF dX8_init_9 sh_60 cf_X8 fl_X8_9 (by decide) rfl ⟨rfl, rfl⟩ rfl ⟨fun _ => rfl, fun _ => rfl⟩ (by decide) (by decide) ?_
  refine ya_aload_n dX8_init_12 rfl rfl ?_
  refine ya_bipush dX8_init_13 (by decide) ?_
  refine yb_newa (n' := 63) (cu' := 2) (su' := 14) dX8_init_15 sh_62 (m_in1 (List.mem_of_getElem? (i := 79) rfl) rfl) (by decide) (by decide) (by decide) rfl rfl rfl (Nat.le_of_ble_eq_true rfl) (Nat.le_of_ble_eq_true rfl) rfl rfl ?_
  refine ya_putF dX8_init_17 sh_60 cf_X8 fl_X8_15 (by decide) rfl ⟨rfl, rfl⟩ rfl ⟨fun _ => rfl, fun _ => rfl⟩ (by decide) (by decide) ?_
  refine ya_aload_n dX8_init_20 rfl rfl ?_
  refine ya_bipush dX8_init_21 (by decide) ?_
  refine yb_newa (n' := 64) (cu' := 3) (su' := 20) dX8_init_23 sh_63 (m_in1 (List.mem_of_getElem? (i := 79) rfl) rfl) (by decide) (by decide) (by decide) rfl rfl rfl (Nat.le_of_ble_eq_true rfl) (Nat.le_of_ble_eq_true rfl) rfl rfl ?_
  refine ya_putF dX8_init_25 sh_60 cf_X8 fl_X8_18 (by decide) rfl ⟨rfl, rfl⟩ rfl ⟨fun _ => rfl, fun _ => rfl⟩ (by decide) (by decide) ?_
  refine ya_aload_n dX8_init_28 rfl rfl ?_
  refine ya_bipush dX8_init_29 (by decide) ?_
  refine yb_newa (n' := 65) (cu' := 4) (su' := 28) dX8_init_31 sh_64 (m_in1 (List.mem_of_getElem? (i := 79) rfl) rfl) (by decide) (by decide) (by decide) rfl rfl rfl (Nat.le_of_ble_eq_true rfl) (Nat.le_of_ble_eq_true rfl) rfl rfl ?_
  refine ya_putF dX8_init_33 sh_60 cf_X8 fl_X8_21 (by decide) rfl ⟨rfl, rfl⟩ rfl ⟨fun _ => rfl, fun _ => rfl⟩ (by decide) (by decide) ?_
  refine ya_aload_n dX8_init_36 rfl rfl ?_
  refine ya_aload_n dX8_init_37 rfl rfl ?_
  refine ya_putF dX8_init_38 sh_60 cf_X8 fl_X8_24 (by decide) rfl ⟨rfl, rfl⟩ rfl ⟨fun _ => rfl, fun _ => rfl⟩ (by decide) (by decide) ?_
  exact y_end
def yk_i13 : yM := (y_up yk_e12 0 4 (.inr (some 60)))
def yk_e13 : yM := (y_up (y_up (y_up (y_up (y_up yk_i13 65 1 (.inr (some 66))) 65 2 (.inr (some 67))) 65 3 (.inr (some 68))) 65 6 (.inr (some 69))) 65 0 (.inr (some 1)))
theorem yc_X8_13 : YC ki_X8 [v_P 65, v_P 1] 66 yk_i13 70 yk_e13 4 28 := by
  refine yc_intro (pcE := 41) (lsE := [v_P 65, v_P 1]) (by decide) rfl rfl (Nat.le_of_ble_eq_true rfl) (by simp [m_dv, Value.category]) dX8_init_41 ?_
  show Y_ ki_X8 0 [v_P 65, v_P 1] [] 66 yk_i13 0 0 (41, [v_P 65, v_P 1], 70, yk_e13, 4, 28)
  refine ya_aload_n dX8_init_0 rfl rfl ?_
  refine ya_objInit dX8_init_1 (m_in2 (List.mem_of_getElem? (i := 30) rfl) rfl) (m_in1 (List.mem_of_getElem? (i := 22) rfl) rfl) (m_in1 (List.mem_of_getElem? (i := 23) rfl) rfl) (by decide) (by decide) (fun _ _ => Nat.le_of_ble_eq_true rfl) ?_
  refine ya_aload_n dX8_init_4 rfl rfl ?_
  refine ya_bipush dX8_init_5 (by decide) ?_
  refine yb_newa (n' := 67) (cu' := 1) (su' := 8) dX8_init_7 sh_66 (m_in1 (List.mem_of_getElem? (i := 79) rfl) rfl) (by decide) (by decide) (by decide) rfl rfl rfl (Nat.le_of_ble_eq_true rfl) (Nat.le_of_ble_eq_true rfl) rfl rfl ?_
  refine ya_putF dX8_init_9 sh_65 cf_X8 fl_X8_9 (by decide) rfl ⟨rfl, rfl⟩ rfl ⟨fun _ => rfl, fun _ => rfl⟩ (by decide) (by decide) ?_
  refine ya_aload_n dX8_init_12 rfl rfl ?_
  refine ya_bipush dX8_init_13 (by decide) ?_
  refine yb_newa (n' := 68) (cu' := 2) (su' := 14) dX8_init_15 sh_67 (m_in1 (List.mem_of_getElem? (i := 79) rfl) rfl) (by decide) (by decide) (by decide) rfl rfl rfl (Nat.le_of_ble_eq_true rfl) (Nat.le_of_ble_eq_true rfl) rfl rfl ?_
  refine ya_putF dX8_init_17 sh_65 cf_X8 fl_X8_15 (by decide) rfl ⟨rfl, rfl⟩ rfl ⟨fun _ => rfl, fun _ => rfl⟩ (by decide) (by decide) ?_
  refine ya_aload_n dX8_init_20 rfl rfl ?_
  refine ya_bipush dX8_init_21 (by decide) ?_
  refine yb_newa (n' := 69) (cu' := 3) (su' := 20) dX8_init_23 sh_68 (m_in1 (List.mem_of_getElem? (i := 79) rfl) rfl) (by decide) (by decide) (by decide) rfl rfl rfl (Nat.le_of_ble_eq_true rfl) (Nat.le_of_ble_eq_true rfl) rfl rfl ?_
  refine ya_putF dX8_init_25 sh_65 cf_X8 fl_X8_18 (by decide) rfl ⟨rfl, rfl⟩ rfl ⟨fun _ => rfl, fun _ => rfl⟩ (by decide) (by decide) ?_
  refine ya_aload_n dX8_init_28 rfl rfl ?_
  refine ya_bipush dX8_init_29 (by decide) ?_
  refine yb_newa (n' := 70) (cu' := 4) (su' := 28) dX8_init_31 sh_69 (m_in1 (List.mem_of_getElem? (i := 79) rfl) rfl) (by decide) (by decide) (by decide) rfl rfl rfl (Nat.le_of_ble_eq_true rfl) (Nat.le_of_ble_eq_true rfl) rfl rfl ?_
  refine ya_putF dX8_init_33 sh_65 cf_X8 fl_X8_21 (by decide) rfl ⟨rfl, rfl⟩ rfl ⟨fun _ => rfl, fun _ => rfl⟩ (by decide) (by decide) ?_
  refine ya_aload_n dX8_init_36 rfl rfl ?_
  refine ya_aload_n dX8_init_37 rfl rfl ?_
  refine ya_putF dX8_init_38 sh_65 cf_X8 fl_X8_24 (by decide) rfl ⟨rfl, rfl⟩ rfl ⟨fun _ => rfl, fun _ => rfl⟩ (by decide) (by decide) ?_
  exact y_end
def yk_i14 : yM := (y_up yk_e13 0 5 (.inr (some 65)))
def yk_e14 : yM := (y_up (y_up (y_up (y_up (y_up yk_i14 70 2 (.inr (some 71))) 70 3 (.inr (some 72))) 70 4 (.inr (some 73))) 70 0 (.inr (some 1))) 70 1 (.inr (some 30)))
theorem yc_X2_14 : YC ki_X2 [v_P 70, v_P 1, v_P 30] 71 yk_i14 74 yk_e14 3 18 := by
  refine yc_intro (pcE := 38) (lsE := [v_P 70, v_P 1, v_P 30]) (by decide) rfl rfl (Nat.le_of_ble_eq_true rfl) (by simp [m_dv, Value.category]) dX2_init_38 ?_
  show Y_ ki_X2 0 [v_P 70, v_P 1, v_P 30] [] 71 yk_i14 0 0 (38, [v_P 70, v_P 1, v_P 30], 74, yk_e14, 3, 18)
  refine ya_aload_n dX2_init_0 rfl rfl ?_
  refine ya_objInit dX2_init_1 (m_in2 (List.mem_of_getElem? (i := 64) rfl) rfl) (m_in1 (List.mem_of_getElem? (i := 22) rfl) rfl) (m_in1 (List.mem_of_getElem? (i := 23) rfl) rfl) (by decide) (by decide) (fun _ _ => Nat.le_of_ble_eq_true rfl) ?_
  refine ya_aload_n dX2_init_4 rfl rfl ?_
  refine ya_bipush dX2_init_5 (by decide) ?_
  refine yb_newa (n' := 72) (cu' := 1) (su' := 6) dX2_init_7 sh_71 (m_in1 (List.mem_of_getElem? (i := 79) rfl) rfl) (by decide) (by decide) (by decide) rfl rfl rfl (Nat.le_of_ble_eq_true rfl) (Nat.le_of_ble_eq_true rfl) rfl rfl ?_
  refine ya_putF dX2_init_9 sh_70 cf_X2 fl_X2_9 (by decide) rfl ⟨rfl, rfl⟩ rfl ⟨fun _ => rfl, fun _ => rfl⟩ (by decide) (by decide) ?_
  refine ya_aload_n dX2_init_12 rfl rfl ?_
  refine ya_bipush dX2_init_13 (by decide) ?_
  refine yb_newa (n' := 73) (cu' := 2) (su' := 12) dX2_init_15 sh_72 (m_in1 (List.mem_of_getElem? (i := 79) rfl) rfl) (by decide) (by decide) (by decide) rfl rfl rfl (Nat.le_of_ble_eq_true rfl) (Nat.le_of_ble_eq_true rfl) rfl rfl ?_
  refine ya_putF dX2_init_17 sh_70 cf_X2 fl_X2_15 (by decide) rfl ⟨rfl, rfl⟩ rfl ⟨fun _ => rfl, fun _ => rfl⟩ (by decide) (by decide) ?_
  refine ya_aload_n dX2_init_20 rfl rfl ?_
  refine ya_bipush dX2_init_21 (by decide) ?_
  refine yb_newa (n' := 74) (cu' := 3) (su' := 18) dX2_init_23 sh_73 (m_in1 (List.mem_of_getElem? (i := 79) rfl) rfl) (by decide) (by decide) (by decide) rfl rfl rfl (Nat.le_of_ble_eq_true rfl) (Nat.le_of_ble_eq_true rfl) rfl rfl ?_
  refine ya_putF dX2_init_25 sh_70 cf_X2 fl_X2_18 (by decide) rfl ⟨rfl, rfl⟩ rfl ⟨fun _ => rfl, fun _ => rfl⟩ (by decide) (by decide) ?_
  refine ya_aload_n dX2_init_28 rfl rfl ?_
  refine ya_aload_n dX2_init_29 rfl rfl ?_
  refine ya_putF dX2_init_30 sh_70 cf_X2 fl_X2_21 (by decide) rfl ⟨rfl, rfl⟩ rfl ⟨fun _ => rfl, fun _ => rfl⟩ (by decide) (by decide) ?_
  refine ya_aload_n dX2_init_33 rfl rfl ?_
  refine ya_aload_n dX2_init_34 rfl rfl ?_
  refine ya_putF dX2_init_35 sh_70 cf_X2 fl_X2_25 (by decide) rfl ⟨rfl, rfl⟩ rfl ⟨fun _ => rfl, fun _ => rfl⟩ (by decide) (by decide) ?_
  exact y_end
def yk_i15 : yM := (y_up yk_e14 0 6 (.inr (some 70)))
def yk_e15 : yM := (y_up (y_up (y_up yk_i15 74 0 (.inr (some 1))) 74 1 (.inr (some 48))) 74 2 (.inr (some 65)))
theorem yc_X0_15 : YC ki_X0 [v_P 74, v_P 1, v_P 48, v_P 65] 75 yk_i15 75 yk_e15 0 0 := by
  refine yc_intro (pcE := 19) (lsE := [v_P 74, v_P 1, v_P 48, v_P 65]) (by decide) rfl rfl (Nat.le_of_ble_eq_true rfl) (by simp [m_dv, Value.category]) dX0_init_19 ?_
  show Y_ ki_X0 0 [v_P 74, v_P 1, v_P 48, v_P 65] [] 75 yk_i15 0 0 (19, [v_P 74, v_P 1, v_P 48, v_P 65], 75, yk_e15, 0, 0)
  refine ya_aload_n dX0_init_0 rfl rfl ?_
  refine ya_objInit dX0_init_1 (m_in2 (List.mem_of_getElem? (i := 100) rfl) rfl) (m_in1 (List.mem_of_getElem? (i := 22) rfl) rfl) (m_in1 (List.mem_of_getElem? (i := 23) rfl) rfl) (by decide) (by decide) (fun _ _ => Nat.le_of_ble_eq_true rfl) ?_
  refine ya_aload_n dX0_init_4 rfl rfl ?_
  refine ya_aload_n dX0_init_5 rfl rfl ?_
  refine ya_putF dX0_init_6 sh_74 cf_X0 fl_X0_9 (by decide) rfl ⟨rfl, rfl⟩ rfl ⟨fun _ => rfl, fun _ => rfl⟩ (by decide) (by decide) ?_
  refine ya_aload_n dX0_init_9 rfl rfl ?_
  refine ya_aload_n dX0_init_10 rfl rfl ?_
  refine ya_putF dX0_init_11 sh_74 cf_X0 fl_X0_15 (by decide) rfl ⟨rfl, rfl⟩ rfl ⟨fun _ => rfl, fun _ => rfl⟩ (by decide) (by decide) ?_
  refine ya_aload_n dX0_init_14 rfl rfl ?_
  refine ya_aload_n dX0_init_15 rfl rfl ?_
  refine ya_putF dX0_init_16 sh_74 cf_X0 fl_X0_19 (by decide) rfl ⟨rfl, rfl⟩ rfl ⟨fun _ => rfl, fun _ => rfl⟩ (by decide) (by decide) ?_
  exact y_end
def yk_i16 : yM := (y_up yk_e15 0 7 (.inr (some 74)))
def yk_e16 : yM := (y_up (y_up (y_up (y_up yk_i16 75 1 (.inr (some 76))) 75 3 (.inr (some 77))) 75 4 (.inr (some 78))) 75 0 (.inr (some 30)))
theorem yc_X7_16 : YC ki_X7 [v_P 75, v_P 30] 76 yk_i16 79 yk_e16 3 19 := by
  refine yc_intro (pcE := 32) (lsE := [v_P 75, v_P 30]) (by decide) rfl rfl (Nat.le_of_ble_eq_true rfl) (by simp [m_dv, Value.category]) dX7_init_32 ?_
  show Y_ ki_X7 0 [v_P 75, v_P 30] [] 76 yk_i16 0 0 (32, [v_P 75, v_P 30], 79, yk_e16, 3, 19)
  refine ya_aload_n dX7_init_0 rfl rfl ?_
  refine ya_objInit dX7_init_1 (m_in2 (List.mem_of_getElem? (i := 124) rfl) rfl) (m_in1 (List.mem_of_getElem? (i := 22) rfl) rfl) (m_in1 (List.mem_of_getElem? (i := 23) rfl) rfl) (by decide) (by decide) (fun _ _ => Nat.le_of_ble_eq_true rfl) ?_
  refine ya_aload_n dX7_init_4 rfl rfl ?_
  refine ya_bipush dX7_init_5 (by decide) ?_
  refine yb_newa (n' := 77) (cu' := 1) (su' := 8) dX7_init_7 sh_76 (m_in1 (List.mem_of_getElem? (i := 79) rfl) rfl) (by decide) (by decide) (by decide) rfl rfl rfl (Nat.le_of_ble_eq_true rfl) (Nat.le_of_ble_eq_true rfl) rfl rfl ?_
  refine ya_putF dX7_init_9 sh_75 cf_X7 fl_X7_9 (by decide) rfl ⟨rfl, rfl⟩ rfl ⟨fun _ => rfl, fun _ => rfl⟩ (by decide) (by decide) ?_
  refine ya_aload_n dX7_init_12 rfl rfl ?_
  refine ya_bipush dX7_init_13 (by decide) ?_
  refine yb_newa (n' := 78) (cu' := 2) (su' := 16) dX7_init_15 sh_77 (m_in1 (List.mem_of_getElem? (i := 79) rfl) rfl) (by decide) (by decide) (by decide) rfl rfl rfl (Nat.le_of_ble_eq_true rfl) (Nat.le_of_ble_eq_true rfl) rfl rfl ?_
  refine ya_putF dX7_init_17 sh_75 cf_X7 fl_X7_15 (by decide) rfl ⟨rfl, rfl⟩ rfl ⟨fun _ => rfl, fun _ => rfl⟩ (by decide) (by decide) ?_
  refine ya_aload_n dX7_init_20 rfl rfl ?_
  refine ya_iconst dX7_init_21 ?_
  refine yb_newa (n' := 79) (cu' := 3) (su' := 19) dX7_init_22 sh_78 (m_in1 (List.mem_of_getElem? (i := 79) rfl) rfl) (by decide) (by decide) (by decide) rfl rfl rfl (Nat.le_of_ble_eq_true rfl) (Nat.le_of_ble_eq_true rfl) rfl rfl ?_
  refine ya_putF dX7_init_24 sh_75 cf_X7 fl_X7_18 (by decide) rfl ⟨rfl, rfl⟩ rfl ⟨fun _ => rfl, fun _ => rfl⟩ (by decide) (by decide) ?_
  refine ya_aload_n dX7_init_27 rfl rfl ?_
  refine ya_aload_n dX7_init_28 rfl rfl ?_
  refine ya_putF dX7_init_29 sh_75 cf_X7 fl_X7_21 (by decide) rfl ⟨rfl, rfl⟩ rfl ⟨fun _ => rfl, fun _ => rfl⟩ (by decide) (by decide) ?_
  exact y_end
def yk_e1 : yM := (y_up yk_e16 0 8 (.inr (some 75)))
theorem yc_X10_1 : YC ki_X10 [v_P 0] 1 yk_i1 79 yk_e1 78 1370 := by
  refine yc_intro (pcE := 143) (lsE := [v_P 0]) (by decide) rfl rfl (Nat.le_of_ble_eq_true rfl) (by simp [m_dv, Value.category]) dX10_init_143 ?_
  show Y_ ki_X10 0 [v_P 0] [] 1 yk_i1 0 0 (143, [v_P 0], 79, yk_e1, 78, 1370)
  refine ya_aload_n dX10_init_0 rfl rfl ?_
  refine ya_objInit dX10_init_1 (m_in1 (List.mem_of_getElem? (i := 21) rfl) rfl) (m_in1 (List.mem_of_getElem? (i := 22) rfl) rfl) (m_in1 (List.mem_of_getElem? (i := 23) rfl) rfl) (by decide) (by decide) (fun _ _ => Nat.le_of_ble_eq_true rfl) ?_
  refine ya_aload_n dX10_init_4 rfl rfl ?_
  refine yb_new (n' := 2) (cu' := 1) (su' := 9) dX10_init_5 sh_1 cf_X6 (m_in1 (List.mem_of_getElem? (i := 24) rfl) rfl) (m_in1 (List.mem_of_getElem? (i := 25) rfl) rfl) (m_in1 (List.mem_of_getElem? (i := 2) rfl) rfl) dv_X6 rfl rfl rfl (Nat.le_of_ble_eq_true rfl) (Nat.le_of_ble_eq_true rfl) rfl rfl ?_
  refine ya_dup dX10_init_8 (fun _ _ => rfl) ?_
  refine yb_call (as := []) (st := [v_P 1, v_P 0]) (n' := 26) (K' := yk_e2) (cu' := 25) (su' := 175) dX10_init_9 mi_X6 (m_in1 (List.mem_of_getElem? (i := 26) rfl) rfl) ⟨(Nat.le_of_ble_eq_true rfl), (Nat.le_of_ble_eq_true rfl)⟩ (fun _ _ => Nat.le_of_ble_eq_true rfl) yc_X6_2 rfl rfl (Nat.le_of_ble_eq_true rfl) (Nat.le_of_ble_eq_true rfl) rfl rfl (Nat.le_of_ble_eq_true rfl) ?_
  refine ya_putF dX10_init_12 sh_0 cf_X10 fl_X10_10 (by decide) rfl ⟨rfl, rfl⟩ rfl ⟨fun _ => rfl, fun _ => rfl⟩ (by decide) (by decide) ?_
  refine ya_aload_n dX10_init_15 rfl rfl ?_
  refine yb_new (n' := 27) (cu' := 26) (su' := 184) dX10_init_16 sh_26 cf_X9 (m_in1 (List.mem_of_getElem? (i := 132) rfl) rfl) (m_in1 (List.mem_of_getElem? (i := 133) rfl) rfl) (m_in1 (List.mem_of_getElem? (i := 4) rfl) rfl) dv_X9 rfl rfl rfl (Nat.le_of_ble_eq_true rfl) (Nat.le_of_ble_eq_true rfl) rfl rfl ?_
  refine ya_dup dX10_init_19 (fun _ _ => rfl) ?_
  refine yb_callN (as := []) (st := [v_P 26, v_P 0]) (n' := 30) (K' := yk_e9) (cu' := 29) (su' := 246) (host := "FallClocks") dX10_init_20 mi_X9 (fun s hX => hX.2.2.2) ⟨(Nat.le_of_ble_eq_true rfl), (Nat.le_of_ble_eq_true rfl)⟩ (fun _ _ => Nat.le_of_ble_eq_true rfl) yc_X9_9 rfl rfl (Nat.le_of_ble_eq_true rfl) (Nat.le_of_ble_eq_true rfl) rfl rfl (Nat.le_of_ble_eq_true rfl) ?_
  refine ya_putF dX10_init_23 sh_0 cf_X10 fl_X10_19 (by decide) rfl ⟨rfl, rfl⟩ rfl ⟨fun _ => rfl, fun _ => rfl⟩ (by decide) (by decide) ?_
  refine ya_aload_n dX10_init_26 rfl rfl ?_
  refine yb_new (n' := 31) (cu' := 30) (su' := 263) dX10_init_27 sh_30 cf_X4 (m_in1 (List.mem_of_getElem? (i := 171) rfl) rfl) (m_in1 (List.mem_of_getElem? (i := 172) rfl) rfl) (m_in1 (List.mem_of_getElem? (i := 5) rfl) rfl) dv_X4 rfl rfl rfl (Nat.le_of_ble_eq_true rfl) (Nat.le_of_ble_eq_true rfl) rfl rfl ?_
  refine ya_dup dX10_init_30 (fun _ _ => rfl) ?_
  refine ya_aload_n dX10_init_31 rfl rfl ?_
  refine ya_get (x := 1) dX10_init_32 sh_0 cf_X10 fl_X10_10 (by decide) (by decide) rfl ?_
  refine yb_call (as := [v_P 1]) (st := [v_P 30, v_P 0]) (n' := 48) (K' := yk_e10) (cu' := 47) (su' := 356) dX10_init_35 mi_X4 (m_in1 (List.mem_of_getElem? (i := 173) rfl) rfl) ⟨(Nat.le_of_ble_eq_true rfl), (Nat.le_of_ble_eq_true rfl)⟩ (fun _ _ => Nat.le_of_ble_eq_true rfl) yc_X4_10 rfl rfl (Nat.le_of_ble_eq_true rfl) (Nat.le_of_ble_eq_true rfl) rfl rfl (Nat.le_of_ble_eq_true rfl) ?_
  refine ya_putF dX10_init_38 sh_0 cf_X10 fl_X10_28 (by decide) rfl ⟨rfl, rfl⟩ rfl ⟨fun _ => rfl, fun _ => rfl⟩ (by decide) (by decide) ?_
  refine ya_aload_n dX10_init_41 rfl rfl ?_
  refine yb_new (n' := 49) (cu' := 48) (su' := 362) dX10_init_42 sh_48 cf_X5 (m_in1 (List.mem_of_getElem? (i := 238) rfl) rfl) (m_in1 (List.mem_of_getElem? (i := 239) rfl) rfl) (m_in1 (List.mem_of_getElem? (i := 6) rfl) rfl) dv_X5 rfl rfl rfl (Nat.le_of_ble_eq_true rfl) (Nat.le_of_ble_eq_true rfl) rfl rfl ?_
  refine ya_dup dX10_init_45 (fun _ _ => rfl) ?_
  refine ya_aload_n dX10_init_46 rfl rfl ?_
  refine ya_get (x := 1) dX10_init_47 sh_0 cf_X10 fl_X10_10 (by decide) (by decide) rfl ?_
  refine yb_call (as := [v_P 1]) (st := [v_P 48, v_P 0]) (n' := 60) (K' := yk_e11) (cu' := 59) (su' := 1244) dX10_init_50 mi_X5 (m_in2 (List.mem_of_getElem? (i := 0) rfl) rfl) ⟨(Nat.le_of_ble_eq_true rfl), (Nat.le_of_ble_eq_true rfl)⟩ (fun _ _ => Nat.le_of_ble_eq_true rfl) yc_X5_11 rfl rfl (Nat.le_of_ble_eq_true rfl) (Nat.le_of_ble_eq_true rfl) rfl rfl (Nat.le_of_ble_eq_true rfl) ?_
  refine ya_putF dX10_init_53 sh_0 cf_X10 fl_X10_35 (by decide) rfl ⟨rfl, rfl⟩ rfl ⟨fun _ => rfl, fun _ => rfl⟩ (by decide) (by decide) ?_
  refine ya_aload_n dX10_init_56 rfl rfl ?_
  refine yb_new (n' := 61) (cu' := 60) (su' := 1251) dX10_init_57 sh_60 cf_X8 (m_in2 (List.mem_of_getElem? (i := 25) rfl) rfl) (m_in2 (List.mem_of_getElem? (i := 26) rfl) rfl) (m_in1 (List.mem_of_getElem? (i := 7) rfl) rfl) dv_X8 rfl rfl rfl (Nat.le_of_ble_eq_true rfl) (Nat.le_of_ble_eq_true rfl) rfl rfl ?_
  refine ya_dup dX10_init_60 (fun _ _ => rfl) ?_
  refine ya_aload_n dX10_init_61 rfl rfl ?_
  refine ya_get (x := 1) dX10_init_62 sh_0 cf_X10 fl_X10_10 (by decide) (by decide) rfl ?_
  refine yb_call (as := [v_P 1]) (st := [v_P 60, v_P 0]) (n' := 65) (K' := yk_e12) (cu' := 64) (su' := 1279) dX10_init_65 mi_X8 (m_in2 (List.mem_of_getElem? (i := 27) rfl) rfl) ⟨(Nat.le_of_ble_eq_true rfl), (Nat.le_of_ble_eq_true rfl)⟩ (fun _ _ => Nat.le_of_ble_eq_true rfl) yc_X8_12 rfl rfl (Nat.le_of_ble_eq_true rfl) (Nat.le_of_ble_eq_true rfl) rfl rfl (Nat.le_of_ble_eq_true rfl) ?_
  refine ya_putF dX10_init_68 sh_0 cf_X10 fl_X10_42 (by decide) rfl ⟨rfl, rfl⟩ rfl ⟨fun _ => rfl, fun _ => rfl⟩ (by decide) (by decide) ?_
  refine ya_aload_n dX10_init_71 rfl rfl ?_
  refine yb_new (n' := 66) (cu' := 65) (su' := 1286) dX10_init_72 sh_65 cf_X8 (m_in2 (List.mem_of_getElem? (i := 25) rfl) rfl) (m_in2 (List.mem_of_getElem? (i := 26) rfl) rfl) (m_in1 (List.mem_of_getElem? (i := 7) rfl) rfl) dv_X8 rfl rfl rfl (Nat.le_of_ble_eq_true rfl) (Nat.le_of_ble_eq_true rfl) rfl rfl ?_
  refine ya_dup dX10_init_75 (fun _ _ => rfl) ?_
  refine ya_aload_n dX10_init_76 rfl rfl ?_
  refine ya_get (x := 1) dX10_init_77 sh_0 cf_X10 fl_X10_10 (by decide) (by decide) rfl ?_
  refine yb_call (as := [v_P 1]) (st := [v_P 65, v_P 0]) (n' := 70) (K' := yk_e13) (cu' := 69) (su' := 1314) dX10_init_80 mi_X8 (m_in2 (List.mem_of_getElem? (i := 27) rfl) rfl) ⟨(Nat.le_of_ble_eq_true rfl), (Nat.le_of_ble_eq_true rfl)⟩ (fun _ _ => Nat.le_of_ble_eq_true rfl) yc_X8_13 rfl rfl (Nat.le_of_ble_eq_true rfl) (Nat.le_of_ble_eq_true rfl) rfl rfl (Nat.le_of_ble_eq_true rfl) ?_
  refine ya_putF dX10_init_83 sh_0 cf_X10 fl_X10_46 (by decide) rfl ⟨rfl, rfl⟩ rfl ⟨fun _ => rfl, fun _ => rfl⟩ (by decide) (by decide) ?_
  refine ya_aload_n dX10_init_86 rfl rfl ?_
  refine yb_new (n' := 71) (cu' := 70) (su' := 1322) dX10_init_87 sh_70 cf_X2 (m_in2 (List.mem_of_getElem? (i := 59) rfl) rfl) (m_in2 (List.mem_of_getElem? (i := 60) rfl) rfl) (m_in1 (List.mem_of_getElem? (i := 8) rfl) rfl) dv_X2 rfl rfl rfl (Nat.le_of_ble_eq_true rfl) (Nat.le_of_ble_eq_true rfl) rfl rfl ?_
  refine ya_dup dX10_init_90 (fun _ _ => rfl) ?_
  refine ya_aload_n dX10_init_91 rfl rfl ?_
  refine ya_get (x := 1) dX10_init_92 sh_0 cf_X10 fl_X10_10 (by decide) (by decide) rfl ?_
  refine ya_aload_n dX10_init_95 rfl rfl ?_
  refine ya_get (x := 30) dX10_init_96 sh_0 cf_X10 fl_X10_28 (by decide) (by decide) rfl ?_
  refine yb_call (as := [v_P 1, v_P 30]) (st := [v_P 70, v_P 0]) (n' := 74) (K' := yk_e14) (cu' := 73) (su' := 1340) dX10_init_99 mi_X2 (m_in2 (List.mem_of_getElem? (i := 61) rfl) rfl) ⟨(Nat.le_of_ble_eq_true rfl), (Nat.le_of_ble_eq_true rfl)⟩ (fun _ _ => Nat.le_of_ble_eq_true rfl) yc_X2_14 rfl rfl (Nat.le_of_ble_eq_true rfl) (Nat.le_of_ble_eq_true rfl) rfl rfl (Nat.le_of_ble_eq_true rfl) ?_
  refine ya_putF dX10_init_102 sh_0 cf_X10 fl_X10_54 (by decide) rfl ⟨rfl, rfl⟩ rfl ⟨fun _ => rfl, fun _ => rfl⟩ (by decide) (by decide) ?_
  refine ya_aload_n dX10_init_105 rfl rfl ?_
  refine yb_new (n' := 75) (cu' := 74) (su' := 1345) dX10_init_106 sh_74 cf_X0 (m_in2 (List.mem_of_getElem? (i := 95) rfl) rfl) (m_in2 (List.mem_of_getElem? (i := 96) rfl) rfl) (m_in1 (List.mem_of_getElem? (i := 9) rfl) rfl) dv_X0 rfl rfl rfl (Nat.le_of_ble_eq_true rfl) (Nat.le_of_ble_eq_true rfl) rfl rfl ?_
  refine ya_dup dX10_init_109 (fun _ _ => rfl) ?_
  refine ya_aload_n dX10_init_110 rfl rfl ?_
  refine ya_get (x := 1) dX10_init_111 sh_0 cf_X10 fl_X10_10 (by decide) (by decide) rfl ?_
  refine ya_aload_n dX10_init_114 rfl rfl ?_
  refine ya_get (x := 48) dX10_init_115 sh_0 cf_X10 fl_X10_35 (by decide) (by decide) rfl ?_
  refine ya_aload_n dX10_init_118 rfl rfl ?_
  refine ya_get (x := 65) dX10_init_119 sh_0 cf_X10 fl_X10_46 (by decide) (by decide) rfl ?_
  refine yb_call (as := [v_P 1, v_P 48, v_P 65]) (st := [v_P 74, v_P 0]) (n' := 75) (K' := yk_e15) (cu' := 74) (su' := 1345) dX10_init_122 mi_X0 (m_in2 (List.mem_of_getElem? (i := 97) rfl) rfl) ⟨(Nat.le_of_ble_eq_true rfl), (Nat.le_of_ble_eq_true rfl)⟩ (fun _ _ => Nat.le_of_ble_eq_true rfl) yc_X0_15 rfl rfl (Nat.le_of_ble_eq_true rfl) (Nat.le_of_ble_eq_true rfl) rfl rfl (Nat.le_of_ble_eq_true rfl) ?_
  refine ya_putF dX10_init_125 sh_0 cf_X10 fl_X10_63 (by decide) rfl ⟨rfl, rfl⟩ rfl ⟨fun _ => rfl, fun _ => rfl⟩ (by decide) (by decide) ?_
  refine ya_aload_n dX10_init_128 rfl rfl ?_
  refine yb_new (n' := 76) (cu' := 75) (su' := 1351) dX10_init_129 sh_75 cf_X7 (m_in2 (List.mem_of_getElem? (i := 119) rfl) rfl) (m_in2 (List.mem_of_getElem? (i := 120) rfl) rfl) (m_in1 (List.mem_of_getElem? (i := 10) rfl) rfl) dv_X7 rfl rfl rfl (Nat.le_of_ble_eq_true rfl) (Nat.le_of_ble_eq_true rfl) rfl rfl ?_
  refine ya_dup dX10_init_132 (fun _ _ => rfl) ?_
  refine ya_aload_n dX10_init_133 rfl rfl ?_
  refine ya_get (x := 30) dX10_init_134 sh_0 cf_X10 fl_X10_28 (by decide) (by decide) rfl ?_
  refine yb_call (as := [v_P 30]) (st := [v_P 75, v_P 0]) (n' := 79) (K' := yk_e16) (cu' := 78) (su' := 1370) dX10_init_137 mi_X7 (m_in2 (List.mem_of_getElem? (i := 121) rfl) rfl) ⟨(Nat.le_of_ble_eq_true rfl), (Nat.le_of_ble_eq_true rfl)⟩ (fun _ _ => Nat.le_of_ble_eq_true rfl) yc_X7_16 rfl rfl (Nat.le_of_ble_eq_true rfl) (Nat.le_of_ble_eq_true rfl) rfl rfl (Nat.le_of_ble_eq_true rfl) ?_
  refine ya_putF dX10_init_140 sh_0 cf_X10 fl_X10_72 (by decide) rfl ⟨rfl, rfl⟩ rfl ⟨fun _ => rfl, fun _ => rfl⟩ (by decide) (by decide) ?_
  exact y_end
def yk_i17 : yM := yk_e1
def yk_e17 : yM := (y_up (y_up (y_up (y_up (y_up (y_up (y_up (y_up (y_up (y_up (y_up (y_up (y_up (y_up (y_up (y_up (y_up (y_up (y_up (y_up (y_up (y_up (y_up (y_up (y_up (y_up (y_up (y_up (y_up (y_up (y_up (y_up yk_i17 79 0 (.inr (some 80))) 79 1 (.inr (some 81))) 79 2 (.inr (some 82))) 79 3 (.inr (some 83))) 79 5 (.inr (some 84))) 79 6 (.inr (some 85))) 79 7 (.inr (some 86))) 79 10 (.inr (some 87))) 79 12 (.inr (some 88))) 79 13 (.inr (some 89))) 79 14 (.inr (some 90))) 79 15 (.inr (some 91))) 79 16 (.inr (some 92))) 79 17 (.inr (some 93))) 79 18 (.inr (some 94))) 79 19 (.inr (some 95))) 79 20 (.inr (some 96))) 79 21 (.inr (some 97))) 79 22 (.inr (some 98))) 79 23 (.inr (some 99))) 79 24 (.inr (some 100))) 79 25 (.inr (some 101))) 79 26 (.inr (some 102))) 79 27 (.inr (some 103))) 79 29 (.inr (some 104))) 79 30 (.inr (some 105))) 79 31 (.inr (some 106))) 79 34 (.inr (some 107))) 79 35 (.inr (some 108))) 79 37 (.inr (some 109))) 79 38 (.inr (some 110))) 79 9 (.inl 100))
theorem yc_X11_17 : YC ki_X11 [v_P 79] 80 yk_i17 111 yk_e17 31 3790 := by
  refine yc_intro (pcE := 259) (lsE := [v_P 79]) (by decide) rfl rfl (Nat.le_of_ble_eq_true rfl) (by simp [m_dv, Value.category]) dX11_init_259 ?_
  show Y_ ki_X11 0 [v_P 79] [] 80 yk_i17 0 0 (259, [v_P 79], 111, yk_e17, 31, 3790)
  refine ya_aload_n dX11_init_0 rfl rfl ?_
  refine ya_objInit dX11_init_1 (m_in4 (List.mem_of_getElem? (i := 115) rfl) rfl) (m_in1 (List.mem_of_getElem? (i := 22) rfl) rfl) (m_in1 (List.mem_of_getElem? (i := 23) rfl) rfl) (by decide) (by decide) (fun _ _ => Nat.le_of_ble_eq_true rfl) ?_
  refine ya_aload_n dX11_init_4 rfl rfl ?_
  refine ya_bipush dX11_init_5 (by decide) ?_
  refine yb_newa (n' := 81) (cu' := 1) (su' := 8) dX11_init_7 sh_80 (m_in1 (List.mem_of_getElem? (i := 79) rfl) rfl) (by decide) (by decide) (by decide) rfl rfl rfl (Nat.le_of_ble_eq_true rfl) (Nat.le_of_ble_eq_true rfl) rfl rfl ?_
  refine ya_putF dX11_init_9 sh_79 cf_X11 fl_X11_7 (by decide) rfl ⟨rfl, rfl⟩ rfl ⟨fun _ => rfl, fun _ => rfl⟩ (by decide) (by decide) ?_
  refine ya_aload_n dX11_init_12 rfl rfl ?_
  refine ya_bipush dX11_init_13 (by decide) ?_
  refine yb_newa (n' := 82) (cu' := 2) (su' := 16) dX11_init_15 sh_81 (m_in1 (List.mem_of_getElem? (i := 79) rfl) rfl) (by decide) (by decide) (by decide) rfl rfl rfl (Nat.le_of_ble_eq_true rfl) (Nat.le_of_ble_eq_true rfl) rfl rfl ?_
  refine ya_putF dX11_init_17 sh_79 cf_X11 fl_X11_13 (by decide) rfl ⟨rfl, rfl⟩ rfl ⟨fun _ => rfl, fun _ => rfl⟩ (by decide) (by decide) ?_
  refine ya_aload_n dX11_init_20 rfl rfl ?_
  refine ya_bipush dX11_init_21 (by decide) ?_
  refine yb_newa (n' := 83) (cu' := 3) (su' := 24) dX11_init_23 sh_82 (m_in1 (List.mem_of_getElem? (i := 79) rfl) rfl) (by decide) (by decide) (by decide) rfl rfl rfl (Nat.le_of_ble_eq_true rfl) (Nat.le_of_ble_eq_true rfl) rfl rfl ?_
  refine ya_putF dX11_init_25 sh_79 cf_X11 fl_X11_16 (by decide) rfl ⟨rfl, rfl⟩ rfl ⟨fun _ => rfl, fun _ => rfl⟩ (by decide) (by decide) ?_
  refine ya_aload_n dX11_init_28 rfl rfl ?_
  refine ya_bipush dX11_init_29 (by decide) ?_
  refine yb_newa (n' := 84) (cu' := 4) (su' := 32) dX11_init_31 sh_83 (m_in1 (List.mem_of_getElem? (i := 79) rfl) rfl) (by decide) (by decide) (by decide) rfl rfl rfl (Nat.le_of_ble_eq_true rfl) (Nat.le_of_ble_eq_true rfl) rfl rfl ?_
  refine ya_putF dX11_init_33 sh_79 cf_X11 fl_X11_19 (by decide) rfl ⟨rfl, rfl⟩ rfl ⟨fun _ => rfl, fun _ => rfl⟩ (by decide) (by decide) ?_
  refine ya_aload_n dX11_init_36 rfl rfl ?_
  refine ya_bipush dX11_init_37 (by decide) ?_
  refine yb_newa (n' := 85) (cu' := 5) (su' := 38) dX11_init_39 sh_84 (m_in1 (List.mem_of_getElem? (i := 79) rfl) rfl) (by decide) (by decide) (by decide) rfl rfl rfl (Nat.le_of_ble_eq_true rfl) (Nat.le_of_ble_eq_true rfl) rfl rfl ?_
  refine ya_putF dX11_init_41 sh_79 cf_X11 fl_X11_22 (by decide) rfl ⟨rfl, rfl⟩ rfl ⟨fun _ => rfl, fun _ => rfl⟩ (by decide) (by decide) ?_
  refine ya_aload_n dX11_init_44 rfl rfl ?_
  refine ya_bipush dX11_init_45 (by decide) ?_
  refine yb_newa (n' := 86) (cu' := 6) (su' := 44) dX11_init_47 sh_85 (m_in1 (List.mem_of_getElem? (i := 79) rfl) rfl) (by decide) (by decide) (by decide) rfl rfl rfl (Nat.le_of_ble_eq_true rfl) (Nat.le_of_ble_eq_true rfl) rfl rfl ?_
  refine ya_putF dX11_init_49 sh_79 cf_X11 fl_X11_25 (by decide) rfl ⟨rfl, rfl⟩ rfl ⟨fun _ => rfl, fun _ => rfl⟩ (by decide) (by decide) ?_
  refine ya_aload_n dX11_init_52 rfl rfl ?_
  refine ya_bipush dX11_init_53 (by decide) ?_
  refine yb_newa (n' := 87) (cu' := 7) (su' := 50) dX11_init_55 sh_86 (m_in1 (List.mem_of_getElem? (i := 79) rfl) rfl) (by decide) (by decide) (by decide) rfl rfl rfl (Nat.le_of_ble_eq_true rfl) (Nat.le_of_ble_eq_true rfl) rfl rfl ?_
  refine ya_putF dX11_init_57 sh_79 cf_X11 fl_X11_28 (by decide) rfl ⟨rfl, rfl⟩ rfl ⟨fun _ => rfl, fun _ => rfl⟩ (by decide) (by decide) ?_
  refine ya_aload_n dX11_init_60 rfl rfl ?_
  refine ya_bipush dX11_init_61 (by decide) ?_
  refine yb_newa (n' := 88) (cu' := 8) (su' := 100) dX11_init_63 sh_87 (m_in1 (List.mem_of_getElem? (i := 79) rfl) rfl) (by decide) (by decide) (by decide) rfl rfl rfl (Nat.le_of_ble_eq_true rfl) (Nat.le_of_ble_eq_true rfl) rfl rfl ?_
  refine ya_putF dX11_init_65 sh_79 cf_X11 fl_X11_31 (by decide) rfl ⟨rfl, rfl⟩ rfl ⟨fun _ => rfl, fun _ => rfl⟩ (by decide) (by decide) ?_
  refine ya_aload_n dX11_init_68 rfl rfl ?_
  refine ya_sipush dX11_init_69 (by decide) ?_
  refine yb_newa (n' := 89) (cu' := 9) (su' := 280) dX11_init_72 sh_88 (m_in1 (List.mem_of_getElem? (i := 79) rfl) rfl) (by decide) (by decide) (by decide) rfl rfl rfl (Nat.le_of_ble_eq_true rfl) (Nat.le_of_ble_eq_true rfl) rfl rfl ?_
  refine ya_putF dX11_init_74 sh_79 cf_X11 fl_X11_34 (by decide) rfl ⟨rfl, rfl⟩ rfl ⟨fun _ => rfl, fun _ => rfl⟩ (by decide) (by decide) ?_
  refine ya_aload_n dX11_init_77 rfl rfl ?_
  refine ya_bipush dX11_init_78 (by decide) ?_
  refine yb_newa (n' := 90) (cu' := 10) (su' := 316) dX11_init_80 sh_89 (m_in1 (List.mem_of_getElem? (i := 79) rfl) rfl) (by decide) (by decide) (by decide) rfl rfl rfl (Nat.le_of_ble_eq_true rfl) (Nat.le_of_ble_eq_true rfl) rfl rfl ?_
  refine ya_putF dX11_init_82 sh_79 cf_X11 fl_X11_37 (by decide) rfl ⟨rfl, rfl⟩ rfl ⟨fun _ => rfl, fun _ => rfl⟩ (by decide) (by decide) ?_
  refine ya_aload_n dX11_init_85 rfl rfl ?_
  refine ya_bipush dX11_init_86 (by decide) ?_
  refine yb_newa (n' := 91) (cu' := 11) (su' := 322) dX11_init_88 sh_90 (m_in1 (List.mem_of_getElem? (i := 79) rfl) rfl) (by decide) (by decide) (by decide) rfl rfl rfl (Nat.le_of_ble_eq_true rfl) (Nat.le_of_ble_eq_true rfl) rfl rfl ?_
  refine ya_putF dX11_init_90 sh_79 cf_X11 fl_X11_40 (by decide) rfl ⟨rfl, rfl⟩ rfl ⟨fun _ => rfl, fun _ => rfl⟩ (by decide) (by decide) ?_
  refine ya_aload_n dX11_init_93 rfl rfl ?_
  refine ya_bipush dX11_init_94 (by decide) ?_
  refine yb_newa (n' := 92) (cu' := 12) (su' := 328) dX11_init_96 sh_91 (m_in1 (List.mem_of_getElem? (i := 79) rfl) rfl) (by decide) (by decide) (by decide) rfl rfl rfl (Nat.le_of_ble_eq_true rfl) (Nat.le_of_ble_eq_true rfl) rfl rfl ?_
  refine ya_putF dX11_init_98 sh_79 cf_X11 fl_X11_43 (by decide) rfl ⟨rfl, rfl⟩ rfl ⟨fun _ => rfl, fun _ => rfl⟩ (by decide) (by decide) ?_
  refine ya_aload_n dX11_init_101 rfl rfl ?_
  refine ya_sipush dX11_init_102 (by decide) ?_
  refine yb_newa (n' := 93) (cu' := 13) (su' := 1864) dX11_init_105 sh_92 (m_in1 (List.mem_of_getElem? (i := 79) rfl) rfl) (by decide) (by decide) (by decide) rfl rfl rfl (Nat.le_of_ble_eq_true rfl) (Nat.le_of_ble_eq_true rfl) rfl rfl ?_
  refine ya_putF dX11_init_107 sh_79 cf_X11 fl_X11_46 (by decide) rfl ⟨rfl, rfl⟩ rfl ⟨fun _ => rfl, fun _ => rfl⟩ (by decide) (by decide) ?_
  refine ya_aload_n dX11_init_110 rfl rfl ?_
  refine ya_bipush dX11_init_111 (by decide) ?_
  refine yb_newa (n' := 94) (cu' := 14) (su' := 1872) dX11_init_113 sh_93 (m_in1 (List.mem_of_getElem? (i := 79) rfl) rfl) (by decide) (by decide) (by decide) rfl rfl rfl (Nat.le_of_ble_eq_true rfl) (Nat.le_of_ble_eq_true rfl) rfl rfl ?_
  refine ya_putF dX11_init_115 sh_79 cf_X11 fl_X11_49 (by decide) rfl ⟨rfl, rfl⟩ rfl ⟨fun _ => rfl, fun _ => rfl⟩ (by decide) (by decide) ?_
  refine ya_aload_n dX11_init_118 rfl rfl ?_
  refine ya_bipush dX11_init_119 (by decide) ?_
  refine yb_newa (n' := 95) (cu' := 15) (su' := 1880) dX11_init_121 sh_94 (m_in1 (List.mem_of_getElem? (i := 79) rfl) rfl) (by decide) (by decide) (by decide) rfl rfl rfl (Nat.le_of_ble_eq_true rfl) (Nat.le_of_ble_eq_true rfl) rfl rfl ?_
  refine ya_putF dX11_init_123 sh_79 cf_X11 fl_X11_52 (by decide) rfl ⟨rfl, rfl⟩ rfl ⟨fun _ => rfl, fun _ => rfl⟩ (by decide) (by decide) ?_
  refine ya_aload_n dX11_init_126 rfl rfl ?_
  refine ya_bipush dX11_init_127 (by decide) ?_
  refine yb_newa (n' := 96) (cu' := 16) (su' := 1888) dX11_init_129 sh_95 (m_in1 (List.mem_of_getElem? (i := 79) rfl) rfl) (by decide) (by decide) (by decide) rfl rfl rfl (Nat.le_of_ble_eq_true rfl) (Nat.le_of_ble_eq_true rfl) rfl rfl ?_
  refine ya_putF dX11_init_131 sh_79 cf_X11 fl_X11_55 (by decide) rfl ⟨rfl, rfl⟩ rfl ⟨fun _ => rfl, fun _ => rfl⟩ (by decide) (by decide) ?_
  refine ya_aload_n dX11_init_134 rfl rfl ?_
  refine ya_bipush dX11_init_135 (by decide) ?_
  refine yb_newa (n' := 97) (cu' := 17) (su' := 1894) dX11_init_137 sh_96 (m_in1 (List.mem_of_getElem? (i := 79) rfl) rfl) (by decide) (by decide) (by decide) rfl rfl rfl (Nat.le_of_ble_eq_true rfl) (Nat.le_of_ble_eq_true rfl) rfl rfl ?_
  refine ya_putF dX11_init_139 sh_79 cf_X11 fl_X11_58 (by decide) rfl ⟨rfl, rfl⟩ rfl ⟨fun _ => rfl, fun _ => rfl⟩ (by decide) (by decide) ?_
  refine ya_aload_n dX11_init_142 rfl rfl ?_
  refine ya_bipush dX11_init_143 (by decide) ?_
  refine yb_newa (n' := 98) (cu' := 18) (su' := 1900) dX11_init_145 sh_97 (m_in1 (List.mem_of_getElem? (i := 79) rfl) rfl) (by decide) (by decide) (by decide) rfl rfl rfl (Nat.le_of_ble_eq_true rfl) (Nat.le_of_ble_eq_true rfl) rfl rfl ?_
  refine ya_putF dX11_init_147 sh_79 cf_X11 fl_X11_61 (by decide) rfl ⟨rfl, rfl⟩ rfl ⟨fun _ => rfl, fun _ => rfl⟩ (by decide) (by decide) ?_
  refine ya_aload_n dX11_init_150 rfl rfl ?_
  refine ya_iconst dX11_init_151 ?_
  refine yb_newa (n' := 99) (cu' := 19) (su' := 1903) dX11_init_152 sh_98 (m_in1 (List.mem_of_getElem? (i := 79) rfl) rfl) (by decide) (by decide) (by decide) rfl rfl rfl (Nat.le_of_ble_eq_true rfl) (Nat.le_of_ble_eq_true rfl) rfl rfl ?_
  refine ya_putF dX11_init_154 sh_79 cf_X11 fl_X11_64 (by decide) rfl ⟨rfl, rfl⟩ rfl ⟨fun _ => rfl, fun _ => rfl⟩ (by decide) (by decide) ?_
  refine ya_aload_n dX11_init_157 rfl rfl ?_
  refine ya_iconst dX11_init_158 ?_
  refine yb_newa (n' := 100) (cu' := 20) (su' := 1906) dX11_init_159 sh_99 (m_in1 (List.mem_of_getElem? (i := 79) rfl) rfl) (by decide) (by decide) (by decide) rfl rfl rfl (Nat.le_of_ble_eq_true rfl) (Nat.le_of_ble_eq_true rfl) rfl rfl ?_
  refine ya_putF dX11_init_161 sh_79 cf_X11 fl_X11_67 (by decide) rfl ⟨rfl, rfl⟩ rfl ⟨fun _ => rfl, fun _ => rfl⟩ (by decide) (by decide) ?_
  refine ya_aload_n dX11_init_164 rfl rfl ?_
  refine ya_sipush dX11_init_165 (by decide) ?_
  refine yb_newa (n' := 101) (cu' := 21) (su' := 3698) dX11_init_168 sh_100 (m_in1 (List.mem_of_getElem? (i := 79) rfl) rfl) (by decide) (by decide) (by decide) rfl rfl rfl (Nat.le_of_ble_eq_true rfl) (Nat.le_of_ble_eq_true rfl) rfl rfl ?_
  refine ya_putF dX11_init_170 sh_79 cf_X11 fl_X11_70 (by decide) rfl ⟨rfl, rfl⟩ rfl ⟨fun _ => rfl, fun _ => rfl⟩ (by decide) (by decide) ?_
  refine ya_aload_n dX11_init_173 rfl rfl ?_
  refine ya_bipush dX11_init_174 (by decide) ?_
  refine yb_newa (n' := 102) (cu' := 22) (su' := 3706) dX11_init_176 sh_101 (m_in1 (List.mem_of_getElem? (i := 79) rfl) rfl) (by decide) (by decide) (by decide) rfl rfl rfl (Nat.le_of_ble_eq_true rfl) (Nat.le_of_ble_eq_true rfl) rfl rfl ?_
  refine ya_putF dX11_init_178 sh_79 cf_X11 fl_X11_73 (by decide) rfl ⟨rfl, rfl⟩ rfl ⟨fun _ => rfl, fun _ => rfl⟩ (by decide) (by decide) ?_
  refine ya_aload_n dX11_init_181 rfl rfl ?_
  refine ya_bipush dX11_init_182 (by decide) ?_
  refine yb_newa (n' := 103) (cu' := 23) (su' := 3714) dX11_init_184 sh_102 (m_in1 (List.mem_of_getElem? (i := 79) rfl) rfl) (by decide) (by decide) (by decide) rfl rfl rfl (Nat.le_of_ble_eq_true rfl) (Nat.le_of_ble_eq_true rfl) rfl rfl ?_
  refine ya_putF dX11_init_186 sh_79 cf_X11 fl_X11_76 (by decide) rfl ⟨rfl, rfl⟩ rfl ⟨fun _ => rfl, fun _ => rfl⟩ (by decide) (by decide) ?_
  refine ya_aload_n dX11_init_189 rfl rfl ?_
  refine ya_bipush dX11_init_190 (by decide) ?_
  refine yb_newa (n' := 104) (cu' := 24) (su' := 3720) dX11_init_192 sh_103 (m_in1 (List.mem_of_getElem? (i := 79) rfl) rfl) (by decide) (by decide) (by decide) rfl rfl rfl (Nat.le_of_ble_eq_true rfl) (Nat.le_of_ble_eq_true rfl) rfl rfl ?_
  refine ya_putF dX11_init_194 sh_79 cf_X11 fl_X11_79 (by decide) rfl ⟨rfl, rfl⟩ rfl ⟨fun _ => rfl, fun _ => rfl⟩ (by decide) (by decide) ?_
  refine ya_aload_n dX11_init_197 rfl rfl ?_
  refine ya_bipush dX11_init_198 (by decide) ?_
  refine yb_newa (n' := 105) (cu' := 25) (su' := 3728) dX11_init_200 sh_104 (m_in1 (List.mem_of_getElem? (i := 79) rfl) rfl) (by decide) (by decide) (by decide) rfl rfl rfl (Nat.le_of_ble_eq_true rfl) (Nat.le_of_ble_eq_true rfl) rfl rfl ?_
  refine ya_putF dX11_init_202 sh_79 cf_X11 fl_X11_82 (by decide) rfl ⟨rfl, rfl⟩ rfl ⟨fun _ => rfl, fun _ => rfl⟩ (by decide) (by decide) ?_
  refine ya_aload_n dX11_init_205 rfl rfl ?_
  refine ya_bipush dX11_init_206 (by decide) ?_
  refine yb_newa (n' := 106) (cu' := 26) (su' := 3736) dX11_init_208 sh_105 (m_in1 (List.mem_of_getElem? (i := 79) rfl) rfl) (by decide) (by decide) (by decide) rfl rfl rfl (Nat.le_of_ble_eq_true rfl) (Nat.le_of_ble_eq_true rfl) rfl rfl ?_
  refine ya_putF dX11_init_210 sh_79 cf_X11 fl_X11_85 (by decide) rfl ⟨rfl, rfl⟩ rfl ⟨fun _ => rfl, fun _ => rfl⟩ (by decide) (by decide) ?_
  refine ya_aload_n dX11_init_213 rfl rfl ?_
  refine ya_bipush dX11_init_214 (by decide) ?_
  refine yb_newa (n' := 107) (cu' := 27) (su' := 3744) dX11_init_216 sh_106 (m_in1 (List.mem_of_getElem? (i := 79) rfl) rfl) (by decide) (by decide) (by decide) rfl rfl rfl (Nat.le_of_ble_eq_true rfl) (Nat.le_of_ble_eq_true rfl) rfl rfl ?_
  refine ya_putF dX11_init_218 sh_79 cf_X11 fl_X11_88 (by decide) rfl ⟨rfl, rfl⟩ rfl ⟨fun _ => rfl, fun _ => rfl⟩ (by decide) (by decide) ?_
  refine ya_aload_n dX11_init_221 rfl rfl ?_
  refine ya_bipush dX11_init_222 (by decide) ?_
  refine yb_newa (n' := 108) (cu' := 28) (su' := 3750) dX11_init_224 sh_107 (m_in1 (List.mem_of_getElem? (i := 79) rfl) rfl) (by decide) (by decide) (by decide) rfl rfl rfl (Nat.le_of_ble_eq_true rfl) (Nat.le_of_ble_eq_true rfl) rfl rfl ?_
  refine ya_putF dX11_init_226 sh_79 cf_X11 fl_X11_91 (by decide) rfl ⟨rfl, rfl⟩ rfl ⟨fun _ => rfl, fun _ => rfl⟩ (by decide) (by decide) ?_
  refine ya_aload_n dX11_init_229 rfl rfl ?_
  refine ya_bipush dX11_init_230 (by decide) ?_
  refine yb_newa (n' := 109) (cu' := 29) (su' := 3758) dX11_init_232 sh_108 (m_in1 (List.mem_of_getElem? (i := 79) rfl) rfl) (by decide) (by decide) (by decide) rfl rfl rfl (Nat.le_of_ble_eq_true rfl) (Nat.le_of_ble_eq_true rfl) rfl rfl ?_
  refine ya_putF dX11_init_234 sh_79 cf_X11 fl_X11_94 (by decide) rfl ⟨rfl, rfl⟩ rfl ⟨fun _ => rfl, fun _ => rfl⟩ (by decide) (by decide) ?_
  refine ya_aload_n dX11_init_237 rfl rfl ?_
  refine ya_bipush dX11_init_238 (by decide) ?_
  refine yb_newa (n' := 110) (cu' := 30) (su' := 3782) dX11_init_240 sh_109 (m_in1 (List.mem_of_getElem? (i := 79) rfl) rfl) (by decide) (by decide) (by decide) rfl rfl rfl (Nat.le_of_ble_eq_true rfl) (Nat.le_of_ble_eq_true rfl) rfl rfl ?_
  refine ya_putF dX11_init_242 sh_79 cf_X11 fl_X11_97 (by decide) rfl ⟨rfl, rfl⟩ rfl ⟨fun _ => rfl, fun _ => rfl⟩ (by decide) (by decide) ?_
  refine ya_aload_n dX11_init_245 rfl rfl ?_
  refine ya_bipush dX11_init_246 (by decide) ?_
  refine yb_newa (n' := 111) (cu' := 31) (su' := 3790) dX11_init_248 sh_110 (m_in1 (List.mem_of_getElem? (i := 79) rfl) rfl) (by decide) (by decide) (by decide) rfl rfl rfl (Nat.le_of_ble_eq_true rfl) (Nat.le_of_ble_eq_true rfl) rfl rfl ?_
  refine ya_putF dX11_init_250 sh_79 cf_X11 fl_X11_100 (by decide) rfl ⟨rfl, rfl⟩ rfl ⟨fun _ => rfl, fun _ => rfl⟩ (by decide) (by decide) ?_
  refine ya_aload_n dX11_init_253 rfl rfl ?_
  refine ya_bipush dX11_init_254 (by decide) ?_
  refine ya_putI dX11_init_256 sh_79 cf_X11 fl_X11_103 (by decide) rfl rfl (by decide) ?_
  exact y_end
def yk_end : yM := yk_e17
theorem law_start {L : Nat} {xs : Nat → Int} : Y_ (kk_L_law L xs) 0 [v_S, v_U, v_U, v_U] [] 0 y_def 0 0 (18, [v_S, v_P 0, v_P 79, v_I 0], 111, yk_end, 111, 5208) := by
  refine yb_new (n' := 1) (cu' := 1) (su' := 9) dL_law_0 sh_0 cf_X10 (m_in1 (List.mem_of_getElem? (i := 16) rfl) rfl) (m_in1 (List.mem_of_getElem? (i := 17) rfl) rfl) (m_in1 (List.mem_of_getElem? (i := 1) rfl) rfl) dv_X10 rfl rfl rfl (Nat.le_of_ble_eq_true rfl) (Nat.le_of_ble_eq_true rfl) rfl rfl ?_
  refine ya_dup dL_law_3 (fun _ _ => rfl) ?_
  refine yb_call (as := []) (st := [v_P 0]) (n' := 79) (K' := yk_e1) (cu' := 79) (su' := 1379) dL_law_4 mi_X10 (m_in1 (List.mem_of_getElem? (i := 18) rfl) rfl) ⟨(Nat.le_of_ble_eq_true rfl), (Nat.le_of_ble_eq_true rfl)⟩ (fun _ _ => Nat.le_of_ble_eq_true rfl) yc_X10_1 rfl rfl (Nat.le_of_ble_eq_true rfl) (Nat.le_of_ble_eq_true rfl) rfl rfl (Nat.le_of_ble_eq_true rfl) ?_
  refine ya_astore_n (ls' := [v_S, v_P 0, v_U, v_U]) dL_law_7 rfl (Nat.le_of_ble_eq_true rfl) rfl ?_
  refine yb_new (n' := 80) (cu' := 80) (su' := 1418) dL_law_8 sh_79 cf_X11 (m_in4 (List.mem_of_getElem? (i := 110) rfl) rfl) (m_in4 (List.mem_of_getElem? (i := 111) rfl) rfl) (m_in1 (List.mem_of_getElem? (i := 11) rfl) rfl) dv_X11 rfl rfl rfl (Nat.le_of_ble_eq_true rfl) (Nat.le_of_ble_eq_true rfl) rfl rfl ?_
  refine ya_dup dL_law_11 (fun _ _ => rfl) ?_
  refine yb_call (as := []) (st := [v_P 79]) (n' := 111) (K' := yk_e17) (cu' := 111) (su' := 5208) dL_law_12 mi_X11 (m_in4 (List.mem_of_getElem? (i := 112) rfl) rfl) ⟨(Nat.le_of_ble_eq_true rfl), (Nat.le_of_ble_eq_true rfl)⟩ (fun _ _ => Nat.le_of_ble_eq_true rfl) yc_X11_17 rfl rfl (Nat.le_of_ble_eq_true rfl) (Nat.le_of_ble_eq_true rfl) rfl rfl (Nat.le_of_ble_eq_true rfl) ?_
  refine ya_astore_n (ls' := [v_S, v_P 0, v_P 79, v_U]) dL_law_15 rfl (Nat.le_of_ble_eq_true rfl) rfl ?_
  refine ya_iconst dL_law_16 ?_
  refine ya_istore_n (ls' := [v_S, v_P 0, v_P 79, v_I 0]) dL_law_17 rfl (Nat.le_of_ble_eq_true rfl) rfl ?_
  exact y_end
