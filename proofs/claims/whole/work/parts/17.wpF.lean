theorem wp_X0_find_0 {M : mM} {Q : Int → mM → Prop} (h : ((M 74 4) = 0 → ∃ Qc1 : Int → mM → Prop, C_ kk_X6_alternatives [v_P 1] M Qc1 ∧ ∀ (r2 : Int) (M3 : mM), m_ir r2 → m_okM M3 → Qc1 r2 M3 → ∃ Qc8 : Int → mM → Prop, C_ kk_X0_leftAlready [v_P 74] M3 Qc8 ∧ ∀ (r9 : Int) (M10 : mM), m_ir r9 → m_okM M10 → Qc8 r9 M10 → X_ kk_X0_find 34 [v_P 74, v_I (min r2 8), v_I r9, v_I 0, v_U] [] (m_up M10 74 3 (-6)) Q) ∧ (¬ (M 74 4) = 0 → Q 0 M)) : X_ kk_X0_find 0 [v_P 74, v_U, v_U, v_U, v_U] [] M Q := by
  refine x_aload_n dX0_find_0 rfl rfl ?_
  refine x_getI dX0_find_1 sh_74 cf_X0 fl_X0_23 (by decide) (by decide) ?_
  refine x_if_eq (tgt := 8) dX0_find_4 (by decide) (fun hc => ?_) (fun hc => ?_)
  · replace h := h.1 hc
    refine x_aload_n dX0_find_8 rfl rfl ?_
    refine y_getP dX0_find_9 sh_74 cf_X0 fl_X0_9 (by decide) (by decide) gg_74_0 ?_
    obtain ⟨Qc1, hc4, h⟩ := h
    refine x_callV (as := []) (st := []) (Qc := Qc1) dX0_find_12 mt_X6_alternatives ml_X0_27 ⟨by decide, by decide⟩ sh_1 rfl (fun _ _ => Nat.le_of_ble_eq_true rfl) hc4 (fun r2 M3 hr5 hM6 hq7 => ?_)
    replace h := h r2 M3 hr5 hM6 hq7
    change X_ kk_X0_find 15 [v_P 74, v_U, v_U, v_U, v_U] [v_I r2] M3 Q
    refine x_bipush dX0_find_15 (by decide) (by decide) ?_
    refine x_min (st := []) dX0_find_17 ml_X0_33 ⟨by decide, by decide⟩ (fun _ _ => Nat.le_of_ble_eq_true rfl) ?_
    change X_ kk_X0_find 20 [v_P 74, v_U, v_U, v_U, v_U] [v_I (min r2 8)] M3 Q
    refine y_istore_n (ls' := [v_P 74, v_I (min r2 8), v_U, v_U, v_U]) dX0_find_20 rfl (by decide) rfl ?_
    refine x_aload_n dX0_find_21 rfl rfl ?_
    obtain ⟨Qc8, hc11, h⟩ := h
    refine x_callV (as := []) (st := []) (Qc := Qc8) dX0_find_22 mt_X0_leftAlready ml_X0_39 ⟨by decide, by decide⟩ sh_74 rfl (fun _ _ => Nat.le_of_ble_eq_true rfl) hc11 (fun r9 M10 hr12 hM13 hq14 => ?_)
    replace h := h r9 M10 hr12 hM13 hq14
    change X_ kk_X0_find 25 [v_P 74, v_I (min r2 8), v_U, v_U, v_U] [v_I r9] M10 Q
    refine y_istore_n (ls' := [v_P 74, v_I (min r2 8), v_I r9, v_U, v_U]) dX0_find_25 rfl (by decide) rfl ?_
    refine x_aload_n dX0_find_26 rfl rfl ?_
    refine x_bipush dX0_find_27 (by decide) (by decide) ?_
    refine x_putI dX0_find_29 sh_74 cf_X0 fl_X0_42 (by decide) rfl (by decide) (Or.inl rfl) ?_
    refine x_iconst dX0_find_32 (by decide) ?_
    refine y_istore_n (ls' := [v_P 74, v_I (min r2 8), v_I r9, v_I 0, v_U]) dX0_find_33 rfl (by decide) rfl ?_
    exact h
  · replace h := h.2 hc
    refine x_ret dX0_find_7 rfl (fun _ => h)
theorem wp_X0_find_34 {x1 x2 x3 : Int} {M : mM} {Q : Int → mM → Prop} (h : (x1 < x3 → ∃ Qc1 : Int → mM → Prop, C_ kk_X0_leaveOut [v_P 74, v_I 0] M Qc1 ∧ ∀ (r2 : Int) (M3 : mM), m_ir r2 → m_okM M3 → Qc1 r2 M3 → Q 0 (m_up M3 74 4 1)) ∧ (¬ x1 < x3 → (0 ≤ (M 74 3) → ∃ Qc8 : Int → mM → Prop, C_ kk_X0_leaveOut [v_P 74, v_I 0] M Qc8 ∧ ∀ (r9 : Int) (M10 : mM), m_ir r9 → m_okM M10 → Qc8 r9 M10 → Q 0 (m_up M10 74 4 1)) ∧ (¬ 0 ≤ (M 74 3) → X_ kk_X0_find 49 [v_P 74, v_I x1, v_I x2, v_I x3, v_I 0] [] M Q))) : X_ kk_X0_find 34 [v_P 74, v_I x1, v_I x2, v_I x3, v_U] [] M Q := by
  refine x_iload_n dX0_find_34 rfl rfl ?_
  refine x_iload_n dX0_find_35 rfl rfl ?_
  refine x_ic_gt (tgt := 107) dX0_find_36 (by decide) (fun hc => ?_) (fun hc => ?_)
  · replace h := h.1 hc
    refine x_aload_n dX0_find_107 rfl rfl ?_
    refine x_iconst dX0_find_108 (by decide) ?_
    obtain ⟨Qc1, hc4, h⟩ := h
    refine x_callV (as := [v_I 0]) (st := []) (Qc := Qc1) dX0_find_109 mt_X0_leaveOut ml_X0_56 ⟨by decide, by decide⟩ sh_74 rfl (fun _ _ => Nat.le_of_ble_eq_true rfl) hc4 (fun r2 M3 hr5 hM6 hq7 => ?_)
    replace h := h r2 M3 hr5 hM6 hq7
    change X_ kk_X0_find 112 [v_P 74, v_I x1, v_I x2, v_I x3, v_U] [] M3 Q
    refine x_aload_n dX0_find_112 rfl rfl ?_
    refine x_iconst dX0_find_113 (by decide) ?_
    refine x_putI dX0_find_114 sh_74 cf_X0 fl_X0_23 (by decide) rfl (by decide) (Or.inr ⟨rfl, Or.inr rfl⟩) ?_
    refine x_ret dX0_find_117 rfl (fun _ => h)
  · replace h := h.2 hc
    refine x_aload_n dX0_find_39 rfl rfl ?_
    refine x_getI dX0_find_40 sh_74 cf_X0 fl_X0_42 (by decide) (by decide) ?_
    refine x_if_ge (tgt := 107) dX0_find_43 (by decide) (fun hc => ?_) (fun hc => ?_)
    · replace h := h.1 hc
      refine x_aload_n dX0_find_107 rfl rfl ?_
      refine x_iconst dX0_find_108 (by decide) ?_
      obtain ⟨Qc8, hc11, h⟩ := h
      refine x_callV (as := [v_I 0]) (st := []) (Qc := Qc8) dX0_find_109 mt_X0_leaveOut ml_X0_56 ⟨by decide, by decide⟩ sh_74 rfl (fun _ _ => Nat.le_of_ble_eq_true rfl) hc11 (fun r9 M10 hr12 hM13 hq14 => ?_)
      replace h := h r9 M10 hr12 hM13 hq14
      change X_ kk_X0_find 112 [v_P 74, v_I x1, v_I x2, v_I x3, v_U] [] M10 Q
      refine x_aload_n dX0_find_112 rfl rfl ?_
      refine x_iconst dX0_find_113 (by decide) ?_
      refine x_putI dX0_find_114 sh_74 cf_X0 fl_X0_23 (by decide) rfl (by decide) (Or.inr ⟨rfl, Or.inr rfl⟩) ?_
      refine x_ret dX0_find_117 rfl (fun _ => h)
    · replace h := h.2 hc
      refine x_iconst dX0_find_46 (by decide) ?_
      refine y_istore (ls' := [v_P 74, v_I x1, v_I x2, v_I x3, v_I 0]) dX0_find_47 (by decide) rfl ?_
      exact h
theorem wp_X0_find_49 {x1 x2 x3 x4 : Int} {M : mM} {Q : Int → mM → Prop} (h : ((m_shl 1 x1) ≤ x4 → (m_ir (x3 + 1)) ∧ X_ kk_X0_find 34 [v_P 74, v_I x1, v_I x2, v_I (x3 + 1), v_U] [] M Q) ∧ (¬ (m_shl 1 x1) ≤ x4 → (0 ≤ (M 74 3) → (m_ir (x3 + 1)) ∧ X_ kk_X0_find 34 [v_P 74, v_I x1, v_I x2, v_I (x3 + 1), v_U] [] M Q) ∧ (¬ 0 ≤ (M 74 3) → ∃ Qc3 : Int → mM → Prop, C_ kk_J6_bitCount_0f7a4 [v_I x4] M Qc3 ∧ ∀ (r4 : Int) (M5 : mM), m_ir r4 → m_okM M5 → Qc3 r4 M5 → (¬ r4 = x3 → (m_ir (x4 + 1)) ∧ X_ kk_X0_find 49 [v_P 74, v_I x1, v_I x2, v_I x3, v_I (x4 + 1)] [] M5 Q) ∧ (r4 = x3 → (¬ (m_and x4 x2) = 0 → (m_ir (x4 + 1)) ∧ X_ kk_X0_find 49 [v_P 74, v_I x1, v_I x2, v_I x3, v_I (x4 + 1)] [] M5 Q) ∧ ((m_and x4 x2) = 0 → ∃ Qc12 : Int → mM → Prop, C_ kk_X0_endsFair [v_P 74, v_I x4] M5 Qc12 ∧ ∀ (r13 : Int) (M14 : mM), m_ir r13 → m_okM M14 → Qc12 r13 M14 → (r13 = 0 → (m_ir (x4 + 1)) ∧ X_ kk_X0_find 49 [v_P 74, v_I x1, v_I x2, v_I x3, v_I (x4 + 1)] [] M14 Q) ∧ (¬ r13 = 0 → (m_ir (x4 + 1)) ∧ X_ kk_X0_find 49 [v_P 74, v_I x1, v_I x2, v_I x3, v_I (x4 + 1)] [] (m_up M14 74 3 x4) Q)))))) : X_ kk_X0_find 49 [v_P 74, v_I x1, v_I x2, v_I x3, v_I x4] [] M Q := by
  refine x_iload dX0_find_49 rfl ?_
  refine x_iconst dX0_find_51 (by decide) ?_
  refine x_iload_n dX0_find_52 rfl rfl ?_
  refine x_ishl dX0_find_53 ?_
  refine x_ic_ge (tgt := 101) dX0_find_54 (by decide) (fun hc => ?_) (fun hc => ?_)
  · replace h := h.1 hc
    obtain ⟨s1, h⟩ := h
    refine y_iinc (ls' := [v_P 74, v_I x1, v_I x2, v_I (x3 + 1), v_I x4]) dX0_find_101 rfl s1 (by decide) rfl ?_
    refine x_goto (tgt := 34) dX0_find_104 (by decide) ?_
    refine y_forget 4 (ls' := [v_P 74, v_I x1, v_I x2, v_I (x3 + 1), v_U]) rfl ?_
    exact h
  · replace h := h.2 hc
    refine x_aload_n dX0_find_57 rfl rfl ?_
    refine x_getI dX0_find_58 sh_74 cf_X0 fl_X0_42 (by decide) (by decide) ?_
    refine x_if_ge (tgt := 101) dX0_find_61 (by decide) (fun hc => ?_) (fun hc => ?_)
    · replace h := h.1 hc
      obtain ⟨s2, h⟩ := h
      refine y_iinc (ls' := [v_P 74, v_I x1, v_I x2, v_I (x3 + 1), v_I x4]) dX0_find_101 rfl s2 (by decide) rfl ?_
      refine x_goto (tgt := 34) dX0_find_104 (by decide) ?_
      refine y_forget 4 (ls' := [v_P 74, v_I x1, v_I x2, v_I (x3 + 1), v_U]) rfl ?_
      exact h
    · replace h := h.2 hc
      refine x_iload dX0_find_64 rfl ?_
      obtain ⟨Qc3, hc6, h⟩ := h
      refine x_callS (as := [v_I x4]) (st := []) (Qc := Qc3) dX0_find_66 mt_J6_bitCount_0f7a4 ml_X0_46 ⟨by decide, by decide⟩ (fun _ _ => Nat.le_of_ble_eq_true rfl) hc6 (fun r4 M5 hr7 hM8 hq9 => ?_)
      replace h := h r4 M5 hr7 hM8 hq9
      change X_ kk_X0_find 69 [v_P 74, v_I x1, v_I x2, v_I x3, v_I x4] [v_I r4] M5 Q
      refine x_iload_n dX0_find_69 rfl rfl ?_
      refine x_ic_ne (tgt := 95) dX0_find_70 (by decide) (fun hc => ?_) (fun hc => ?_)
      · replace h := h.1 hc
        obtain ⟨s10, h⟩ := h
        refine y_iinc (ls' := [v_P 74, v_I x1, v_I x2, v_I x3, v_I (x4 + 1)]) dX0_find_95 rfl s10 (by decide) rfl ?_
        refine x_goto (tgt := 49) dX0_find_98 (by decide) ?_
        exact h
      · replace h := h.2 hc
        refine x_iload dX0_find_73 rfl ?_
        refine x_iload_n dX0_find_75 rfl rfl ?_
        refine x_iand dX0_find_76 ?_
        refine x_if_ne (tgt := 95) dX0_find_77 (by decide) (fun hc => ?_) (fun hc => ?_)
        · replace h := h.1 hc
          obtain ⟨s11, h⟩ := h
          refine y_iinc (ls' := [v_P 74, v_I x1, v_I x2, v_I x3, v_I (x4 + 1)]) dX0_find_95 rfl s11 (by decide) rfl ?_
          refine x_goto (tgt := 49) dX0_find_98 (by decide) ?_
          exact h
        · replace h := h.2 hc
          refine x_aload_n dX0_find_80 rfl rfl ?_
          refine x_iload dX0_find_81 rfl ?_
          obtain ⟨Qc12, hc15, h⟩ := h
          refine x_callV (as := [v_I x4]) (st := []) (Qc := Qc12) dX0_find_83 mt_X0_endsFair ml_X0_52 ⟨by decide, by decide⟩ sh_74 rfl (fun _ _ => Nat.le_of_ble_eq_true rfl) hc15 (fun r13 M14 hr16 hM17 hq18 => ?_)
          replace h := h r13 M14 hr16 hM17 hq18
          change X_ kk_X0_find 86 [v_P 74, v_I x1, v_I x2, v_I x3, v_I x4] [v_I r13] M14 Q
          refine x_if_eq (tgt := 95) dX0_find_86 (by decide) (fun hc => ?_) (fun hc => ?_)
          · replace h := h.1 hc
            obtain ⟨s19, h⟩ := h
            refine y_iinc (ls' := [v_P 74, v_I x1, v_I x2, v_I x3, v_I (x4 + 1)]) dX0_find_95 rfl s19 (by decide) rfl ?_
            refine x_goto (tgt := 49) dX0_find_98 (by decide) ?_
            exact h
          · replace h := h.2 hc
            refine x_aload_n dX0_find_89 rfl rfl ?_
            refine x_iload dX0_find_90 rfl ?_
            refine x_putI dX0_find_92 sh_74 cf_X0 fl_X0_42 (by decide) rfl (by decide) (Or.inl rfl) ?_
            obtain ⟨s20, h⟩ := h
            refine y_iinc (ls' := [v_P 74, v_I x1, v_I x2, v_I x3, v_I (x4 + 1)]) dX0_find_95 rfl s20 (by decide) rfl ?_
            refine x_goto (tgt := 49) dX0_find_98 (by decide) ?_
            exact h
theorem wp_X0_endsFair_0 {x1 : Int} {M : mM} {Q : Int → mM → Prop} (h : ∃ Qc1 : Int → mM → Prop, C_ kk_X0_leaveOut [v_P 74, v_I x1] M Qc1 ∧ ∀ (r2 : Int) (M3 : mM), m_ir r2 → m_okM M3 → Qc1 r2 M3 → ∃ Qc8 : Int → mM → Prop, C_ kk_X5_mostWorth [v_P 48] M3 Qc8 ∧ ∀ (r9 : Int) (M10 : mM), m_ir r9 → m_okM M10 → Qc8 r9 M10 → ∃ Qc15 : Int → mM → Prop, C_ kk_X8_raise [v_P 65, v_I r9] M10 Qc15 ∧ ∀ (r16 : Int) (M17 : mM), m_ir r16 → m_okM M17 → Qc15 r16 M17 → (¬ (M17 65 5) = 0 → Q 0 M17) ∧ ((M17 65 5) = 0 → Q 1 M17)) : X_ kk_X0_endsFair 0 [v_P 74, v_I x1] [] M Q := by
  refine x_aload_n dX0_endsFair_0 rfl rfl ?_
  refine x_iload_n dX0_endsFair_1 rfl rfl ?_
  obtain ⟨Qc1, hc4, h⟩ := h
  refine x_callV (as := [v_I x1]) (st := []) (Qc := Qc1) dX0_endsFair_2 mt_X0_leaveOut ml_X0_56 ⟨by decide, by decide⟩ sh_74 rfl (fun _ _ => Nat.le_of_ble_eq_true rfl) hc4 (fun r2 M3 hr5 hM6 hq7 => ?_)
  replace h := h r2 M3 hr5 hM6 hq7
  change X_ kk_X0_endsFair 5 [v_P 74, v_I x1] [] M3 Q
  refine x_aload_n dX0_endsFair_5 rfl rfl ?_
  refine y_getP dX0_endsFair_6 sh_74 cf_X0 fl_X0_19 (by decide) (by decide) gg_74_2 ?_
  refine x_aload_n dX0_endsFair_9 rfl rfl ?_
  refine y_getP dX0_endsFair_10 sh_74 cf_X0 fl_X0_15 (by decide) (by decide) gg_74_1 ?_
  obtain ⟨Qc8, hc11, h⟩ := h
  refine x_callV (as := []) (st := [v_P 65]) (Qc := Qc8) dX0_endsFair_13 mt_X5_mostWorth ml_X0_60 ⟨by decide, by decide⟩ sh_48 rfl (fun _ _ => Nat.le_of_ble_eq_true rfl) hc11 (fun r9 M10 hr12 hM13 hq14 => ?_)
  replace h := h r9 M10 hr12 hM13 hq14
  change X_ kk_X0_endsFair 16 [v_P 74, v_I x1] [v_I r9, v_P 65] M10 Q
  obtain ⟨Qc15, hc18, h⟩ := h
  refine x_callV (as := [v_I r9]) (st := []) (Qc := Qc15) dX0_endsFair_16 mt_X8_raise ml_X0_65 ⟨by decide, by decide⟩ sh_65 rfl (fun _ _ => Nat.le_of_ble_eq_true rfl) hc18 (fun r16 M17 hr19 hM20 hq21 => ?_)
  replace h := h r16 M17 hr19 hM20 hq21
  change X_ kk_X0_endsFair 19 [v_P 74, v_I x1] [] M17 Q
  refine x_aload_n dX0_endsFair_19 rfl rfl ?_
  refine y_getP dX0_endsFair_20 sh_74 cf_X0 fl_X0_19 (by decide) (by decide) gg_74_2 ?_
  refine x_getI dX0_endsFair_23 sh_65 cf_X8 fl_X0_70 (by decide) (by decide) ?_
  refine x_if_ne (tgt := 33) dX0_endsFair_26 (by decide) (fun hc => ?_) (fun hc => ?_)
  · replace h := h.1 hc
    refine x_iconst dX0_endsFair_33 (by decide) ?_
    refine x_iret dX0_endsFair_34 rfl (Or.inr ⟨rfl, Or.inl rfl⟩) (fun _ _ => h)
  · replace h := h.2 hc
    refine x_iconst dX0_endsFair_29 (by decide) ?_
    refine x_goto (tgt := 34) dX0_endsFair_30 (by decide) ?_
    refine x_iret dX0_endsFair_34 rfl (Or.inr ⟨rfl, Or.inr rfl⟩) (fun _ _ => h)
theorem wp_X0_leftAlready_0 {M : mM} {Q : Int → mM → Prop} (h : X_ kk_X0_leftAlready 6 [v_P 74, v_I 0, v_I 0, v_I 0] [] M Q) : X_ kk_X0_leftAlready 0 [v_P 74, v_U, v_U, v_U] [] M Q := by
  refine x_iconst dX0_leftAlready_0 (by decide) ?_
  refine y_istore_n (ls' := [v_P 74, v_I 0, v_U, v_U]) dX0_leftAlready_1 rfl (by decide) rfl ?_
  refine x_iconst dX0_leftAlready_2 (by decide) ?_
  refine y_istore_n (ls' := [v_P 74, v_I 0, v_I 0, v_U]) dX0_leftAlready_3 rfl (by decide) rfl ?_
  refine x_iconst dX0_leftAlready_4 (by decide) ?_
  refine y_istore_n (ls' := [v_P 74, v_I 0, v_I 0, v_I 0]) dX0_leftAlready_5 rfl (by decide) rfl ?_
  exact h
theorem wp_X0_leftAlready_6 {x1 x2 x3 : Int} {M : mM} {Q : Int → mM → Prop} (h : ((M 1 6) ≤ x3 → Q x1 M) ∧ (¬ (M 1 6) ≤ x3 → ((0 : Int) ≤ x3 ∧ x3 < (6 : Int)) ∧ ((0 : Int) ≤ x3 ∧ x3 < (6 : Int)) ∧ (m_ir (x2 + (M (8 + 3 * x3.toNat) 3))) ∧ (m_ir (x3 + 1)) ∧ X_ kk_X0_leftAlready 6 [v_P 74, v_I (m_or x1 (m_shl (M (8 + 3 * x3.toNat) 6) x2)), v_I (x2 + (M (8 + 3 * x3.toNat) 3)), v_I (x3 + 1)] [] M Q)) : X_ kk_X0_leftAlready 6 [v_P 74, v_I x1, v_I x2, v_I x3] [] M Q := by
  refine x_iload_n dX0_leftAlready_6 rfl rfl ?_
  refine x_aload_n dX0_leftAlready_7 rfl rfl ?_
  refine y_getP dX0_leftAlready_8 sh_74 cf_X0 fl_X0_9 (by decide) (by decide) gg_74_0 ?_
  refine x_getI dX0_leftAlready_11 sh_1 cf_X6 fl_X0_73 (by decide) (by decide) ?_
  refine x_ic_ge (tgt := 55) dX0_leftAlready_14 (by decide) (fun hc => ?_) (fun hc => ?_)
  · replace h := h.1 hc
    refine x_iload_n dX0_leftAlready_55 rfl rfl ?_
    refine x_iret dX0_leftAlready_56 rfl (Or.inl rfl) (fun _ _ => h)
  · replace h := h.2 hc
    refine x_iload_n dX0_leftAlready_17 rfl rfl ?_
    refine x_aload_n dX0_leftAlready_18 rfl rfl ?_
    refine y_getP dX0_leftAlready_19 sh_74 cf_X0 fl_X0_9 (by decide) (by decide) gg_74_0 ?_
    refine y_getP dX0_leftAlready_22 sh_1 cf_X6 fl_X0_76 (by decide) (by decide) gg_1_7 ?_
    refine x_iload_n dX0_leftAlready_25 rfl rfl ?_
    obtain ⟨s1, h⟩ := h
    refine y_aaldB dX0_leftAlready_26 s1 ?_
    have g2 := isB_at (j := x3.toNat) (by clear h; omega)
    refine x_getI dX0_leftAlready_27 (g2).1 cf_X1 fl_X0_80 (by decide) (by decide) ?_
    refine x_iload_n dX0_leftAlready_30 rfl rfl ?_
    refine x_ishl dX0_leftAlready_31 ?_
    refine x_ior dX0_leftAlready_32 ?_
    refine y_istore_n (ls' := [v_P 74, v_I (m_or x1 (m_shl (M (8 + 3 * x3.toNat) 6) x2)), v_I x2, v_I x3]) dX0_leftAlready_33 rfl (by decide) rfl ?_
    refine x_iload_n dX0_leftAlready_34 rfl rfl ?_
    refine x_aload_n dX0_leftAlready_35 rfl rfl ?_
    refine y_getP dX0_leftAlready_36 sh_74 cf_X0 fl_X0_9 (by decide) (by decide) gg_74_0 ?_
    refine y_getP dX0_leftAlready_39 sh_1 cf_X6 fl_X0_76 (by decide) (by decide) gg_1_7 ?_
    refine x_iload_n dX0_leftAlready_42 rfl rfl ?_
    obtain ⟨s3, h⟩ := h
    refine y_aaldB dX0_leftAlready_43 s3 ?_
    have g4 := isB_at (j := x3.toNat) (by clear h; omega)
    refine x_getI dX0_leftAlready_44 (g4).1 cf_X1 fl_X0_85 (by decide) (by decide) ?_
    obtain ⟨s5, h⟩ := h
    refine x_iadd dX0_leftAlready_47 s5 ?_
    refine y_istore_n (ls' := [v_P 74, v_I (m_or x1 (m_shl (M (8 + 3 * x3.toNat) 6) x2)), v_I (x2 + (M (8 + 3 * x3.toNat) 3)), v_I x3]) dX0_leftAlready_48 rfl (by decide) rfl ?_
    obtain ⟨s6, h⟩ := h
    refine y_iinc (ls' := [v_P 74, v_I (m_or x1 (m_shl (M (8 + 3 * x3.toNat) 6) x2)), v_I (x2 + (M (8 + 3 * x3.toNat) 3)), v_I (x3 + 1)]) dX0_leftAlready_49 rfl s6 (by decide) rfl ?_
    refine x_goto (tgt := 6) dX0_leftAlready_52 (by decide) ?_
    exact h
theorem wp_X0_leaveOut_0 {x1 : Int} {M : mM} {Q : Int → mM → Prop} (h : X_ kk_X0_leaveOut 4 [v_P 74, v_U, v_I x1, v_I 0, v_U] [] M Q) : X_ kk_X0_leaveOut 0 [v_P 74, v_I x1, v_U, v_U, v_U] [] M Q := by
  refine x_iload_n dX0_leaveOut_0 rfl rfl ?_
  refine y_istore_n (ls' := [v_P 74, v_I x1, v_I x1, v_U, v_U]) dX0_leaveOut_1 rfl (by decide) rfl ?_
  refine x_iconst dX0_leaveOut_2 (by decide) ?_
  refine y_istore_n (ls' := [v_P 74, v_I x1, v_I x1, v_I 0, v_U]) dX0_leaveOut_3 rfl (by decide) rfl ?_
  refine y_forget 1 (ls' := [v_P 74, v_U, v_I x1, v_I 0, v_U]) rfl ?_
  exact h
theorem wp_X0_leaveOut_4 {x2 x3 : Int} {M : mM} {Q : Int → mM → Prop} (h : ((M 1 6) ≤ x3 → Q 0 M) ∧ (¬ (M 1 6) ≤ x3 → ((0 : Int) ≤ x3 ∧ x3 < (6 : Int)) ∧ (m_ir ((m_shl 1 (M (8 + 3 * x3.toNat) 3)) - 1)) ∧ ∀ M4 : mM, M4 = m_up M (8 + 3 * x3.toNat) 7 (m_and x2 ((m_shl 1 (M (8 + 3 * x3.toNat) 3)) - 1)) → (m_ir (x3 + 1)) ∧ X_ kk_X0_leaveOut 4 [v_P 74, v_U, v_I (m_shr x2 (M (8 + 3 * x3.toNat) 3)), v_I (x3 + 1), v_U] [] M4 Q)) : X_ kk_X0_leaveOut 4 [v_P 74, v_U, v_I x2, v_I x3, v_U] [] M Q := by
  refine x_iload_n dX0_leaveOut_4 rfl rfl ?_
  refine x_aload_n dX0_leaveOut_5 rfl rfl ?_
  refine y_getP dX0_leaveOut_6 sh_74 cf_X0 fl_X0_9 (by decide) (by decide) gg_74_0 ?_
  refine x_getI dX0_leaveOut_9 sh_1 cf_X6 fl_X0_73 (by decide) (by decide) ?_
  refine x_ic_ge (tgt := 56) dX0_leaveOut_12 (by decide) (fun hc => ?_) (fun hc => ?_)
  · replace h := h.1 hc
    refine x_ret dX0_leaveOut_56 rfl (fun _ => h)
  · replace h := h.2 hc
    refine x_aload_n dX0_leaveOut_15 rfl rfl ?_
    refine y_getP dX0_leaveOut_16 sh_74 cf_X0 fl_X0_9 (by decide) (by decide) gg_74_0 ?_
    refine y_getP dX0_leaveOut_19 sh_1 cf_X6 fl_X0_76 (by decide) (by decide) gg_1_7 ?_
    refine x_iload_n dX0_leaveOut_22 rfl rfl ?_
    obtain ⟨s1, h⟩ := h
    refine y_aaldB dX0_leaveOut_23 s1 ?_
    have g2 := isB_at (j := x3.toNat) (by clear h; omega)
    refine y_astore (ls' := [v_P 74, v_U, v_I x2, v_I x3, v_P (8 + 3 * x3.toNat)]) dX0_leaveOut_24 (by decide) rfl ?_
    refine x_aload dX0_leaveOut_26 rfl ?_
    refine x_iload_n dX0_leaveOut_28 rfl rfl ?_
    refine x_iconst dX0_leaveOut_29 (by decide) ?_
    refine x_aload dX0_leaveOut_30 rfl ?_
    refine x_getI dX0_leaveOut_32 (g2).1 cf_X1 fl_X0_85 (by decide) (by decide) ?_
    refine x_ishl dX0_leaveOut_35 ?_
    refine x_iconst dX0_leaveOut_36 (by decide) ?_
    obtain ⟨s3, h⟩ := h
    refine x_isub dX0_leaveOut_37 s3 ?_
    refine x_iand dX0_leaveOut_38 ?_
    refine x_putI dX0_leaveOut_39 (g2).1 cf_X1 fl_X0_87 (by decide) rfl (by decide) (Or.inl rfl) ?_
    obtain ⟨M4, e5⟩ : ∃ z : mM, z = m_up M (8 + 3 * x3.toNat) 7 (m_and x2 ((m_shl 1 (M (8 + 3 * x3.toNat) 3)) - 1)) := ⟨_, rfl⟩
    rw [← e5]
    replace h := h M4 e5
    refine x_iload_n dX0_leaveOut_42 rfl rfl ?_
    refine x_aload dX0_leaveOut_43 rfl ?_
    refine y_getI (v := (M (8 + 3 * x3.toNat) 3)) dX0_leaveOut_45 (g2).1 cf_X1 fl_X0_85 (by decide) (by decide) ((congrFun (congrFun e5 (8 + 3 * x3.toNat)) 3).trans (m_up_ne (Or.inr (by decide)))) ?_
    refine x_ishr dX0_leaveOut_48 ?_
    refine y_istore_n (ls' := [v_P 74, v_U, v_I (m_shr x2 (M (8 + 3 * x3.toNat) 3)), v_I x3, v_P (8 + 3 * x3.toNat)]) dX0_leaveOut_49 rfl (by decide) rfl ?_
    obtain ⟨s6, h⟩ := h
    refine y_iinc (ls' := [v_P 74, v_U, v_I (m_shr x2 (M (8 + 3 * x3.toNat) 3)), v_I (x3 + 1), v_P (8 + 3 * x3.toNat)]) dX0_leaveOut_50 rfl s6 (by decide) rfl ?_
    refine x_goto (tgt := 4) dX0_leaveOut_53 (by decide) ?_
    refine y_forget 4 (ls' := [v_P 74, v_U, v_I (m_shr x2 (M (8 + 3 * x3.toNat) 3)), v_I (x3 + 1), v_U]) rfl ?_
    exact h
theorem wp_X2_compare_0 {M : mM} {Q : Int → mM → Prop} (h : (¬ (M 70 7) = 0 → Q 0 M) ∧ ((M 70 7) = 0 → ((M 1 0) ≤ 6 → (((0 : Int) ≤ 0 ∧ (0 : Int) ≤ 0 ∧ (0 : Int) ≤ (M 1 0)) ∧ 0 + (M 1 0) ≤ (8 : Nat) ∧ 0 + (M 1 0) ≤ (6 : Nat)) ∧ X_ kk_X2_compare 47 [v_P 70, v_I 1, v_I 0] [] (m_cp M 6 (Int.toNat 0) 73 (Int.toNat 0) (Int.toNat (M 1 0))) Q) ∧ (¬ (M 1 0) ≤ 6 → Q 0 M))) : X_ kk_X2_compare 0 [v_P 70, v_U, v_U] [] M Q := by
  refine x_aload_n dX2_compare_0 rfl rfl ?_
  refine x_getI dX2_compare_1 sh_70 cf_X2 fl_X2_29 (by decide) (by decide) ?_
  refine x_if_ne (tgt := 19) dX2_compare_4 (by decide) (fun hc => ?_) (fun hc => ?_)
  · replace h := h.1 hc
    refine x_ret dX2_compare_19 rfl (fun _ => h)
  · replace h := h.2 hc
    refine x_aload_n dX2_compare_7 rfl rfl ?_
    refine y_getP dX2_compare_8 sh_70 cf_X2 fl_X2_21 (by decide) (by decide) gg_70_0 ?_
    refine x_getI dX2_compare_11 sh_1 cf_X6 fl_X2_33 (by decide) (by decide) ?_
    refine x_bipush dX2_compare_14 (by decide) (by decide) ?_
    refine x_ic_le (tgt := 20) dX2_compare_16 (by decide) (fun hc => ?_) (fun hc => ?_)
    · replace h := h.1 hc
      refine x_aload_n dX2_compare_20 rfl rfl ?_
      refine y_getP dX2_compare_21 sh_70 cf_X2 fl_X2_21 (by decide) (by decide) gg_70_0 ?_
      refine y_getP dX2_compare_24 sh_1 cf_X6 fl_X2_39 (by decide) (by decide) gg_1_5 ?_
      refine x_iconst dX2_compare_27 (by decide) ?_
      refine x_aload_n dX2_compare_28 rfl rfl ?_
      refine y_getP dX2_compare_29 sh_70 cf_X2 fl_X2_18 (by decide) (by decide) gg_70_4 ?_
      refine x_iconst dX2_compare_32 (by decide) ?_
      refine x_aload_n dX2_compare_33 rfl rfl ?_
      refine y_getP dX2_compare_34 sh_70 cf_X2 fl_X2_21 (by decide) (by decide) gg_70_0 ?_
      refine x_getI dX2_compare_37 sh_1 cf_X6 fl_X2_33 (by decide) (by decide) ?_
      obtain ⟨s1, h⟩ := h
      refine x_copy dX2_compare_40 (m_in4 (List.mem_of_getElem? (i := 11) rfl) rfl) (by decide) (by decide) sh_6 sh_73 s1 ?_
      refine x_iconst dX2_compare_43 (by decide) ?_
      refine y_istore_n (ls' := [v_P 70, v_I 1, v_U]) dX2_compare_44 rfl (by decide) rfl ?_
      refine x_iconst dX2_compare_45 (by decide) ?_
      refine y_istore_n (ls' := [v_P 70, v_I 1, v_I 0]) dX2_compare_46 rfl (by decide) rfl ?_
      exact h
    · replace h := h.2 hc
      refine x_ret dX2_compare_19 rfl (fun _ => h)
theorem wp_X2_compare_47 {x1 x2 : Int} {M : mM} {Q : Int → mM → Prop} (h : (720 ≤ x2 → Q 0 (m_up M 70 7 1)) ∧ (¬ 720 ≤ x2 → (x1 = 0 → Q 0 (m_up M 70 7 1)) ∧ (¬ x1 = 0 → ∃ Qc1 : Int → mM → Prop, C_ kk_X4_open [v_P 30, v_P 73, v_I (M 1 8)] M Qc1 ∧ ∀ (r2 : Int) (M3 : mM), m_ir r2 → m_okM M3 → Qc1 r2 M3 → ∃ Qc8 : Int → mM → Prop, C_ kk_X4_run [v_P 30] M3 Qc8 ∧ ∀ (r9 : Int) (M10 : mM), m_ir r9 → m_okM M10 → Qc8 r9 M10 → ∃ Qc15 : Int → mM → Prop, C_ kk_X4_worthTogether [v_P 30] M10 Qc15 ∧ ∀ (r16 : Int) (M17 : mM), m_ir r16 → m_okM M17 → Qc15 r16 M17 → (¬ x2 = 0 → ∃ Qc22 : Int → mM → Prop, C_ kk_X2_note [v_P 70, v_I r16, v_I 0] M17 Qc22 ∧ ∀ (r23 : Int) (M24 : mM), m_ir r23 → m_okM M24 → Qc22 r23 M24 → ∃ Qc29 : Int → mM → Prop, C_ kk_X2_stepOn [v_P 70] M24 Qc29 ∧ ∀ (r30 : Int) (M31 : mM), m_ir r30 → m_okM M31 → Qc29 r30 M31 → (m_ir (x2 + 1)) ∧ X_ kk_X2_compare 47 [v_P 70, v_I r30, v_I (x2 + 1)] [] M31 Q) ∧ (x2 = 0 → ∃ Qc37 : Int → mM → Prop, C_ kk_X2_note [v_P 70, v_I r16, v_I 1] M17 Qc37 ∧ ∀ (r38 : Int) (M39 : mM), m_ir r38 → m_okM M39 → Qc37 r38 M39 → ∃ Qc44 : Int → mM → Prop, C_ kk_X2_stepOn [v_P 70] M39 Qc44 ∧ ∀ (r45 : Int) (M46 : mM), m_ir r45 → m_okM M46 → Qc44 r45 M46 → (m_ir (x2 + 1)) ∧ X_ kk_X2_compare 47 [v_P 70, v_I r45, v_I (x2 + 1)] [] M46 Q)))) : X_ kk_X2_compare 47 [v_P 70, v_I x1, v_I x2] [] M Q := by
  refine x_iload_n dX2_compare_47 rfl rfl ?_
  refine x_sipush dX2_compare_48 (by decide) (by decide) ?_
  refine x_ic_ge (tgt := 114) dX2_compare_51 (by decide) (fun hc => ?_) (fun hc => ?_)
  · replace h := h.1 hc
    refine x_aload_n dX2_compare_114 rfl rfl ?_
    refine x_iconst dX2_compare_115 (by decide) ?_
    refine x_putI dX2_compare_116 sh_70 cf_X2 fl_X2_29 (by decide) rfl (by decide) (Or.inr ⟨rfl, Or.inr rfl⟩) ?_
    refine x_ret dX2_compare_119 rfl (fun _ => h)
  · replace h := h.2 hc
    refine x_iload_n dX2_compare_54 rfl rfl ?_
    refine x_if_eq (tgt := 114) dX2_compare_55 (by decide) (fun hc => ?_) (fun hc => ?_)
    · replace h := h.1 hc
      refine x_aload_n dX2_compare_114 rfl rfl ?_
      refine x_iconst dX2_compare_115 (by decide) ?_
      refine x_putI dX2_compare_116 sh_70 cf_X2 fl_X2_29 (by decide) rfl (by decide) (Or.inr ⟨rfl, Or.inr rfl⟩) ?_
      refine x_ret dX2_compare_119 rfl (fun _ => h)
    · replace h := h.2 hc
      refine x_aload_n dX2_compare_58 rfl rfl ?_
      refine y_getP dX2_compare_59 sh_70 cf_X2 fl_X2_25 (by decide) (by decide) gg_70_1 ?_
      refine x_aload_n dX2_compare_62 rfl rfl ?_
      refine y_getP dX2_compare_63 sh_70 cf_X2 fl_X2_18 (by decide) (by decide) gg_70_4 ?_
      refine x_aload_n dX2_compare_66 rfl rfl ?_
      refine y_getP dX2_compare_67 sh_70 cf_X2 fl_X2_21 (by decide) (by decide) gg_70_0 ?_
      refine x_getI dX2_compare_70 sh_1 cf_X6 fl_X2_48 (by decide) (by decide) ?_
      obtain ⟨Qc1, hc4, h⟩ := h
      refine x_callV (as := [v_P 73, v_I (M 1 8)]) (st := []) (Qc := Qc1) dX2_compare_73 mt_X4_open ml_X2_51 ⟨by decide, by decide⟩ sh_30 rfl (fun _ _ => Nat.le_of_ble_eq_true rfl) hc4 (fun r2 M3 hr5 hM6 hq7 => ?_)
      replace h := h r2 M3 hr5 hM6 hq7
      change X_ kk_X2_compare 76 [v_P 70, v_I x1, v_I x2] [] M3 Q
      refine x_aload_n dX2_compare_76 rfl rfl ?_
      refine y_getP dX2_compare_77 sh_70 cf_X2 fl_X2_25 (by decide) (by decide) gg_70_1 ?_
      obtain ⟨Qc8, hc11, h⟩ := h
      refine x_callV (as := []) (st := []) (Qc := Qc8) dX2_compare_80 mt_X4_run ml_X2_57 ⟨by decide, by decide⟩ sh_30 rfl (fun _ _ => Nat.le_of_ble_eq_true rfl) hc11 (fun r9 M10 hr12 hM13 hq14 => ?_)
      replace h := h r9 M10 hr12 hM13 hq14
      change X_ kk_X2_compare 83 [v_P 70, v_I x1, v_I x2] [] M10 Q
      refine x_aload_n dX2_compare_83 rfl rfl ?_
      refine x_aload_n dX2_compare_84 rfl rfl ?_
      refine y_getP dX2_compare_85 sh_70 cf_X2 fl_X2_25 (by decide) (by decide) gg_70_1 ?_
      obtain ⟨Qc15, hc18, h⟩ := h
      refine x_callV (as := []) (st := [v_P 70]) (Qc := Qc15) dX2_compare_88 mt_X4_worthTogether ml_X2_60 ⟨by decide, by decide⟩ sh_30 rfl (fun _ _ => Nat.le_of_ble_eq_true rfl) hc18 (fun r16 M17 hr19 hM20 hq21 => ?_)
      replace h := h r16 M17 hr19 hM20 hq21
      change X_ kk_X2_compare 91 [v_P 70, v_I x1, v_I x2] [v_I r16, v_P 70] M17 Q
      refine x_iload_n dX2_compare_91 rfl rfl ?_
      refine x_if_ne (tgt := 99) dX2_compare_92 (by decide) (fun hc => ?_) (fun hc => ?_)
      · replace h := h.1 hc
        refine x_iconst dX2_compare_99 (by decide) ?_
        obtain ⟨Qc22, hc25, h⟩ := h
        refine x_callV (as := [v_I r16, v_I 0]) (st := []) (Qc := Qc22) dX2_compare_100 mt_X2_note ml_X2_64 ⟨by decide, by decide⟩ sh_70 rfl (fun _ _ => Nat.le_of_ble_eq_true rfl) hc25 (fun r23 M24 hr26 hM27 hq28 => ?_)
        replace h := h r23 M24 hr26 hM27 hq28
        change X_ kk_X2_compare 103 [v_P 70, v_I x1, v_I x2] [] M24 Q
        refine x_aload_n dX2_compare_103 rfl rfl ?_
        obtain ⟨Qc29, hc32, h⟩ := h
        refine x_callV (as := []) (st := []) (Qc := Qc29) dX2_compare_104 mt_X2_stepOn ml_X2_68 ⟨by decide, by decide⟩ sh_70 rfl (fun _ _ => Nat.le_of_ble_eq_true rfl) hc32 (fun r30 M31 hr33 hM34 hq35 => ?_)
        replace h := h r30 M31 hr33 hM34 hq35
        change X_ kk_X2_compare 107 [v_P 70, v_I x1, v_I x2] [v_I r30] M31 Q
        refine y_istore_n (ls' := [v_P 70, v_I r30, v_I x2]) dX2_compare_107 rfl (by decide) rfl ?_
        obtain ⟨s36, h⟩ := h
        refine y_iinc (ls' := [v_P 70, v_I r30, v_I (x2 + 1)]) dX2_compare_108 rfl s36 (by decide) rfl ?_
        refine x_goto (tgt := 47) dX2_compare_111 (by decide) ?_
        exact h
      · replace h := h.2 hc
        refine x_iconst dX2_compare_95 (by decide) ?_
        refine x_goto (tgt := 100) dX2_compare_96 (by decide) ?_
        obtain ⟨Qc37, hc40, h⟩ := h
        refine x_callV (as := [v_I r16, v_I 1]) (st := []) (Qc := Qc37) dX2_compare_100 mt_X2_note ml_X2_64 ⟨by decide, by decide⟩ sh_70 rfl (fun _ _ => Nat.le_of_ble_eq_true rfl) hc40 (fun r38 M39 hr41 hM42 hq43 => ?_)
        replace h := h r38 M39 hr41 hM42 hq43
        change X_ kk_X2_compare 103 [v_P 70, v_I x1, v_I x2] [] M39 Q
        refine x_aload_n dX2_compare_103 rfl rfl ?_
        obtain ⟨Qc44, hc47, h⟩ := h
        refine x_callV (as := []) (st := []) (Qc := Qc44) dX2_compare_104 mt_X2_stepOn ml_X2_68 ⟨by decide, by decide⟩ sh_70 rfl (fun _ _ => Nat.le_of_ble_eq_true rfl) hc47 (fun r45 M46 hr48 hM49 hq50 => ?_)
        replace h := h r45 M46 hr48 hM49 hq50
        change X_ kk_X2_compare 107 [v_P 70, v_I x1, v_I x2] [v_I r45] M46 Q
        refine y_istore_n (ls' := [v_P 70, v_I r45, v_I x2]) dX2_compare_107 rfl (by decide) rfl ?_
        obtain ⟨s51, h⟩ := h
        refine y_iinc (ls' := [v_P 70, v_I r45, v_I (x2 + 1)]) dX2_compare_108 rfl s51 (by decide) rfl ?_
        refine x_goto (tgt := 47) dX2_compare_111 (by decide) ?_
        exact h
theorem wp_X2_note_0 {x1 x2 : Int} {M : mM} {Q : Int → mM → Prop} (h : (¬ x2 = 0 → (((0 : Int) ≤ 0 ∧ (0 : Int) ≤ 0 ∧ (0 : Int) ≤ (M 1 0)) ∧ 0 + (M 1 0) ≤ (6 : Nat) ∧ 0 + (M 1 0) ≤ (6 : Nat)) ∧ ∀ M2 : mM, M2 = m_cp (m_up M 70 5 x1) 73 (Int.toNat 0) 71 (Int.toNat 0) (Int.toNat (M 1 0)) → (¬ x2 = 0 → (((0 : Int) ≤ 0 ∧ (0 : Int) ≤ 0 ∧ (0 : Int) ≤ (M2 1 0)) ∧ 0 + (M2 1 0) ≤ (6 : Nat) ∧ 0 + (M2 1 0) ≤ (6 : Nat)) ∧ ∀ M5 : mM, M5 = m_cp (m_up M2 70 6 x1) 73 (Int.toNat 0) 72 (Int.toNat 0) (Int.toNat (M2 1 0)) → Q 0 M5) ∧ (x2 = 0 → ((M2 70 6) ≤ x1 → Q 0 M2) ∧ (¬ (M2 70 6) ≤ x1 → (((0 : Int) ≤ 0 ∧ (0 : Int) ≤ 0 ∧ (0 : Int) ≤ (M2 1 0)) ∧ 0 + (M2 1 0) ≤ (6 : Nat) ∧ 0 + (M2 1 0) ≤ (6 : Nat)) ∧ ∀ M8 : mM, M8 = m_cp (m_up M2 70 6 x1) 73 (Int.toNat 0) 72 (Int.toNat 0) (Int.toNat (M2 1 0)) → Q 0 M8))) ∧ (x2 = 0 → (x1 ≤ (M 70 5) → (¬ x2 = 0 → (((0 : Int) ≤ 0 ∧ (0 : Int) ≤ 0 ∧ (0 : Int) ≤ (M 1 0)) ∧ 0 + (M 1 0) ≤ (6 : Nat) ∧ 0 + (M 1 0) ≤ (6 : Nat)) ∧ ∀ M11 : mM, M11 = m_cp (m_up M 70 6 x1) 73 (Int.toNat 0) 72 (Int.toNat 0) (Int.toNat (M 1 0)) → Q 0 M11) ∧ (x2 = 0 → ((M 70 6) ≤ x1 → Q 0 M) ∧ (¬ (M 70 6) ≤ x1 → (((0 : Int) ≤ 0 ∧ (0 : Int) ≤ 0 ∧ (0 : Int) ≤ (M 1 0)) ∧ 0 + (M 1 0) ≤ (6 : Nat) ∧ 0 + (M 1 0) ≤ (6 : Nat)) ∧ ∀ M14 : mM, M14 = m_cp (m_up M 70 6 x1) 73 (Int.toNat 0) 72 (Int.toNat 0) (Int.toNat (M 1 0)) → Q 0 M14))) ∧ (¬ x1 ≤ (M 70 5) → (((0 : Int) ≤ 0 ∧ (0 : Int) ≤ 0 ∧ (0 : Int) ≤ (M 1 0)) ∧ 0 + (M 1 0) ≤ (6 : Nat) ∧ 0 + (M 1 0) ≤ (6 : Nat)) ∧ ∀ M17 : mM, M17 = m_cp (m_up M 70 5 x1) 73 (Int.toNat 0) 71 (Int.toNat 0) (Int.toNat (M 1 0)) → (¬ x2 = 0 → (((0 : Int) ≤ 0 ∧ (0 : Int) ≤ 0 ∧ (0 : Int) ≤ (M17 1 0)) ∧ 0 + (M17 1 0) ≤ (6 : Nat) ∧ 0 + (M17 1 0) ≤ (6 : Nat)) ∧ ∀ M20 : mM, M20 = m_cp (m_up M17 70 6 x1) 73 (Int.toNat 0) 72 (Int.toNat 0) (Int.toNat (M17 1 0)) → Q 0 M20) ∧ (x2 = 0 → ((M17 70 6) ≤ x1 → Q 0 M17) ∧ (¬ (M17 70 6) ≤ x1 → (((0 : Int) ≤ 0 ∧ (0 : Int) ≤ 0 ∧ (0 : Int) ≤ (M17 1 0)) ∧ 0 + (M17 1 0) ≤ (6 : Nat) ∧ 0 + (M17 1 0) ≤ (6 : Nat)) ∧ ∀ M23 : mM, M23 = m_cp (m_up M17 70 6 x1) 73 (Int.toNat 0) 72 (Int.toNat 0) (Int.toNat (M17 1 0)) → Q 0 M23))))) : X_ kk_X2_note 0 [v_P 70, v_I x1, v_I x2] [] M Q := by
  refine x_iload_n dX2_note_0 rfl rfl ?_
  refine x_if_ne (tgt := 12) dX2_note_1 (by decide) (fun hc => ?_) (fun hc => ?_)
  · replace h := h.1 hc
    refine x_aload_n dX2_note_12 rfl rfl ?_
    refine x_iload_n dX2_note_13 rfl rfl ?_
    refine x_putI dX2_note_14 sh_70 cf_X2 fl_X2_72 (by decide) rfl (by decide) (Or.inl rfl) ?_
    refine x_aload_n dX2_note_17 rfl rfl ?_
    refine y_getP dX2_note_18 sh_70 cf_X2 fl_X2_18 (by decide) (by decide) gg_70_4 ?_
    refine x_iconst dX2_note_21 (by decide) ?_
    refine x_aload_n dX2_note_22 rfl rfl ?_
    refine y_getP dX2_note_23 sh_70 cf_X2 fl_X2_9 (by decide) (by decide) gg_70_2 ?_
    refine x_iconst dX2_note_26 (by decide) ?_
    refine x_aload_n dX2_note_27 rfl rfl ?_
    refine y_getP dX2_note_28 sh_70 cf_X2 fl_X2_21 (by decide) (by decide) gg_70_0 ?_
    refine y_getI (v := (M 1 0)) dX2_note_31 sh_1 cf_X6 fl_X2_33 (by decide) (by decide) (m_up_ne (Or.inl (by decide))) ?_
    obtain ⟨s1, h⟩ := h
    refine x_copy dX2_note_34 (m_in4 (List.mem_of_getElem? (i := 11) rfl) rfl) (by decide) (by decide) sh_73 sh_71 s1 ?_
    obtain ⟨M2, e3⟩ : ∃ z : mM, z = m_cp (m_up M 70 5 x1) 73 (Int.toNat 0) 71 (Int.toNat 0) (Int.toNat (M 1 0)) := ⟨_, rfl⟩
    rw [← e3]
    replace h := h M2 e3
    refine x_iload_n dX2_note_37 rfl rfl ?_
    refine x_if_ne (tgt := 49) dX2_note_38 (by decide) (fun hc => ?_) (fun hc => ?_)
    · replace h := h.1 hc
      refine x_aload_n dX2_note_49 rfl rfl ?_
      refine x_iload_n dX2_note_50 rfl rfl ?_
      refine x_putI dX2_note_51 sh_70 cf_X2 fl_X2_75 (by decide) rfl (by decide) (Or.inl rfl) ?_
      refine x_aload_n dX2_note_54 rfl rfl ?_
      refine y_getP dX2_note_55 sh_70 cf_X2 fl_X2_18 (by decide) (by decide) gg_70_4 ?_
      refine x_iconst dX2_note_58 (by decide) ?_
      refine x_aload_n dX2_note_59 rfl rfl ?_
      refine y_getP dX2_note_60 sh_70 cf_X2 fl_X2_15 (by decide) (by decide) gg_70_3 ?_
      refine x_iconst dX2_note_63 (by decide) ?_
      refine x_aload_n dX2_note_64 rfl rfl ?_
      refine y_getP dX2_note_65 sh_70 cf_X2 fl_X2_21 (by decide) (by decide) gg_70_0 ?_
      refine y_getI (v := (M2 1 0)) dX2_note_68 sh_1 cf_X6 fl_X2_33 (by decide) (by decide) (m_up_ne (Or.inl (by decide))) ?_
      obtain ⟨s4, h⟩ := h
      refine x_copy dX2_note_71 (m_in4 (List.mem_of_getElem? (i := 11) rfl) rfl) (by decide) (by decide) sh_73 sh_72 s4 ?_
      obtain ⟨M5, e6⟩ : ∃ z : mM, z = m_cp (m_up M2 70 6 x1) 73 (Int.toNat 0) 72 (Int.toNat 0) (Int.toNat (M2 1 0)) := ⟨_, rfl⟩
      rw [← e6]
      replace h := h M5 e6
      refine x_ret dX2_note_74 rfl (fun _ => h)
    · replace h := h.2 hc
      refine x_iload_n dX2_note_41 rfl rfl ?_
      refine x_aload_n dX2_note_42 rfl rfl ?_
      refine x_getI dX2_note_43 sh_70 cf_X2 fl_X2_75 (by decide) (by decide) ?_
      refine x_ic_ge (tgt := 74) dX2_note_46 (by decide) (fun hc => ?_) (fun hc => ?_)
      · replace h := h.1 hc
        refine x_ret dX2_note_74 rfl (fun _ => h)
      · replace h := h.2 hc
        refine x_aload_n dX2_note_49 rfl rfl ?_
        refine x_iload_n dX2_note_50 rfl rfl ?_
        refine x_putI dX2_note_51 sh_70 cf_X2 fl_X2_75 (by decide) rfl (by decide) (Or.inl rfl) ?_
        refine x_aload_n dX2_note_54 rfl rfl ?_
        refine y_getP dX2_note_55 sh_70 cf_X2 fl_X2_18 (by decide) (by decide) gg_70_4 ?_
        refine x_iconst dX2_note_58 (by decide) ?_
        refine x_aload_n dX2_note_59 rfl rfl ?_
        refine y_getP dX2_note_60 sh_70 cf_X2 fl_X2_15 (by decide) (by decide) gg_70_3 ?_
        refine x_iconst dX2_note_63 (by decide) ?_
        refine x_aload_n dX2_note_64 rfl rfl ?_
        refine y_getP dX2_note_65 sh_70 cf_X2 fl_X2_21 (by decide) (by decide) gg_70_0 ?_
        refine y_getI (v := (M2 1 0)) dX2_note_68 sh_1 cf_X6 fl_X2_33 (by decide) (by decide) (m_up_ne (Or.inl (by decide))) ?_
        obtain ⟨s7, h⟩ := h
        refine x_copy dX2_note_71 (m_in4 (List.mem_of_getElem? (i := 11) rfl) rfl) (by decide) (by decide) sh_73 sh_72 s7 ?_
        obtain ⟨M8, e9⟩ : ∃ z : mM, z = m_cp (m_up M2 70 6 x1) 73 (Int.toNat 0) 72 (Int.toNat 0) (Int.toNat (M2 1 0)) := ⟨_, rfl⟩
        rw [← e9]
        replace h := h M8 e9
        refine x_ret dX2_note_74 rfl (fun _ => h)
  · replace h := h.2 hc
    refine x_iload_n dX2_note_4 rfl rfl ?_
    refine x_aload_n dX2_note_5 rfl rfl ?_
    refine x_getI dX2_note_6 sh_70 cf_X2 fl_X2_72 (by decide) (by decide) ?_
    refine x_ic_le (tgt := 37) dX2_note_9 (by decide) (fun hc => ?_) (fun hc => ?_)
    · replace h := h.1 hc
      refine x_iload_n dX2_note_37 rfl rfl ?_
      refine x_if_ne (tgt := 49) dX2_note_38 (by decide) (fun hc => ?_) (fun hc => ?_)
      · replace h := h.1 hc
        refine x_aload_n dX2_note_49 rfl rfl ?_
        refine x_iload_n dX2_note_50 rfl rfl ?_
        refine x_putI dX2_note_51 sh_70 cf_X2 fl_X2_75 (by decide) rfl (by decide) (Or.inl rfl) ?_
        refine x_aload_n dX2_note_54 rfl rfl ?_
        refine y_getP dX2_note_55 sh_70 cf_X2 fl_X2_18 (by decide) (by decide) gg_70_4 ?_
        refine x_iconst dX2_note_58 (by decide) ?_
        refine x_aload_n dX2_note_59 rfl rfl ?_
        refine y_getP dX2_note_60 sh_70 cf_X2 fl_X2_15 (by decide) (by decide) gg_70_3 ?_
        refine x_iconst dX2_note_63 (by decide) ?_
        refine x_aload_n dX2_note_64 rfl rfl ?_
        refine y_getP dX2_note_65 sh_70 cf_X2 fl_X2_21 (by decide) (by decide) gg_70_0 ?_
        refine y_getI (v := (M 1 0)) dX2_note_68 sh_1 cf_X6 fl_X2_33 (by decide) (by decide) (m_up_ne (Or.inl (by decide))) ?_
        obtain ⟨s10, h⟩ := h
        refine x_copy dX2_note_71 (m_in4 (List.mem_of_getElem? (i := 11) rfl) rfl) (by decide) (by decide) sh_73 sh_72 s10 ?_
        obtain ⟨M11, e12⟩ : ∃ z : mM, z = m_cp (m_up M 70 6 x1) 73 (Int.toNat 0) 72 (Int.toNat 0) (Int.toNat (M 1 0)) := ⟨_, rfl⟩
        rw [← e12]
        replace h := h M11 e12
        refine x_ret dX2_note_74 rfl (fun _ => h)
      · replace h := h.2 hc
        refine x_iload_n dX2_note_41 rfl rfl ?_
        refine x_aload_n dX2_note_42 rfl rfl ?_
        refine x_getI dX2_note_43 sh_70 cf_X2 fl_X2_75 (by decide) (by decide) ?_
        refine x_ic_ge (tgt := 74) dX2_note_46 (by decide) (fun hc => ?_) (fun hc => ?_)
        · replace h := h.1 hc
          refine x_ret dX2_note_74 rfl (fun _ => h)
        · replace h := h.2 hc
          refine x_aload_n dX2_note_49 rfl rfl ?_
          refine x_iload_n dX2_note_50 rfl rfl ?_
          refine x_putI dX2_note_51 sh_70 cf_X2 fl_X2_75 (by decide) rfl (by decide) (Or.inl rfl) ?_
          refine x_aload_n dX2_note_54 rfl rfl ?_
          refine y_getP dX2_note_55 sh_70 cf_X2 fl_X2_18 (by decide) (by decide) gg_70_4 ?_
          refine x_iconst dX2_note_58 (by decide) ?_
          refine x_aload_n dX2_note_59 rfl rfl ?_
          refine y_getP dX2_note_60 sh_70 cf_X2 fl_X2_15 (by decide) (by decide) gg_70_3 ?_
          refine x_iconst dX2_note_63 (by decide) ?_
          refine x_aload_n dX2_note_64 rfl rfl ?_
          refine y_getP dX2_note_65 sh_70 cf_X2 fl_X2_21 (by decide) (by decide) gg_70_0 ?_
          refine y_getI (v := (M 1 0)) dX2_note_68 sh_1 cf_X6 fl_X2_33 (by decide) (by decide) (m_up_ne (Or.inl (by decide))) ?_
          obtain ⟨s13, h⟩ := h
          refine x_copy dX2_note_71 (m_in4 (List.mem_of_getElem? (i := 11) rfl) rfl) (by decide) (by decide) sh_73 sh_72 s13 ?_
          obtain ⟨M14, e15⟩ : ∃ z : mM, z = m_cp (m_up M 70 6 x1) 73 (Int.toNat 0) 72 (Int.toNat 0) (Int.toNat (M 1 0)) := ⟨_, rfl⟩
          rw [← e15]
          replace h := h M14 e15
          refine x_ret dX2_note_74 rfl (fun _ => h)
    · replace h := h.2 hc
      refine x_aload_n dX2_note_12 rfl rfl ?_
      refine x_iload_n dX2_note_13 rfl rfl ?_
      refine x_putI dX2_note_14 sh_70 cf_X2 fl_X2_72 (by decide) rfl (by decide) (Or.inl rfl) ?_
      refine x_aload_n dX2_note_17 rfl rfl ?_
      refine y_getP dX2_note_18 sh_70 cf_X2 fl_X2_18 (by decide) (by decide) gg_70_4 ?_
      refine x_iconst dX2_note_21 (by decide) ?_
      refine x_aload_n dX2_note_22 rfl rfl ?_
      refine y_getP dX2_note_23 sh_70 cf_X2 fl_X2_9 (by decide) (by decide) gg_70_2 ?_
      refine x_iconst dX2_note_26 (by decide) ?_
      refine x_aload_n dX2_note_27 rfl rfl ?_
      refine y_getP dX2_note_28 sh_70 cf_X2 fl_X2_21 (by decide) (by decide) gg_70_0 ?_
      refine y_getI (v := (M 1 0)) dX2_note_31 sh_1 cf_X6 fl_X2_33 (by decide) (by decide) (m_up_ne (Or.inl (by decide))) ?_
      obtain ⟨s16, h⟩ := h
      refine x_copy dX2_note_34 (m_in4 (List.mem_of_getElem? (i := 11) rfl) rfl) (by decide) (by decide) sh_73 sh_71 s16 ?_
      obtain ⟨M17, e18⟩ : ∃ z : mM, z = m_cp (m_up M 70 5 x1) 73 (Int.toNat 0) 71 (Int.toNat 0) (Int.toNat (M 1 0)) := ⟨_, rfl⟩
      rw [← e18]
      replace h := h M17 e18
      refine x_iload_n dX2_note_37 rfl rfl ?_
      refine x_if_ne (tgt := 49) dX2_note_38 (by decide) (fun hc => ?_) (fun hc => ?_)
      · replace h := h.1 hc
        refine x_aload_n dX2_note_49 rfl rfl ?_
        refine x_iload_n dX2_note_50 rfl rfl ?_
        refine x_putI dX2_note_51 sh_70 cf_X2 fl_X2_75 (by decide) rfl (by decide) (Or.inl rfl) ?_
        refine x_aload_n dX2_note_54 rfl rfl ?_
        refine y_getP dX2_note_55 sh_70 cf_X2 fl_X2_18 (by decide) (by decide) gg_70_4 ?_
        refine x_iconst dX2_note_58 (by decide) ?_
        refine x_aload_n dX2_note_59 rfl rfl ?_
        refine y_getP dX2_note_60 sh_70 cf_X2 fl_X2_15 (by decide) (by decide) gg_70_3 ?_
        refine x_iconst dX2_note_63 (by decide) ?_
        refine x_aload_n dX2_note_64 rfl rfl ?_
        refine y_getP dX2_note_65 sh_70 cf_X2 fl_X2_21 (by decide) (by decide) gg_70_0 ?_
        refine y_getI (v := (M17 1 0)) dX2_note_68 sh_1 cf_X6 fl_X2_33 (by decide) (by decide) (m_up_ne (Or.inl (by decide))) ?_
        obtain ⟨s19, h⟩ := h
        refine x_copy dX2_note_71 (m_in4 (List.mem_of_getElem? (i := 11) rfl) rfl) (by decide) (by decide) sh_73 sh_72 s19 ?_
        obtain ⟨M20, e21⟩ : ∃ z : mM, z = m_cp (m_up M17 70 6 x1) 73 (Int.toNat 0) 72 (Int.toNat 0) (Int.toNat (M17 1 0)) := ⟨_, rfl⟩
        rw [← e21]
        replace h := h M20 e21
        refine x_ret dX2_note_74 rfl (fun _ => h)
      · replace h := h.2 hc
        refine x_iload_n dX2_note_41 rfl rfl ?_
        refine x_aload_n dX2_note_42 rfl rfl ?_
        refine x_getI dX2_note_43 sh_70 cf_X2 fl_X2_75 (by decide) (by decide) ?_
        refine x_ic_ge (tgt := 74) dX2_note_46 (by decide) (fun hc => ?_) (fun hc => ?_)
        · replace h := h.1 hc
          refine x_ret dX2_note_74 rfl (fun _ => h)
        · replace h := h.2 hc
          refine x_aload_n dX2_note_49 rfl rfl ?_
          refine x_iload_n dX2_note_50 rfl rfl ?_
          refine x_putI dX2_note_51 sh_70 cf_X2 fl_X2_75 (by decide) rfl (by decide) (Or.inl rfl) ?_
          refine x_aload_n dX2_note_54 rfl rfl ?_
          refine y_getP dX2_note_55 sh_70 cf_X2 fl_X2_18 (by decide) (by decide) gg_70_4 ?_
          refine x_iconst dX2_note_58 (by decide) ?_
          refine x_aload_n dX2_note_59 rfl rfl ?_
          refine y_getP dX2_note_60 sh_70 cf_X2 fl_X2_15 (by decide) (by decide) gg_70_3 ?_
          refine x_iconst dX2_note_63 (by decide) ?_
          refine x_aload_n dX2_note_64 rfl rfl ?_
          refine y_getP dX2_note_65 sh_70 cf_X2 fl_X2_21 (by decide) (by decide) gg_70_0 ?_
          refine y_getI (v := (M17 1 0)) dX2_note_68 sh_1 cf_X6 fl_X2_33 (by decide) (by decide) (m_up_ne (Or.inl (by decide))) ?_
          obtain ⟨s22, h⟩ := h
          refine x_copy dX2_note_71 (m_in4 (List.mem_of_getElem? (i := 11) rfl) rfl) (by decide) (by decide) sh_73 sh_72 s22 ?_
          obtain ⟨M23, e24⟩ : ∃ z : mM, z = m_cp (m_up M17 70 6 x1) 73 (Int.toNat 0) 72 (Int.toNat 0) (Int.toNat (M17 1 0)) := ⟨_, rfl⟩
          rw [← e24]
          replace h := h M23 e24
          refine x_ret dX2_note_74 rfl (fun _ => h)
theorem wp_X2_stepOn_0 {M : mM} {Q : Int → mM → Prop} (h : (m_ir ((M 1 0) - 2)) ∧ X_ kk_X2_stepOn 10 [v_P 70, v_I ((M 1 0) - 2), v_U, v_U, v_U] [] M Q) : X_ kk_X2_stepOn 0 [v_P 70, v_U, v_U, v_U, v_U] [] M Q := by
  refine x_aload_n dX2_stepOn_0 rfl rfl ?_
  refine y_getP dX2_stepOn_1 sh_70 cf_X2 fl_X2_21 (by decide) (by decide) gg_70_0 ?_
  refine x_getI dX2_stepOn_4 sh_1 cf_X6 fl_X2_33 (by decide) (by decide) ?_
  refine x_iconst dX2_stepOn_7 (by decide) ?_
  obtain ⟨s1, h⟩ := h
  refine x_isub dX2_stepOn_8 s1 ?_
  refine y_istore_n (ls' := [v_P 70, v_I ((M 1 0) - 2), v_U, v_U, v_U]) dX2_stepOn_9 rfl (by decide) rfl ?_
  exact h
theorem wp_X2_stepOn_10 {x1 : Int} {M : mM} {Q : Int → mM → Prop} (h : (x1 < 0 → (0 ≤ x1 → (m_ir ((M 1 0) - 1)) ∧ X_ kk_X2_stepOn 53 [v_P 70, v_I x1, v_I ((M 1 0) - 1), v_U, v_U] [] M Q) ∧ (¬ 0 ≤ x1 → Q 0 M)) ∧ (¬ x1 < 0 → (0 ≤ x1 ∧ x1 < 6) ∧ (m_ir (x1 + 1)) ∧ (0 ≤ (x1 + 1) ∧ (x1 + 1) < 6) ∧ ((M 73 x1.toNat) ≤ (M 73 ((x1 + 1).toNat)) → (0 ≤ x1 → (m_ir ((M 1 0) - 1)) ∧ X_ kk_X2_stepOn 53 [v_P 70, v_I x1, v_I ((M 1 0) - 1), v_U, v_U] [] M Q) ∧ (¬ 0 ≤ x1 → Q 0 M)) ∧ (¬ (M 73 x1.toNat) ≤ (M 73 ((x1 + 1).toNat)) → (m_ir (x1 + (-1))) ∧ X_ kk_X2_stepOn 10 [v_P 70, v_I (x1 + (-1)), v_U, v_U, v_U] [] M Q))) : X_ kk_X2_stepOn 10 [v_P 70, v_I x1, v_U, v_U, v_U] [] M Q := by
  refine x_iload_n dX2_stepOn_10 rfl rfl ?_
  refine x_if_lt (tgt := 37) dX2_stepOn_11 (by decide) (fun hc => ?_) (fun hc => ?_)
  · replace h := h.1 hc
    refine x_iload_n dX2_stepOn_37 rfl rfl ?_
    refine x_if_ge (tgt := 43) dX2_stepOn_38 (by decide) (fun hc => ?_) (fun hc => ?_)
    · replace h := h.1 hc
      refine x_aload_n dX2_stepOn_43 rfl rfl ?_
      refine y_getP dX2_stepOn_44 sh_70 cf_X2 fl_X2_21 (by decide) (by decide) gg_70_0 ?_
      refine x_getI dX2_stepOn_47 sh_1 cf_X6 fl_X2_33 (by decide) (by decide) ?_
      refine x_iconst dX2_stepOn_50 (by decide) ?_
      obtain ⟨s1, h⟩ := h
      refine x_isub dX2_stepOn_51 s1 ?_
      refine y_istore_n (ls' := [v_P 70, v_I x1, v_I ((M 1 0) - 1), v_U, v_U]) dX2_stepOn_52 rfl (by decide) rfl ?_
      exact h
    · replace h := h.2 hc
      refine x_iconst dX2_stepOn_41 (by decide) ?_
      refine x_iret dX2_stepOn_42 rfl (Or.inr ⟨rfl, Or.inl rfl⟩) (fun _ _ => h)
  · replace h := h.2 hc
    refine x_aload_n dX2_stepOn_14 rfl rfl ?_
    refine y_getP dX2_stepOn_15 sh_70 cf_X2 fl_X2_18 (by decide) (by decide) gg_70_4 ?_
    refine x_iload_n dX2_stepOn_18 rfl rfl ?_
    obtain ⟨s2, h⟩ := h
    refine x_iald dX2_stepOn_19 sh_73 s2 ?_
    refine x_aload_n dX2_stepOn_20 rfl rfl ?_
    refine y_getP dX2_stepOn_21 sh_70 cf_X2 fl_X2_18 (by decide) (by decide) gg_70_4 ?_
    refine x_iload_n dX2_stepOn_24 rfl rfl ?_
    refine x_iconst dX2_stepOn_25 (by decide) ?_
    obtain ⟨s3, h⟩ := h
    refine x_iadd dX2_stepOn_26 s3 ?_
    obtain ⟨s4, h⟩ := h
    refine x_iald dX2_stepOn_27 sh_73 s4 ?_
    refine x_ic_le (tgt := 37) dX2_stepOn_28 (by decide) (fun hc => ?_) (fun hc => ?_)
    · replace h := h.1 hc
      refine x_iload_n dX2_stepOn_37 rfl rfl ?_
      refine x_if_ge (tgt := 43) dX2_stepOn_38 (by decide) (fun hc => ?_) (fun hc => ?_)
      · replace h := h.1 hc
        refine x_aload_n dX2_stepOn_43 rfl rfl ?_
        refine y_getP dX2_stepOn_44 sh_70 cf_X2 fl_X2_21 (by decide) (by decide) gg_70_0 ?_
        refine x_getI dX2_stepOn_47 sh_1 cf_X6 fl_X2_33 (by decide) (by decide) ?_
        refine x_iconst dX2_stepOn_50 (by decide) ?_
        obtain ⟨s5, h⟩ := h
        refine x_isub dX2_stepOn_51 s5 ?_
        refine y_istore_n (ls' := [v_P 70, v_I x1, v_I ((M 1 0) - 1), v_U, v_U]) dX2_stepOn_52 rfl (by decide) rfl ?_
        exact h
      · replace h := h.2 hc
        refine x_iconst dX2_stepOn_41 (by decide) ?_
        refine x_iret dX2_stepOn_42 rfl (Or.inr ⟨rfl, Or.inl rfl⟩) (fun _ _ => h)
    · replace h := h.2 hc
      obtain ⟨s6, h⟩ := h
      refine y_iinc (ls' := [v_P 70, v_I (x1 + (-1)), v_U, v_U, v_U]) dX2_stepOn_31 rfl s6 (by decide) rfl ?_
      refine x_goto (tgt := 10) dX2_stepOn_34 (by decide) ?_
      exact h
theorem wp_X2_stepOn_53 {x1 x2 : Int} {M : mM} {Q : Int → mM → Prop} (h : (x2 ≤ x1 → ∃ Qc1 : Int → mM → Prop, C_ kk_X2_exchange [v_P 70, v_I x1, v_I x2] M Qc1 ∧ ∀ (r2 : Int) (M3 : mM), m_ir r2 → m_okM M3 → Qc1 r2 M3 → (m_ir (x1 + 1)) ∧ (m_ir ((M3 1 0) - 1)) ∧ X_ kk_X2_stepOn 100 [v_P 70, v_U, v_U, v_I (x1 + 1), v_I ((M3 1 0) - 1)] [] M3 Q) ∧ (¬ x2 ≤ x1 → (0 ≤ x2 ∧ x2 < 6) ∧ (0 ≤ x1 ∧ x1 < 6) ∧ ((M 73 x1.toNat) ≤ (M 73 x2.toNat) → ∃ Qc12 : Int → mM → Prop, C_ kk_X2_exchange [v_P 70, v_I x1, v_I x2] M Qc12 ∧ ∀ (r13 : Int) (M14 : mM), m_ir r13 → m_okM M14 → Qc12 r13 M14 → (m_ir (x1 + 1)) ∧ (m_ir ((M14 1 0) - 1)) ∧ X_ kk_X2_stepOn 100 [v_P 70, v_U, v_U, v_I (x1 + 1), v_I ((M14 1 0) - 1)] [] M14 Q) ∧ (¬ (M 73 x1.toNat) ≤ (M 73 x2.toNat) → (m_ir (x2 + (-1))) ∧ X_ kk_X2_stepOn 53 [v_P 70, v_I x1, v_I (x2 + (-1)), v_U, v_U] [] M Q))) : X_ kk_X2_stepOn 53 [v_P 70, v_I x1, v_I x2, v_U, v_U] [] M Q := by
  refine x_iload_n dX2_stepOn_53 rfl rfl ?_
  refine x_iload_n dX2_stepOn_54 rfl rfl ?_
  refine x_ic_le (tgt := 79) dX2_stepOn_55 (by decide) (fun hc => ?_) (fun hc => ?_)
  · replace h := h.1 hc
    refine x_aload_n dX2_stepOn_79 rfl rfl ?_
    refine x_iload_n dX2_stepOn_80 rfl rfl ?_
    refine x_iload_n dX2_stepOn_81 rfl rfl ?_
    obtain ⟨Qc1, hc4, h⟩ := h
    refine x_callV (as := [v_I x1, v_I x2]) (st := []) (Qc := Qc1) dX2_stepOn_82 mt_X2_exchange ml_X2_78 ⟨by decide, by decide⟩ sh_70 rfl (fun _ _ => Nat.le_of_ble_eq_true rfl) hc4 (fun r2 M3 hr5 hM6 hq7 => ?_)
    replace h := h r2 M3 hr5 hM6 hq7
    change X_ kk_X2_stepOn 85 [v_P 70, v_I x1, v_I x2, v_U, v_U] [] M3 Q
    refine x_iload_n dX2_stepOn_85 rfl rfl ?_
    refine x_iconst dX2_stepOn_86 (by decide) ?_
    obtain ⟨s8, h⟩ := h
    refine x_iadd dX2_stepOn_87 s8 ?_
    refine y_istore_n (ls' := [v_P 70, v_I x1, v_I x2, v_I (x1 + 1), v_U]) dX2_stepOn_88 rfl (by decide) rfl ?_
    refine x_aload_n dX2_stepOn_89 rfl rfl ?_
    refine y_getP dX2_stepOn_90 sh_70 cf_X2 fl_X2_21 (by decide) (by decide) gg_70_0 ?_
    refine x_getI dX2_stepOn_93 sh_1 cf_X6 fl_X2_33 (by decide) (by decide) ?_
    refine x_iconst dX2_stepOn_96 (by decide) ?_
    obtain ⟨s9, h⟩ := h
    refine x_isub dX2_stepOn_97 s9 ?_
    refine y_istore (ls' := [v_P 70, v_I x1, v_I x2, v_I (x1 + 1), v_I ((M3 1 0) - 1)]) dX2_stepOn_98 (by decide) rfl ?_
    refine y_forget 1 (ls' := [v_P 70, v_U, v_I x2, v_I (x1 + 1), v_I ((M3 1 0) - 1)]) rfl ?_
    refine y_forget 2 (ls' := [v_P 70, v_U, v_U, v_I (x1 + 1), v_I ((M3 1 0) - 1)]) rfl ?_
    exact h
  · replace h := h.2 hc
    refine x_aload_n dX2_stepOn_58 rfl rfl ?_
    refine y_getP dX2_stepOn_59 sh_70 cf_X2 fl_X2_18 (by decide) (by decide) gg_70_4 ?_
    refine x_iload_n dX2_stepOn_62 rfl rfl ?_
    obtain ⟨s10, h⟩ := h
    refine x_iald dX2_stepOn_63 sh_73 s10 ?_
    refine x_aload_n dX2_stepOn_64 rfl rfl ?_
    refine y_getP dX2_stepOn_65 sh_70 cf_X2 fl_X2_18 (by decide) (by decide) gg_70_4 ?_
    refine x_iload_n dX2_stepOn_68 rfl rfl ?_
    obtain ⟨s11, h⟩ := h
    refine x_iald dX2_stepOn_69 sh_73 s11 ?_
    refine x_ic_ge (tgt := 79) dX2_stepOn_70 (by decide) (fun hc => ?_) (fun hc => ?_)
    · replace h := h.1 hc
      refine x_aload_n dX2_stepOn_79 rfl rfl ?_
      refine x_iload_n dX2_stepOn_80 rfl rfl ?_
      refine x_iload_n dX2_stepOn_81 rfl rfl ?_
      obtain ⟨Qc12, hc15, h⟩ := h
      refine x_callV (as := [v_I x1, v_I x2]) (st := []) (Qc := Qc12) dX2_stepOn_82 mt_X2_exchange ml_X2_78 ⟨by decide, by decide⟩ sh_70 rfl (fun _ _ => Nat.le_of_ble_eq_true rfl) hc15 (fun r13 M14 hr16 hM17 hq18 => ?_)
      replace h := h r13 M14 hr16 hM17 hq18
      change X_ kk_X2_stepOn 85 [v_P 70, v_I x1, v_I x2, v_U, v_U] [] M14 Q
      refine x_iload_n dX2_stepOn_85 rfl rfl ?_
      refine x_iconst dX2_stepOn_86 (by decide) ?_
      obtain ⟨s19, h⟩ := h
      refine x_iadd dX2_stepOn_87 s19 ?_
      refine y_istore_n (ls' := [v_P 70, v_I x1, v_I x2, v_I (x1 + 1), v_U]) dX2_stepOn_88 rfl (by decide) rfl ?_
      refine x_aload_n dX2_stepOn_89 rfl rfl ?_
      refine y_getP dX2_stepOn_90 sh_70 cf_X2 fl_X2_21 (by decide) (by decide) gg_70_0 ?_
      refine x_getI dX2_stepOn_93 sh_1 cf_X6 fl_X2_33 (by decide) (by decide) ?_
      refine x_iconst dX2_stepOn_96 (by decide) ?_
      obtain ⟨s20, h⟩ := h
      refine x_isub dX2_stepOn_97 s20 ?_
      refine y_istore (ls' := [v_P 70, v_I x1, v_I x2, v_I (x1 + 1), v_I ((M14 1 0) - 1)]) dX2_stepOn_98 (by decide) rfl ?_
      refine y_forget 1 (ls' := [v_P 70, v_U, v_I x2, v_I (x1 + 1), v_I ((M14 1 0) - 1)]) rfl ?_
      refine y_forget 2 (ls' := [v_P 70, v_U, v_U, v_I (x1 + 1), v_I ((M14 1 0) - 1)]) rfl ?_
      exact h
    · replace h := h.2 hc
      obtain ⟨s21, h⟩ := h
      refine y_iinc (ls' := [v_P 70, v_I x1, v_I (x2 + (-1)), v_U, v_U]) dX2_stepOn_73 rfl s21 (by decide) rfl ?_
      refine x_goto (tgt := 53) dX2_stepOn_76 (by decide) ?_
      exact h
theorem wp_X2_stepOn_100 {x3 x4 : Int} {M : mM} {Q : Int → mM → Prop} (h : (x4 ≤ x3 → Q 1 M) ∧ (¬ x4 ≤ x3 → ∃ Qc1 : Int → mM → Prop, C_ kk_X2_exchange [v_P 70, v_I x3, v_I x4] M Qc1 ∧ ∀ (r2 : Int) (M3 : mM), m_ir r2 → m_okM M3 → Qc1 r2 M3 → (m_ir (x3 + 1)) ∧ (m_ir (x4 + (-1))) ∧ X_ kk_X2_stepOn 100 [v_P 70, v_U, v_U, v_I (x3 + 1), v_I (x4 + (-1))] [] M3 Q)) : X_ kk_X2_stepOn 100 [v_P 70, v_U, v_U, v_I x3, v_I x4] [] M Q := by
  refine x_iload_n dX2_stepOn_100 rfl rfl ?_
  refine x_iload dX2_stepOn_101 rfl ?_
  refine x_ic_ge (tgt := 122) dX2_stepOn_103 (by decide) (fun hc => ?_) (fun hc => ?_)
  · replace h := h.1 hc
    refine x_iconst dX2_stepOn_122 (by decide) ?_
    refine x_iret dX2_stepOn_123 rfl (Or.inr ⟨rfl, Or.inr rfl⟩) (fun _ _ => h)
  · replace h := h.2 hc
    refine x_aload_n dX2_stepOn_106 rfl rfl ?_
    refine x_iload_n dX2_stepOn_107 rfl rfl ?_
    refine x_iload dX2_stepOn_108 rfl ?_
    obtain ⟨Qc1, hc4, h⟩ := h
    refine x_callV (as := [v_I x3, v_I x4]) (st := []) (Qc := Qc1) dX2_stepOn_110 mt_X2_exchange ml_X2_78 ⟨by decide, by decide⟩ sh_70 rfl (fun _ _ => Nat.le_of_ble_eq_true rfl) hc4 (fun r2 M3 hr5 hM6 hq7 => ?_)
    replace h := h r2 M3 hr5 hM6 hq7
    change X_ kk_X2_stepOn 113 [v_P 70, v_U, v_U, v_I x3, v_I x4] [] M3 Q
    obtain ⟨s8, h⟩ := h
    refine y_iinc (ls' := [v_P 70, v_U, v_U, v_I (x3 + 1), v_I x4]) dX2_stepOn_113 rfl s8 (by decide) rfl ?_
    obtain ⟨s9, h⟩ := h
    refine y_iinc (ls' := [v_P 70, v_U, v_U, v_I (x3 + 1), v_I (x4 + (-1))]) dX2_stepOn_116 rfl s9 (by decide) rfl ?_
    refine x_goto (tgt := 100) dX2_stepOn_119 (by decide) ?_
    exact h
theorem wp_X2_exchange_0 {x1 x2 : Int} {M : mM} {Q : Int → mM → Prop} (h : (0 ≤ x1 ∧ x1 < 6) ∧ (0 ≤ x2 ∧ x2 < 6) ∧ (0 ≤ x1 ∧ x1 < 6) ∧ (0 ≤ x2 ∧ x2 < 6) ∧ Q 0 (m_up (m_up M 73 x1.toNat (M 73 x2.toNat)) 73 x2.toNat (M 73 x1.toNat))) : X_ kk_X2_exchange 0 [v_P 70, v_I x1, v_I x2, v_U] [] M Q := by
  refine x_aload_n dX2_exchange_0 rfl rfl ?_
  refine y_getP dX2_exchange_1 sh_70 cf_X2 fl_X2_18 (by decide) (by decide) gg_70_4 ?_
  refine x_iload_n dX2_exchange_4 rfl rfl ?_
  obtain ⟨s1, h⟩ := h
  refine x_iald dX2_exchange_5 sh_73 s1 ?_
  refine y_istore_n (ls' := [v_P 70, v_I x1, v_I x2, v_I (M 73 x1.toNat)]) dX2_exchange_6 rfl (by decide) rfl ?_
  refine x_aload_n dX2_exchange_7 rfl rfl ?_
  refine y_getP dX2_exchange_8 sh_70 cf_X2 fl_X2_18 (by decide) (by decide) gg_70_4 ?_
  refine x_iload_n dX2_exchange_11 rfl rfl ?_
  refine x_aload_n dX2_exchange_12 rfl rfl ?_
  refine y_getP dX2_exchange_13 sh_70 cf_X2 fl_X2_18 (by decide) (by decide) gg_70_4 ?_
  refine x_iload_n dX2_exchange_16 rfl rfl ?_
  obtain ⟨s2, h⟩ := h
  refine x_iald dX2_exchange_17 sh_73 s2 ?_
  obtain ⟨s3, h⟩ := h
  refine x_iast dX2_exchange_18 sh_73 s3 ?_
  refine x_aload_n dX2_exchange_19 rfl rfl ?_
  refine y_getP dX2_exchange_20 sh_70 cf_X2 fl_X2_18 (by decide) (by decide) gg_70_4 ?_
  refine x_iload_n dX2_exchange_23 rfl rfl ?_
  refine x_iload_n dX2_exchange_24 rfl rfl ?_
  obtain ⟨s4, h⟩ := h
  refine x_iast dX2_exchange_25 sh_73 s4 ?_
  refine x_ret dX2_exchange_26 rfl (fun _ => h)
theorem wp_X7_follow_0 {x1 x2 : Int} {M : mM} {Q : Int → mM → Prop} (h : X_ kk_X7_follow 7 [v_P 75, v_I x1, v_I x2, v_I 0, v_U, v_U, v_U] [] (m_up M 75 5 0) Q) : X_ kk_X7_follow 0 [v_P 75, v_I x1, v_I x2, v_U, v_U, v_U, v_U] [] M Q := by
  refine x_aload_n dX7_follow_0 rfl rfl ?_
  refine x_iconst dX7_follow_1 (by decide) ?_
  refine x_putI dX7_follow_2 sh_75 cf_X7 fl_X7_25 (by decide) rfl (by decide) (Or.inl rfl) ?_
  refine x_iconst dX7_follow_5 (by decide) ?_
  refine y_istore_n (ls' := [v_P 75, v_I x1, v_I x2, v_I 0, v_U, v_U, v_U]) dX7_follow_6 rfl (by decide) rfl ?_
  exact h
theorem wp_X7_follow_7 {x1 x2 x3 : Int} {M : mM} {Q : Int → mM → Prop} (h : (3 ≤ x3 → X_ kk_X7_follow 27 [v_P 75, v_I x1, v_I x2, v_I 0, v_U, v_U, v_U] [] M Q) ∧ (¬ 3 ≤ x3 → (0 ≤ x3 ∧ x3 < 3) ∧ (m_ir (x3 + 1)) ∧ X_ kk_X7_follow 7 [v_P 75, v_I x1, v_I x2, v_I (x3 + 1), v_U, v_U, v_U] [] (m_up M 78 x3.toNat 0) Q)) : X_ kk_X7_follow 7 [v_P 75, v_I x1, v_I x2, v_I x3, v_U, v_U, v_U] [] M Q := by
  refine x_iload_n dX7_follow_7 rfl rfl ?_
  refine x_iconst dX7_follow_8 (by decide) ?_
  refine x_ic_ge (tgt := 25) dX7_follow_9 (by decide) (fun hc => ?_) (fun hc => ?_)
  · replace h := h.1 hc
    refine x_iconst dX7_follow_25 (by decide) ?_
    refine y_istore_n (ls' := [v_P 75, v_I x1, v_I x2, v_I 0, v_U, v_U, v_U]) dX7_follow_26 rfl (by decide) rfl ?_
    exact h
  · replace h := h.2 hc
    refine x_aload_n dX7_follow_12 rfl rfl ?_
    refine y_getP dX7_follow_13 sh_75 cf_X7 fl_X7_18 (by decide) (by decide) gg_75_4 ?_
    refine x_iload_n dX7_follow_16 rfl rfl ?_
    refine x_iconst dX7_follow_17 (by decide) ?_
    obtain ⟨s1, h⟩ := h
    refine x_iast dX7_follow_18 sh_78 s1 ?_
    obtain ⟨s2, h⟩ := h
    refine y_iinc (ls' := [v_P 75, v_I x1, v_I x2, v_I (x3 + 1), v_U, v_U, v_U]) dX7_follow_19 rfl s2 (by decide) rfl ?_
    refine x_goto (tgt := 7) dX7_follow_22 (by decide) ?_
    exact h
theorem wp_X7_follow_27 {x1 x2 x3 : Int} {M : mM} {Q : Int → mM → Prop} (h : ((M 75 2) ≤ x3 → Q 0 M) ∧ (¬ (M 75 2) ≤ x3 → ∃ Qc1 : Int → mM → Prop, C_ kk_X7_leader [v_P 75] M Qc1 ∧ ∀ (r2 : Int) (M3 : mM), m_ir r2 → m_okM M3 → Qc1 r2 M3 → (0 ≤ r2 ∧ r2 < 3) ∧ X_ kk_X7_follow 53 [v_P 75, v_I x1, v_I x2, v_I x3, v_I r2, v_I (M3 78 r2.toNat), v_I 0] [] M3 Q)) : X_ kk_X7_follow 27 [v_P 75, v_I x1, v_I x2, v_I x3, v_U, v_U, v_U] [] M Q := by
  refine x_iload_n dX7_follow_27 rfl rfl ?_
  refine x_aload_n dX7_follow_28 rfl rfl ?_
  refine x_getI dX7_follow_29 sh_75 cf_X7 fl_X7_29 (by decide) (by decide) ?_
  refine x_ic_ge (tgt := 134) dX7_follow_32 (by decide) (fun hc => ?_) (fun hc => ?_)
  · replace h := h.1 hc
    refine x_ret dX7_follow_134 rfl (fun _ => h)
  · replace h := h.2 hc
    refine x_aload_n dX7_follow_35 rfl rfl ?_
    obtain ⟨Qc1, hc4, h⟩ := h
    refine x_callV (as := []) (st := []) (Qc := Qc1) dX7_follow_36 mt_X7_leader ml_X7_32 ⟨by decide, by decide⟩ sh_75 rfl (fun _ _ => Nat.le_of_ble_eq_true rfl) hc4 (fun r2 M3 hr5 hM6 hq7 => ?_)
    replace h := h r2 M3 hr5 hM6 hq7
    change X_ kk_X7_follow 39 [v_P 75, v_I x1, v_I x2, v_I x3, v_U, v_U, v_U] [v_I r2] M3 Q
    refine y_istore (ls' := [v_P 75, v_I x1, v_I x2, v_I x3, v_I r2, v_U, v_U]) dX7_follow_39 (by decide) rfl ?_
    refine x_aload_n dX7_follow_41 rfl rfl ?_
    refine y_getP dX7_follow_42 sh_75 cf_X7 fl_X7_18 (by decide) (by decide) gg_75_4 ?_
    refine x_iload dX7_follow_45 rfl ?_
    obtain ⟨s8, h⟩ := h
    refine x_iald dX7_follow_47 sh_78 s8 ?_
    refine y_istore (ls' := [v_P 75, v_I x1, v_I x2, v_I x3, v_I r2, v_I (M3 78 r2.toNat), v_U]) dX7_follow_48 (by decide) rfl ?_
    refine x_iconst dX7_follow_50 (by decide) ?_
    refine y_istore (ls' := [v_P 75, v_I x1, v_I x2, v_I x3, v_I r2, v_I (M3 78 r2.toNat), v_I 0]) dX7_follow_51 (by decide) rfl ?_
    exact h
theorem wp_X7_follow_53 {x1 x2 x3 x4 x5 x6 : Int} {M : mM} {Q : Int → mM → Prop} (h : (3 ≤ x6 → (m_ir (10 * x4)) ∧ (m_ir (x2 + (10 * x4))) ∧ (0 ≤ x3 ∧ x3 < 8) ∧ (0 ≤ x4 ∧ x4 < 3) ∧ (m_ir ((M 78 x4.toNat) - x5)) ∧ (m_ir ((M 75 5) + ((M 78 x4.toNat) - x5))) ∧ ∀ M7 : mM, M7 = m_up (m_up M 77 x3.toNat (x2 + (10 * x4))) 75 5 ((M 75 5) + ((M 78 x4.toNat) - x5)) → (m_ir (x3 + 1)) ∧ X_ kk_X7_follow 27 [v_P 75, v_I x1, v_I x2, v_I (x3 + 1), v_U, v_U, v_U] [] M7 Q) ∧ (¬ 3 ≤ x6 → (0 ≤ x6 ∧ x6 < 3) ∧ (m_ir (10 * x6)) ∧ (m_ir (x2 + (10 * x6))) ∧ (0 ≤ x3 ∧ x3 < 8) ∧ ∃ Qc14 : Int → mM → Prop, C_ kk_X4_gainWith [v_P 30, v_I x1, v_I (x2 + (10 * x6)), v_I (M 76 x3.toNat)] M Qc14 ∧ ∀ (r15 : Int) (M16 : mM), m_ir r15 → m_okM M16 → Qc14 r15 M16 → (m_ir ((M 78 x6.toNat) + r15)) ∧ (0 ≤ x6 ∧ x6 < 3) ∧ (m_ir (x6 + 1)) ∧ X_ kk_X7_follow 53 [v_P 75, v_I x1, v_I x2, v_I x3, v_I x4, v_I x5, v_I (x6 + 1)] [] (m_up M16 78 x6.toNat ((M 78 x6.toNat) + r15)) Q)) : X_ kk_X7_follow 53 [v_P 75, v_I x1, v_I x2, v_I x3, v_I x4, v_I x5, v_I x6] [] M Q := by
  refine x_iload dX7_follow_53 rfl ?_
  refine x_iconst dX7_follow_55 (by decide) ?_
  refine x_ic_ge (tgt := 96) dX7_follow_56 (by decide) (fun hc => ?_) (fun hc => ?_)
  · replace h := h.1 hc
    refine x_aload_n dX7_follow_96 rfl rfl ?_
    refine y_getP dX7_follow_97 sh_75 cf_X7 fl_X7_15 (by decide) (by decide) gg_75_3 ?_
    refine x_iload_n dX7_follow_100 rfl rfl ?_
    refine x_iload_n dX7_follow_101 rfl rfl ?_
    refine x_bipush dX7_follow_102 (by decide) (by decide) ?_
    refine x_iload dX7_follow_104 rfl ?_
    obtain ⟨s1, h⟩ := h
    refine x_imul dX7_follow_106 s1 ?_
    obtain ⟨s2, h⟩ := h
    refine x_iadd dX7_follow_107 s2 ?_
    obtain ⟨s3, h⟩ := h
    refine x_iast dX7_follow_108 sh_77 s3 ?_
    refine x_aload_n dX7_follow_109 rfl rfl ?_
    refine x_dup dX7_follow_110 (fun _ _ => rfl) ?_
    refine y_getI (v := (M 75 5)) dX7_follow_111 sh_75 cf_X7 fl_X7_25 (by decide) (by decide) (m_up_ne (Or.inl (by decide))) ?_
    refine x_aload_n dX7_follow_114 rfl rfl ?_
    refine y_getP dX7_follow_115 sh_75 cf_X7 fl_X7_18 (by decide) (by decide) gg_75_4 ?_
    refine x_iload dX7_follow_118 rfl ?_
    obtain ⟨s4, h⟩ := h
    refine y_iald (v := (M 78 x4.toNat)) dX7_follow_120 sh_78 s4 (m_up_ne (Or.inl (by decide))) ?_
    refine x_iload dX7_follow_121 rfl ?_
    obtain ⟨s5, h⟩ := h
    refine x_isub dX7_follow_123 s5 ?_
    obtain ⟨s6, h⟩ := h
    refine x_iadd dX7_follow_124 s6 ?_
    refine x_putI dX7_follow_125 sh_75 cf_X7 fl_X7_25 (by decide) rfl (by decide) (Or.inl rfl) ?_
    obtain ⟨M7, e8⟩ : ∃ z : mM, z = m_up (m_up M 77 x3.toNat (x2 + (10 * x4))) 75 5 ((M 75 5) + ((M 78 x4.toNat) - x5)) := ⟨_, rfl⟩
    rw [← e8]
    replace h := h M7 e8
    obtain ⟨s9, h⟩ := h
    refine y_iinc (ls' := [v_P 75, v_I x1, v_I x2, v_I (x3 + 1), v_I x4, v_I x5, v_I x6]) dX7_follow_128 rfl s9 (by decide) rfl ?_
    refine x_goto (tgt := 27) dX7_follow_131 (by decide) ?_
    refine y_forget 4 (ls' := [v_P 75, v_I x1, v_I x2, v_I (x3 + 1), v_U, v_I x5, v_I x6]) rfl ?_
    refine y_forget 5 (ls' := [v_P 75, v_I x1, v_I x2, v_I (x3 + 1), v_U, v_U, v_I x6]) rfl ?_
    refine y_forget 6 (ls' := [v_P 75, v_I x1, v_I x2, v_I (x3 + 1), v_U, v_U, v_U]) rfl ?_
    exact h
  · replace h := h.2 hc
    refine x_aload_n dX7_follow_59 rfl rfl ?_
    refine y_getP dX7_follow_60 sh_75 cf_X7 fl_X7_18 (by decide) (by decide) gg_75_4 ?_
    refine x_iload dX7_follow_63 rfl ?_
    refine x_dup2 dX7_follow_65 (fun _ _ => rfl) (fun _ _ => rfl) ?_
    obtain ⟨s10, h⟩ := h
    refine x_iald dX7_follow_66 sh_78 s10 ?_
    refine x_aload_n dX7_follow_67 rfl rfl ?_
    refine y_getP dX7_follow_68 sh_75 cf_X7 fl_X7_21 (by decide) (by decide) gg_75_0 ?_
    refine x_iload_n dX7_follow_71 rfl rfl ?_
    refine x_iload_n dX7_follow_72 rfl rfl ?_
    refine x_bipush dX7_follow_73 (by decide) (by decide) ?_
    refine x_iload dX7_follow_75 rfl ?_
    obtain ⟨s11, h⟩ := h
    refine x_imul dX7_follow_77 s11 ?_
    obtain ⟨s12, h⟩ := h
    refine x_iadd dX7_follow_78 s12 ?_
    refine x_aload_n dX7_follow_79 rfl rfl ?_
    refine y_getP dX7_follow_80 sh_75 cf_X7 fl_X7_9 (by decide) (by decide) gg_75_1 ?_
    refine x_iload_n dX7_follow_83 rfl rfl ?_
    obtain ⟨s13, h⟩ := h
    refine x_iald dX7_follow_84 sh_76 s13 ?_
    obtain ⟨Qc14, hc17, h⟩ := h
    refine x_callV (as := [v_I x1, v_I (x2 + (10 * x6)), v_I (M 76 x3.toNat)]) (st := [v_I (M 78 x6.toNat), v_I x6, v_P 78]) (Qc := Qc14) dX7_follow_85 mt_X4_gainWith ml_X7_36 ⟨by decide, by decide⟩ sh_30 rfl (fun _ _ => Nat.le_of_ble_eq_true rfl) hc17 (fun r15 M16 hr18 hM19 hq20 => ?_)
    replace h := h r15 M16 hr18 hM19 hq20
    change X_ kk_X7_follow 88 [v_P 75, v_I x1, v_I x2, v_I x3, v_I x4, v_I x5, v_I x6] [v_I r15, v_I (M 78 x6.toNat), v_I x6, v_P 78] M16 Q
    obtain ⟨s21, h⟩ := h
    refine x_iadd dX7_follow_88 s21 ?_
    obtain ⟨s22, h⟩ := h
    refine x_iast dX7_follow_89 sh_78 s22 ?_
    obtain ⟨s23, h⟩ := h
    refine y_iinc (ls' := [v_P 75, v_I x1, v_I x2, v_I x3, v_I x4, v_I x5, v_I (x6 + 1)]) dX7_follow_90 rfl s23 (by decide) rfl ?_
    refine x_goto (tgt := 53) dX7_follow_93 (by decide) ?_
    exact h
theorem wp_X7_leader_0 {M : mM} {Q : Int → mM → Prop} (h : X_ kk_X7_leader 4 [v_P 75, v_I 0, v_I 1] [] M Q) : X_ kk_X7_leader 0 [v_P 75, v_U, v_U] [] M Q := by
  refine x_iconst dX7_leader_0 (by decide) ?_
  refine y_istore_n (ls' := [v_P 75, v_I 0, v_U]) dX7_leader_1 rfl (by decide) rfl ?_
  refine x_iconst dX7_leader_2 (by decide) ?_
  refine y_istore_n (ls' := [v_P 75, v_I 0, v_I 1]) dX7_leader_3 rfl (by decide) rfl ?_
  exact h
theorem wp_X7_leader_4 {x1 x2 : Int} {M : mM} {Q : Int → mM → Prop} (h : (3 ≤ x2 → Q x1 M) ∧ (¬ 3 ≤ x2 → (0 ≤ x2 ∧ x2 < 3) ∧ (0 ≤ x1 ∧ x1 < 3) ∧ ((M 78 x2.toNat) ≤ (M 78 x1.toNat) → (m_ir (x2 + 1)) ∧ X_ kk_X7_leader 4 [v_P 75, v_I x1, v_I (x2 + 1)] [] M Q) ∧ (¬ (M 78 x2.toNat) ≤ (M 78 x1.toNat) → (m_ir (x2 + 1)) ∧ X_ kk_X7_leader 4 [v_P 75, v_I x2, v_I (x2 + 1)] [] M Q))) : X_ kk_X7_leader 4 [v_P 75, v_I x1, v_I x2] [] M Q := by
  refine x_iload_n dX7_leader_4 rfl rfl ?_
  refine x_iconst dX7_leader_5 (by decide) ?_
  refine x_ic_ge (tgt := 32) dX7_leader_6 (by decide) (fun hc => ?_) (fun hc => ?_)
  · replace h := h.1 hc
    refine x_iload_n dX7_leader_32 rfl rfl ?_
    refine x_iret dX7_leader_33 rfl (Or.inl rfl) (fun _ _ => h)
  · replace h := h.2 hc
    refine x_aload_n dX7_leader_9 rfl rfl ?_
    refine y_getP dX7_leader_10 sh_75 cf_X7 fl_X7_18 (by decide) (by decide) gg_75_4 ?_
    refine x_iload_n dX7_leader_13 rfl rfl ?_
    obtain ⟨s1, h⟩ := h
    refine x_iald dX7_leader_14 sh_78 s1 ?_
    refine x_aload_n dX7_leader_15 rfl rfl ?_
    refine y_getP dX7_leader_16 sh_75 cf_X7 fl_X7_18 (by decide) (by decide) gg_75_4 ?_
    refine x_iload_n dX7_leader_19 rfl rfl ?_
    obtain ⟨s2, h⟩ := h
    refine x_iald dX7_leader_20 sh_78 s2 ?_
    refine x_ic_le (tgt := 26) dX7_leader_21 (by decide) (fun hc => ?_) (fun hc => ?_)
    · replace h := h.1 hc
      obtain ⟨s3, h⟩ := h
      refine y_iinc (ls' := [v_P 75, v_I x1, v_I (x2 + 1)]) dX7_leader_26 rfl s3 (by decide) rfl ?_
      refine x_goto (tgt := 4) dX7_leader_29 (by decide) ?_
      exact h
    · replace h := h.2 hc
      refine x_iload_n dX7_leader_24 rfl rfl ?_
      refine y_istore_n (ls' := [v_P 75, v_I x2, v_I x2]) dX7_leader_25 rfl (by decide) rfl ?_
      obtain ⟨s4, h⟩ := h
      refine y_iinc (ls' := [v_P 75, v_I x2, v_I (x2 + 1)]) dX7_leader_26 rfl s4 (by decide) rfl ?_
      refine x_goto (tgt := 4) dX7_leader_29 (by decide) ?_
      exact h
