theorem wp_X4_runAsItIs_0 {M : mM} {Q : Int → mM → Prop} (h : ∃ Qc1 : Int → mM → Prop, C_ kk_X4_open [v_P 30, v_P 5, v_I (M 1 8)] M Qc1 ∧ ∀ (r2 : Int) (M3 : mM), m_ir r2 → m_okM M3 → Qc1 r2 M3 → ∃ Qc8 : Int → mM → Prop, C_ kk_X4_run [v_P 30] M3 Qc8 ∧ ∀ (r9 : Int) (M10 : mM), m_ir r9 → m_okM M10 → Qc8 r9 M10 → Q 0 M10) : X_ kk_X4_runAsItIs 0 [v_P 30] [] M Q := by
  refine x_aload_n dX4_runAsItIs_0 rfl rfl ?_
  refine x_aload_n dX4_runAsItIs_1 rfl rfl ?_
  refine y_getP dX4_runAsItIs_2 sh_30 cf_X4 fl_X4_56 (by decide) (by decide) gg_30_0 ?_
  refine y_getP dX4_runAsItIs_5 sh_1 cf_X6 fl_X4_60 (by decide) (by decide) gg_1_4 ?_
  refine x_aload_n dX4_runAsItIs_8 rfl rfl ?_
  refine y_getP dX4_runAsItIs_9 sh_30 cf_X4 fl_X4_56 (by decide) (by decide) gg_30_0 ?_
  refine x_getI dX4_runAsItIs_12 sh_1 cf_X6 fl_X4_66 (by decide) (by decide) ?_
  obtain ⟨Qc1, hc4, h⟩ := h
  refine x_callV (as := [v_P 5, v_I (M 1 8)]) (st := []) (Qc := Qc1) dX4_runAsItIs_15 mt_X4_open ml_X4_70 ⟨by decide, by decide⟩ sh_30 rfl (fun _ _ => Nat.le_of_ble_eq_true rfl) hc4 (fun r2 M3 hr5 hM6 hq7 => ?_)
  replace h := h r2 M3 hr5 hM6 hq7
  change X_ kk_X4_runAsItIs 18 [v_P 30] [] M3 Q
  refine x_aload_n dX4_runAsItIs_18 rfl rfl ?_
  obtain ⟨Qc8, hc11, h⟩ := h
  refine x_callV (as := []) (st := []) (Qc := Qc8) dX4_runAsItIs_19 mt_X4_run ml_X4_74 ⟨by decide, by decide⟩ sh_30 rfl (fun _ _ => Nat.le_of_ble_eq_true rfl) hc11 (fun r9 M10 hr12 hM13 hq14 => ?_)
  replace h := h r9 M10 hr12 hM13 hq14
  change X_ kk_X4_runAsItIs 22 [v_P 30] [] M10 Q
  refine x_ret dX4_runAsItIs_22 rfl (fun _ => h)
theorem wp_X4_gainWith_0 {x1 x2 x3 : Int} {M : mM} {Q : Int → mM → Prop} (h : ∃ Qc1 : Int → mM → Prop, C_ kk_X4_open [v_P 30, v_P 5, v_I x3] M Qc1 ∧ ∀ (r2 : Int) (M3 : mM), m_ir r2 → m_okM M3 → Qc1 r2 M3 → (m_ir (100 - x2)) ∧ (0 ≤ x1 ∧ x1 < 6) ∧ ∃ Qc10 : Int → mM → Prop, C_ kk_X4_run [v_P 30] (m_up M3 39 x1.toNat (100 - x2)) Qc10 ∧ ∀ (r11 : Int) (M12 : mM), m_ir r11 → m_okM M12 → Qc10 r11 M12 → ∃ Qc17 : Int → mM → Prop, C_ kk_X4_gainOf [v_P 30, v_I x1] M12 Qc17 ∧ ∀ (r18 : Int) (M19 : mM), m_ir r18 → m_okM M19 → Qc17 r18 M19 → Q r18 M19) : X_ kk_X4_gainWith 0 [v_P 30, v_I x1, v_I x2, v_I x3] [] M Q := by
  refine x_aload_n dX4_gainWith_0 rfl rfl ?_
  refine x_aload_n dX4_gainWith_1 rfl rfl ?_
  refine y_getP dX4_gainWith_2 sh_30 cf_X4 fl_X4_56 (by decide) (by decide) gg_30_0 ?_
  refine y_getP dX4_gainWith_5 sh_1 cf_X6 fl_X4_60 (by decide) (by decide) gg_1_4 ?_
  refine x_iload_n dX4_gainWith_8 rfl rfl ?_
  obtain ⟨Qc1, hc4, h⟩ := h
  refine x_callV (as := [v_P 5, v_I x3]) (st := []) (Qc := Qc1) dX4_gainWith_9 mt_X4_open ml_X4_70 ⟨by decide, by decide⟩ sh_30 rfl (fun _ _ => Nat.le_of_ble_eq_true rfl) hc4 (fun r2 M3 hr5 hM6 hq7 => ?_)
  replace h := h r2 M3 hr5 hM6 hq7
  change X_ kk_X4_gainWith 12 [v_P 30, v_I x1, v_I x2, v_I x3] [] M3 Q
  refine x_aload_n dX4_gainWith_12 rfl rfl ?_
  refine y_getP dX4_gainWith_13 sh_30 cf_X4 fl_X4_36 (by decide) (by decide) gg_30_9 ?_
  refine x_iload_n dX4_gainWith_16 rfl rfl ?_
  refine x_bipush dX4_gainWith_17 (by decide) (by decide) ?_
  refine x_iload_n dX4_gainWith_19 rfl rfl ?_
  obtain ⟨s8, h⟩ := h
  refine x_isub dX4_gainWith_20 s8 ?_
  obtain ⟨s9, h⟩ := h
  refine x_iast dX4_gainWith_21 sh_39 s9 ?_
  refine x_aload_n dX4_gainWith_22 rfl rfl ?_
  obtain ⟨Qc10, hc13, h⟩ := h
  refine x_callV (as := []) (st := []) (Qc := Qc10) dX4_gainWith_23 mt_X4_run ml_X4_74 ⟨by decide, by decide⟩ sh_30 rfl (fun _ _ => Nat.le_of_ble_eq_true rfl) hc13 (fun r11 M12 hr14 hM15 hq16 => ?_)
  replace h := h r11 M12 hr14 hM15 hq16
  change X_ kk_X4_gainWith 26 [v_P 30, v_I x1, v_I x2, v_I x3] [] M12 Q
  refine x_aload_n dX4_gainWith_26 rfl rfl ?_
  refine x_iload_n dX4_gainWith_27 rfl rfl ?_
  obtain ⟨Qc17, hc20, h⟩ := h
  refine x_callV (as := [v_I x1]) (st := []) (Qc := Qc17) dX4_gainWith_28 mt_X4_gainOf ml_X4_77 ⟨by decide, by decide⟩ sh_30 rfl (fun _ _ => Nat.le_of_ble_eq_true rfl) hc20 (fun r18 M19 hr21 hM22 hq23 => ?_)
  replace h := h r18 M19 hr21 hM22 hq23
  change X_ kk_X4_gainWith 31 [v_P 30, v_I x1, v_I x2, v_I x3] [v_I r18] M19 Q
  refine x_iret dX4_gainWith_31 rfl (Or.inl rfl) (fun _ _ => h)
theorem wp_X4_gainOf_0 {x1 : Int} {M : mM} {Q : Int → mM → Prop} (h : (0 ≤ x1 ∧ x1 < 6) ∧ (0 ≤ x1 ∧ x1 < 6) ∧ (m_ir ((M 35 x1.toNat) - (M 36 x1.toNat))) ∧ Q ((M 35 x1.toNat) - (M 36 x1.toNat)) M) : X_ kk_X4_gainOf 0 [v_P 30, v_I x1] [] M Q := by
  refine x_aload_n dX4_gainOf_0 rfl rfl ?_
  refine y_getP dX4_gainOf_1 sh_30 cf_X4 fl_X4_24 (by decide) (by decide) gg_30_5 ?_
  refine x_iload_n dX4_gainOf_4 rfl rfl ?_
  obtain ⟨s1, h⟩ := h
  refine x_iald dX4_gainOf_5 sh_35 s1 ?_
  refine x_aload_n dX4_gainOf_6 rfl rfl ?_
  refine y_getP dX4_gainOf_7 sh_30 cf_X4 fl_X4_27 (by decide) (by decide) gg_30_6 ?_
  refine x_iload_n dX4_gainOf_10 rfl rfl ?_
  obtain ⟨s2, h⟩ := h
  refine x_iald dX4_gainOf_11 sh_36 s2 ?_
  obtain ⟨s3, h⟩ := h
  refine x_isub dX4_gainOf_12 s3 ?_
  refine x_iret dX4_gainOf_13 rfl (Or.inl rfl) (fun _ _ => h)
theorem wp_X4_worthTogether_0 {M : mM} {Q : Int → mM → Prop} (h : X_ kk_X4_worthTogether 4 [v_P 30, v_I 0, v_I 0] [] M Q) : X_ kk_X4_worthTogether 0 [v_P 30, v_U, v_U] [] M Q := by
  refine x_iconst dX4_worthTogether_0 (by decide) ?_
  refine y_istore_n (ls' := [v_P 30, v_I 0, v_U]) dX4_worthTogether_1 rfl (by decide) rfl ?_
  refine x_iconst dX4_worthTogether_2 (by decide) ?_
  refine y_istore_n (ls' := [v_P 30, v_I 0, v_I 0]) dX4_worthTogether_3 rfl (by decide) rfl ?_
  exact h
theorem wp_X4_worthTogether_4 {x1 x2 : Int} {M : mM} {Q : Int → mM → Prop} (h : ((M 1 6) ≤ x2 → Q x1 M) ∧ (¬ (M 1 6) ≤ x2 → (0 ≤ x2 ∧ x2 < 6) ∧ (m_ir (x1 + (M 35 x2.toNat))) ∧ (m_ir (x2 + 1)) ∧ X_ kk_X4_worthTogether 4 [v_P 30, v_I (x1 + (M 35 x2.toNat)), v_I (x2 + 1)] [] M Q)) : X_ kk_X4_worthTogether 4 [v_P 30, v_I x1, v_I x2] [] M Q := by
  refine x_iload_n dX4_worthTogether_4 rfl rfl ?_
  refine x_aload_n dX4_worthTogether_5 rfl rfl ?_
  refine y_getP dX4_worthTogether_6 sh_30 cf_X4 fl_X4_56 (by decide) (by decide) gg_30_0 ?_
  refine x_getI dX4_worthTogether_9 sh_1 cf_X6 fl_X4_81 (by decide) (by decide) ?_
  refine x_ic_ge (tgt := 30) dX4_worthTogether_12 (by decide) (fun hc => ?_) (fun hc => ?_)
  · replace h := h.1 hc
    refine x_iload_n dX4_worthTogether_30 rfl rfl ?_
    refine x_iret dX4_worthTogether_31 rfl (Or.inl rfl) (fun _ _ => h)
  · replace h := h.2 hc
    refine x_iload_n dX4_worthTogether_15 rfl rfl ?_
    refine x_aload_n dX4_worthTogether_16 rfl rfl ?_
    refine y_getP dX4_worthTogether_17 sh_30 cf_X4 fl_X4_24 (by decide) (by decide) gg_30_5 ?_
    refine x_iload_n dX4_worthTogether_20 rfl rfl ?_
    obtain ⟨s1, h⟩ := h
    refine x_iald dX4_worthTogether_21 sh_35 s1 ?_
    obtain ⟨s2, h⟩ := h
    refine x_iadd dX4_worthTogether_22 s2 ?_
    refine y_istore_n (ls' := [v_P 30, v_I (x1 + (M 35 x2.toNat)), v_I x2]) dX4_worthTogether_23 rfl (by decide) rfl ?_
    obtain ⟨s3, h⟩ := h
    refine y_iinc (ls' := [v_P 30, v_I (x1 + (M 35 x2.toNat)), v_I (x2 + 1)]) dX4_worthTogether_24 rfl s3 (by decide) rfl ?_
    refine x_goto (tgt := 4) dX4_worthTogether_27 (by decide) ?_
    exact h
theorem wp_X4_open_0 {x2 : Int} {q1 : Nat} {M : mM} {Q : Int → mM → Prop} (hq1 : q1 < 111) (h : X_ kk_X4_open 12 [v_P 30, v_U, v_U, v_I 0] [] (m_up (m_up M 30 15 ((q1 : Nat) : Int)) 30 16 x2) Q) : X_ kk_X4_open 0 [v_P 30, v_P q1, v_I x2, v_U] [] M Q := by
  refine x_aload_n dX4_open_0 rfl rfl ?_
  refine x_aload_n dX4_open_1 rfl rfl ?_
  refine x_putM dX4_open_2 sh_30 cf_X4 fl_X4_65 (by decide) rfl (by decide) rfl hq1 ?_
  refine x_aload_n dX4_open_5 rfl rfl ?_
  refine x_iload_n dX4_open_6 rfl rfl ?_
  refine x_putI dX4_open_7 sh_30 cf_X4 fl_X4_84 (by decide) rfl (by decide) (Or.inl rfl) ?_
  refine x_iconst dX4_open_10 (by decide) ?_
  refine y_istore_n (ls' := [v_P 30, v_P q1, v_I x2, v_I 0]) dX4_open_11 rfl (by decide) rfl ?_
  refine y_forget 1 (ls' := [v_P 30, v_U, v_I x2, v_I 0]) rfl ?_
  refine y_forget 2 (ls' := [v_P 30, v_U, v_U, v_I 0]) rfl ?_
  exact h
theorem wp_X4_open_12 {x3 : Int} {M : mM} {Q : Int → mM → Prop} (h : ((M 1 6) ≤ x3 → Q 0 M) ∧ (¬ (M 1 6) ≤ x3 → (0 ≤ x3 ∧ x3 < 6) ∧ (0 ≤ x3 ∧ x3 < 6) ∧ (0 ≤ x3 ∧ x3 < 6) ∧ ((0 : Int) ≤ x3 ∧ x3 < (6 : Int)) ∧ (0 ≤ x3 ∧ x3 < 6) ∧ ∀ M7 : mM, M7 = m_up (m_up (m_up (m_up M 34 x3.toNat 0) 35 x3.toNat 0) 36 x3.toNat 0) 37 x3.toNat (M (8 + 3 * x3.toNat) 0) → (0 ≤ x3 ∧ x3 < 6) ∧ ((0 : Int) ≤ x3 ∧ x3 < (6 : Int)) ∧ (m_ir (100 - (M (8 + 3 * x3.toNat) 1))) ∧ (0 ≤ x3 ∧ x3 < 6) ∧ ∀ M14 : mM, M14 = m_up (m_up M7 38 x3.toNat 0) 39 x3.toNat (100 - (M (8 + 3 * x3.toNat) 1)) → (m_ir (x3 + 1)) ∧ X_ kk_X4_open 12 [v_P 30, v_U, v_U, v_I (x3 + 1)] [] M14 Q)) : X_ kk_X4_open 12 [v_P 30, v_U, v_U, v_I x3] [] M Q := by
  refine x_iload_n dX4_open_12 rfl rfl ?_
  refine x_aload_n dX4_open_13 rfl rfl ?_
  refine y_getP dX4_open_14 sh_30 cf_X4 fl_X4_56 (by decide) (by decide) gg_30_0 ?_
  refine x_getI dX4_open_17 sh_1 cf_X6 fl_X4_81 (by decide) (by decide) ?_
  refine x_ic_ge (tgt := 96) dX4_open_20 (by decide) (fun hc => ?_) (fun hc => ?_)
  · replace h := h.1 hc
    refine x_ret dX4_open_96 rfl (fun _ => h)
  · replace h := h.2 hc
    refine x_aload_n dX4_open_23 rfl rfl ?_
    refine y_getP dX4_open_24 sh_30 cf_X4 fl_X4_21 (by decide) (by decide) gg_30_4 ?_
    refine x_iload_n dX4_open_27 rfl rfl ?_
    refine x_iconst dX4_open_28 (by decide) ?_
    obtain ⟨s1, h⟩ := h
    refine x_iast dX4_open_29 sh_34 s1 ?_
    refine x_aload_n dX4_open_30 rfl rfl ?_
    refine y_getP dX4_open_31 sh_30 cf_X4 fl_X4_24 (by decide) (by decide) gg_30_5 ?_
    refine x_iload_n dX4_open_34 rfl rfl ?_
    refine x_iconst dX4_open_35 (by decide) ?_
    obtain ⟨s2, h⟩ := h
    refine x_iast dX4_open_36 sh_35 s2 ?_
    refine x_aload_n dX4_open_37 rfl rfl ?_
    refine y_getP dX4_open_38 sh_30 cf_X4 fl_X4_27 (by decide) (by decide) gg_30_6 ?_
    refine x_iload_n dX4_open_41 rfl rfl ?_
    refine x_iconst dX4_open_42 (by decide) ?_
    obtain ⟨s3, h⟩ := h
    refine x_iast dX4_open_43 sh_36 s3 ?_
    refine x_aload_n dX4_open_44 rfl rfl ?_
    refine y_getP dX4_open_45 sh_30 cf_X4 fl_X4_30 (by decide) (by decide) gg_30_7 ?_
    refine x_iload_n dX4_open_48 rfl rfl ?_
    refine x_aload_n dX4_open_49 rfl rfl ?_
    refine y_getP dX4_open_50 sh_30 cf_X4 fl_X4_56 (by decide) (by decide) gg_30_0 ?_
    refine y_getP dX4_open_53 sh_1 cf_X6 fl_X4_85 (by decide) (by decide) gg_1_7 ?_
    refine x_iload_n dX4_open_56 rfl rfl ?_
    obtain ⟨s4, h⟩ := h
    refine y_aaldB dX4_open_57 s4 ?_
    have g5 := isB_at (j := x3.toNat) (by clear h; omega)
    refine y_getI (v := (M (8 + 3 * x3.toNat) 0)) dX4_open_58 (g5).1 cf_X1 fl_X4_89 (by decide) (by decide) ((m_up_ne (Or.inl (by clear h; omega))).trans ((m_up_ne (Or.inl (by clear h; omega))).trans (m_up_ne (Or.inl (by clear h; omega))))) ?_
    obtain ⟨s6, h⟩ := h
    refine x_iast dX4_open_61 sh_37 s6 ?_
    obtain ⟨M7, e8⟩ : ∃ z : mM, z = m_up (m_up (m_up (m_up M 34 x3.toNat 0) 35 x3.toNat 0) 36 x3.toNat 0) 37 x3.toNat (M (8 + 3 * x3.toNat) 0) := ⟨_, rfl⟩
    rw [← e8]
    replace h := h M7 e8
    refine x_aload_n dX4_open_62 rfl rfl ?_
    refine y_getP dX4_open_63 sh_30 cf_X4 fl_X4_33 (by decide) (by decide) gg_30_8 ?_
    refine x_iload_n dX4_open_66 rfl rfl ?_
    refine x_iconst dX4_open_67 (by decide) ?_
    obtain ⟨s9, h⟩ := h
    refine x_iast dX4_open_68 sh_38 s9 ?_
    refine x_aload_n dX4_open_69 rfl rfl ?_
    refine y_getP dX4_open_70 sh_30 cf_X4 fl_X4_36 (by decide) (by decide) gg_30_9 ?_
    refine x_iload_n dX4_open_73 rfl rfl ?_
    refine x_bipush dX4_open_74 (by decide) (by decide) ?_
    refine x_aload_n dX4_open_76 rfl rfl ?_
    refine y_getP dX4_open_77 sh_30 cf_X4 fl_X4_56 (by decide) (by decide) gg_30_0 ?_
    refine y_getP dX4_open_80 sh_1 cf_X6 fl_X4_85 (by decide) (by decide) gg_1_7 ?_
    refine x_iload_n dX4_open_83 rfl rfl ?_
    obtain ⟨s10, h⟩ := h
    refine y_aaldB dX4_open_84 s10 ?_
    have g11 := isB_at (j := x3.toNat) (by clear h; omega)
    refine y_getI (v := (M (8 + 3 * x3.toNat) 1)) dX4_open_85 (g11).1 cf_X1 fl_X4_93 (by decide) (by decide) ((m_up_ne (Or.inl (by clear h; omega))).trans ((congrFun (congrFun e8 (8 + 3 * x3.toNat)) 1).trans ((m_up_ne (Or.inl (by clear h; omega))).trans ((m_up_ne (Or.inl (by clear h; omega))).trans ((m_up_ne (Or.inl (by clear h; omega))).trans (m_up_ne (Or.inl (by clear h; omega)))))))) ?_
    obtain ⟨s12, h⟩ := h
    refine x_isub dX4_open_88 s12 ?_
    obtain ⟨s13, h⟩ := h
    refine x_iast dX4_open_89 sh_39 s13 ?_
    obtain ⟨M14, e15⟩ : ∃ z : mM, z = m_up (m_up M7 38 x3.toNat 0) 39 x3.toNat (100 - (M (8 + 3 * x3.toNat) 1)) := ⟨_, rfl⟩
    rw [← e15]
    replace h := h M14 e15
    obtain ⟨s16, h⟩ := h
    refine y_iinc (ls' := [v_P 30, v_U, v_U, v_I (x3 + 1)]) dX4_open_90 rfl s16 (by decide) rfl ?_
    refine x_goto (tgt := 12) dX4_open_93 (by decide) ?_
    exact h
theorem wp_X4_run_0 {M : mM} {Q : Int → mM → Prop} (h : X_ kk_X4_run 2 [v_P 30, v_I 0, v_U, v_U, v_U] [] M Q) : X_ kk_X4_run 0 [v_P 30, v_U, v_U, v_U, v_U] [] M Q := by
  refine x_iconst dX4_run_0 (by decide) ?_
  refine y_istore_n (ls' := [v_P 30, v_I 0, v_U, v_U, v_U]) dX4_run_1 rfl (by decide) rfl ?_
  exact h
theorem wp_X4_run_2 {x1 : Int} {M : mM} {Q : Int → mM → Prop} (h : (3 ≤ x1 → X_ kk_X4_run 22 [v_P 30, v_I 0, v_U, v_U, v_U] [] M Q) ∧ (¬ 3 ≤ x1 → ∃ Qc1 : Int → mM → Prop, C_ kk_X4_bringOn [v_P 30, v_I x1, v_I 0, v_I 0] M Qc1 ∧ ∀ (r2 : Int) (M3 : mM), m_ir r2 → m_okM M3 → Qc1 r2 M3 → (m_ir (x1 + 1)) ∧ X_ kk_X4_run 2 [v_P 30, v_I (x1 + 1), v_U, v_U, v_U] [] M3 Q)) : X_ kk_X4_run 2 [v_P 30, v_I x1, v_U, v_U, v_U] [] M Q := by
  refine x_iload_n dX4_run_2 rfl rfl ?_
  refine x_iconst dX4_run_3 (by decide) ?_
  refine x_ic_ge (tgt := 20) dX4_run_4 (by decide) (fun hc => ?_) (fun hc => ?_)
  · replace h := h.1 hc
    refine x_iconst dX4_run_20 (by decide) ?_
    refine y_istore_n (ls' := [v_P 30, v_I 0, v_U, v_U, v_U]) dX4_run_21 rfl (by decide) rfl ?_
    exact h
  · replace h := h.2 hc
    refine x_aload_n dX4_run_7 rfl rfl ?_
    refine x_iload_n dX4_run_8 rfl rfl ?_
    refine x_iconst dX4_run_9 (by decide) ?_
    refine x_iconst dX4_run_10 (by decide) ?_
    obtain ⟨Qc1, hc4, h⟩ := h
    refine x_callV (as := [v_I x1, v_I 0, v_I 0]) (st := []) (Qc := Qc1) dX4_run_11 mt_X4_bringOn ml_X4_96 ⟨by decide, by decide⟩ sh_30 rfl (fun _ _ => Nat.le_of_ble_eq_true rfl) hc4 (fun r2 M3 hr5 hM6 hq7 => ?_)
    replace h := h r2 M3 hr5 hM6 hq7
    change X_ kk_X4_run 14 [v_P 30, v_I x1, v_U, v_U, v_U] [] M3 Q
    obtain ⟨s8, h⟩ := h
    refine y_iinc (ls' := [v_P 30, v_I (x1 + 1), v_U, v_U, v_U]) dX4_run_14 rfl s8 (by decide) rfl ?_
    refine x_goto (tgt := 2) dX4_run_17 (by decide) ?_
    exact h
theorem wp_X4_run_22 {x1 : Int} {M : mM} {Q : Int → mM → Prop} (h : ((M 1 0) ≤ x1 → Q 0 M) ∧ (¬ (M 1 0) ≤ x1 → ∃ Qc1 : Int → mM → Prop, C_ kk_X4_nextToEnd [v_P 30] M Qc1 ∧ ∀ (r2 : Int) (M3 : mM), m_ir r2 → m_okM M3 → Qc1 r2 M3 → (0 ≤ r2 → (0 ≤ r2 ∧ r2 < 3) ∧ ((m_sh ((M3 30 15).toNat)).1 = 20 ∧ 0 ≤ (M3 40 r2.toNat) ∧ (M3 40 r2.toNat) < ((m_sh ((M3 30 15).toNat)).2 : Int)) ∧ ∃ Qc10 : Int → mM → Prop, C_ kk_X4_endTick [v_P 30, v_I r2] M3 Qc10 ∧ ∀ (r11 : Int) (M12 : mM), m_ir r11 → m_okM M12 → Qc10 r11 M12 → (0 ≤ (M3 ((M3 30 15).toNat) ((M3 40 r2.toNat).toNat)) ∧ (M3 ((M3 30 15).toNat) ((M3 40 r2.toNat).toNat)) < 8) ∧ ∃ Qc18 : Int → mM → Prop, C_ kk_X4_presser [v_P 30, v_I r2, v_I (M12 4 ((M3 ((M3 30 15).toNat) ((M3 40 r2.toNat).toNat)).toNat))] M12 Qc18 ∧ ∀ (r19 : Int) (M20 : mM), m_ir r19 → m_okM M20 → Qc18 r19 M20 → (0 ≤ (M3 ((M3 30 15).toNat) ((M3 40 r2.toNat).toNat)) ∧ (M3 ((M3 30 15).toNat) ((M3 40 r2.toNat).toNat)) < 8) ∧ ∀ M26 : mM, M26 = m_up M20 31 ((M3 ((M3 30 15).toNat) ((M3 40 r2.toNat).toNat)).toNat) r19 → (0 ≤ (M3 ((M3 30 15).toNat) ((M3 40 r2.toNat).toNat)) ∧ (M3 ((M3 30 15).toNat) ((M3 40 r2.toNat).toNat)) < 8) ∧ (0 ≤ r19 → (0 ≤ r2 ∧ r2 < 3) ∧ (0 ≤ (M3 ((M3 30 15).toNat) ((M3 40 r2.toNat).toNat)) ∧ (M3 ((M3 30 15).toNat) ((M3 40 r2.toNat).toNat)) < 8) ∧ ∀ M31 : mM, M31 = m_up M26 32 ((M3 ((M3 30 15).toNat) ((M3 40 r2.toNat).toNat)).toNat) (M20 43 r2.toNat) → (0 ≤ (M3 ((M3 30 15).toNat) ((M3 40 r2.toNat).toNat)) ∧ (M3 ((M3 30 15).toNat) ((M3 40 r2.toNat).toNat)) < 8) ∧ ∀ M34 : mM, M34 = m_up M31 33 ((M3 ((M3 30 15).toNat) ((M3 40 r2.toNat).toNat)).toNat) r11 → (0 ≤ (M3 ((M3 30 15).toNat) ((M3 40 r2.toNat).toNat)) ∧ (M3 ((M3 30 15).toNat) ((M3 40 r2.toNat).toNat)) < 8) ∧ (r19 < 0 → ∃ Qc37 : Int → mM → Prop, C_ kk_X4_lookFrom [v_P 30, v_I r2, v_I r11] M34 Qc37 ∧ ∀ (r38 : Int) (M39 : mM), m_ir r38 → m_okM M39 → Qc37 r38 M39 → (0 ≤ r2 ∧ r2 < 3) ∧ (m_ir ((M39 40 r2.toNat) + 1)) ∧ (m_ir (r11 + 1)) ∧ ∃ Qc47 : Int → mM → Prop, C_ kk_X4_bringOn [v_P 30, v_I r2, v_I ((M39 40 r2.toNat) + 1), v_I (r11 + 1)] M39 Qc47 ∧ ∀ (r48 : Int) (M49 : mM), m_ir r48 → m_okM M49 → Qc47 r48 M49 → (m_ir (x1 + 1)) ∧ X_ kk_X4_run 22 [v_P 30, v_I (x1 + 1), v_U, v_U, v_U] [] M49 Q) ∧ (¬ r19 < 0 → (0 ≤ (M3 ((M3 30 15).toNat) ((M3 40 r2.toNat).toNat)) ∧ (M3 ((M3 30 15).toNat) ((M3 40 r2.toNat).toNat)) < 8) ∧ (0 ≤ r2 ∧ r2 < 3) ∧ ∃ Qc57 : Int → mM → Prop, C_ kk_X4_hand [v_P 30, v_I r19, v_I (M3 ((M3 30 15).toNat) ((M3 40 r2.toNat).toNat)), v_I (M20 43 r2.toNat)] M34 Qc57 ∧ ∀ (r58 : Int) (M59 : mM), m_ir r58 → m_okM M59 → Qc57 r58 M59 → ∃ Qc64 : Int → mM → Prop, C_ kk_X4_lookFrom [v_P 30, v_I r2, v_I r11] M59 Qc64 ∧ ∀ (r65 : Int) (M66 : mM), m_ir r65 → m_okM M66 → Qc64 r65 M66 → (0 ≤ r2 ∧ r2 < 3) ∧ (m_ir ((M66 40 r2.toNat) + 1)) ∧ (m_ir (r11 + 1)) ∧ ∃ Qc74 : Int → mM → Prop, C_ kk_X4_bringOn [v_P 30, v_I r2, v_I ((M66 40 r2.toNat) + 1), v_I (r11 + 1)] M66 Qc74 ∧ ∀ (r75 : Int) (M76 : mM), m_ir r75 → m_okM M76 → Qc74 r75 M76 → (m_ir (x1 + 1)) ∧ X_ kk_X4_run 22 [v_P 30, v_I (x1 + 1), v_U, v_U, v_U] [] M76 Q)) ∧ (¬ 0 ≤ r19 → (0 ≤ (M3 ((M3 30 15).toNat) ((M3 40 r2.toNat).toNat)) ∧ (M3 ((M3 30 15).toNat) ((M3 40 r2.toNat).toNat)) < 8) ∧ ∀ M83 : mM, M83 = m_up M26 32 ((M3 ((M3 30 15).toNat) ((M3 40 r2.toNat).toNat)).toNat) (-6) → (0 ≤ (M3 ((M3 30 15).toNat) ((M3 40 r2.toNat).toNat)) ∧ (M3 ((M3 30 15).toNat) ((M3 40 r2.toNat).toNat)) < 8) ∧ ∀ M86 : mM, M86 = m_up M83 33 ((M3 ((M3 30 15).toNat) ((M3 40 r2.toNat).toNat)).toNat) r11 → (0 ≤ (M3 ((M3 30 15).toNat) ((M3 40 r2.toNat).toNat)) ∧ (M3 ((M3 30 15).toNat) ((M3 40 r2.toNat).toNat)) < 8) ∧ (r19 < 0 → ∃ Qc89 : Int → mM → Prop, C_ kk_X4_lookFrom [v_P 30, v_I r2, v_I r11] M86 Qc89 ∧ ∀ (r90 : Int) (M91 : mM), m_ir r90 → m_okM M91 → Qc89 r90 M91 → (0 ≤ r2 ∧ r2 < 3) ∧ (m_ir ((M91 40 r2.toNat) + 1)) ∧ (m_ir (r11 + 1)) ∧ ∃ Qc99 : Int → mM → Prop, C_ kk_X4_bringOn [v_P 30, v_I r2, v_I ((M91 40 r2.toNat) + 1), v_I (r11 + 1)] M91 Qc99 ∧ ∀ (r100 : Int) (M101 : mM), m_ir r100 → m_okM M101 → Qc99 r100 M101 → (m_ir (x1 + 1)) ∧ X_ kk_X4_run 22 [v_P 30, v_I (x1 + 1), v_U, v_U, v_U] [] M101 Q) ∧ (¬ r19 < 0 → (0 ≤ (M3 ((M3 30 15).toNat) ((M3 40 r2.toNat).toNat)) ∧ (M3 ((M3 30 15).toNat) ((M3 40 r2.toNat).toNat)) < 8) ∧ (0 ≤ r2 ∧ r2 < 3) ∧ ∃ Qc109 : Int → mM → Prop, C_ kk_X4_hand [v_P 30, v_I r19, v_I (M3 ((M3 30 15).toNat) ((M3 40 r2.toNat).toNat)), v_I (M20 43 r2.toNat)] M86 Qc109 ∧ ∀ (r110 : Int) (M111 : mM), m_ir r110 → m_okM M111 → Qc109 r110 M111 → ∃ Qc116 : Int → mM → Prop, C_ kk_X4_lookFrom [v_P 30, v_I r2, v_I r11] M111 Qc116 ∧ ∀ (r117 : Int) (M118 : mM), m_ir r117 → m_okM M118 → Qc116 r117 M118 → (0 ≤ r2 ∧ r2 < 3) ∧ (m_ir ((M118 40 r2.toNat) + 1)) ∧ (m_ir (r11 + 1)) ∧ ∃ Qc126 : Int → mM → Prop, C_ kk_X4_bringOn [v_P 30, v_I r2, v_I ((M118 40 r2.toNat) + 1), v_I (r11 + 1)] M118 Qc126 ∧ ∀ (r127 : Int) (M128 : mM), m_ir r127 → m_okM M128 → Qc126 r127 M128 → (m_ir (x1 + 1)) ∧ X_ kk_X4_run 22 [v_P 30, v_I (x1 + 1), v_U, v_U, v_U] [] M128 Q))) ∧ (¬ 0 ≤ r2 → Q 0 M3))) : X_ kk_X4_run 22 [v_P 30, v_I x1, v_U, v_U, v_U] [] M Q := by
  refine x_iload_n dX4_run_22 rfl rfl ?_
  refine x_aload_n dX4_run_23 rfl rfl ?_
  refine y_getP dX4_run_24 sh_30 cf_X4 fl_X4_56 (by decide) (by decide) gg_30_0 ?_
  refine x_getI dX4_run_27 sh_1 cf_X6 fl_X4_100 (by decide) (by decide) ?_
  refine x_ic_ge (tgt := 172) dX4_run_30 (by decide) (fun hc => ?_) (fun hc => ?_)
  · replace h := h.1 hc
    refine x_ret dX4_run_172 rfl (fun _ => h)
  · replace h := h.2 hc
    refine x_aload_n dX4_run_33 rfl rfl ?_
    obtain ⟨Qc1, hc4, h⟩ := h
    refine x_callV (as := []) (st := []) (Qc := Qc1) dX4_run_34 mt_X4_nextToEnd ml_X4_103 ⟨by decide, by decide⟩ sh_30 rfl (fun _ _ => Nat.le_of_ble_eq_true rfl) hc4 (fun r2 M3 hr5 hM6 hq7 => ?_)
    replace h := h r2 M3 hr5 hM6 hq7
    change X_ kk_X4_run 37 [v_P 30, v_I x1, v_U, v_U, v_U] [v_I r2] M3 Q
    refine y_istore_n (ls' := [v_P 30, v_I x1, v_I r2, v_U, v_U]) dX4_run_37 rfl (by decide) rfl ?_
    refine x_iload_n dX4_run_38 rfl rfl ?_
    refine x_if_ge (tgt := 43) dX4_run_39 (by decide) (fun hc => ?_) (fun hc => ?_)
    · replace h := h.1 hc
      refine x_aload_n dX4_run_43 rfl rfl ?_
      refine x_getM dX4_run_44 sh_30 cf_X4 fl_X4_65 (by decide) (by decide) ?_
      refine x_aload_n dX4_run_47 rfl rfl ?_
      refine y_getP dX4_run_48 sh_30 cf_X4 fl_X4_39 (by decide) (by decide) gg_30_10 ?_
      refine x_iload_n dX4_run_51 rfl rfl ?_
      obtain ⟨s8, h⟩ := h
      refine x_iald dX4_run_52 sh_40 s8 ?_
      obtain ⟨s9, h⟩ := h
      refine x_iald (n := (m_sh ((M3 30 15).toNat)).2) dX4_run_53 (Prod.ext s9.1 rfl) s9.2 ?_
      refine y_istore_n (ls' := [v_P 30, v_I x1, v_I r2, v_I (M3 ((M3 30 15).toNat) ((M3 40 r2.toNat).toNat)), v_U]) dX4_run_54 rfl (by decide) rfl ?_
      refine x_aload_n dX4_run_55 rfl rfl ?_
      refine x_iload_n dX4_run_56 rfl rfl ?_
      obtain ⟨Qc10, hc13, h⟩ := h
      refine x_callV (as := [v_I r2]) (st := []) (Qc := Qc10) dX4_run_57 mt_X4_endTick ml_X4_107 ⟨by decide, by decide⟩ sh_30 rfl (fun _ _ => Nat.le_of_ble_eq_true rfl) hc13 (fun r11 M12 hr14 hM15 hq16 => ?_)
      replace h := h r11 M12 hr14 hM15 hq16
      change X_ kk_X4_run 60 [v_P 30, v_I x1, v_I r2, v_I (M3 ((M3 30 15).toNat) ((M3 40 r2.toNat).toNat)), v_U] [v_I r11] M12 Q
      refine y_istore (ls' := [v_P 30, v_I x1, v_I r2, v_I (M3 ((M3 30 15).toNat) ((M3 40 r2.toNat).toNat)), v_I r11]) dX4_run_60 (by decide) rfl ?_
      refine x_aload_n dX4_run_62 rfl rfl ?_
      refine y_getP dX4_run_63 sh_30 cf_X4 fl_X4_9 (by decide) (by decide) gg_30_1 ?_
      refine x_iload_n dX4_run_66 rfl rfl ?_
      refine x_aload_n dX4_run_67 rfl rfl ?_
      refine x_iload_n dX4_run_68 rfl rfl ?_
      refine x_aload_n dX4_run_69 rfl rfl ?_
      refine y_getP dX4_run_70 sh_30 cf_X4 fl_X4_56 (by decide) (by decide) gg_30_0 ?_
      refine y_getP dX4_run_73 sh_1 cf_X6 fl_X4_110 (by decide) (by decide) gg_1_3 ?_
      refine x_iload_n dX4_run_76 rfl rfl ?_
      obtain ⟨s17, h⟩ := h
      refine x_iald dX4_run_77 sh_4 s17 ?_
      obtain ⟨Qc18, hc21, h⟩ := h
      refine x_callV (as := [v_I r2, v_I (M12 4 ((M3 ((M3 30 15).toNat) ((M3 40 r2.toNat).toNat)).toNat))]) (st := [v_I (M3 ((M3 30 15).toNat) ((M3 40 r2.toNat).toNat)), v_P 31]) (Qc := Qc18) dX4_run_78 mt_X4_presser ml_X4_113 ⟨by decide, by decide⟩ sh_30 rfl (fun _ _ => Nat.le_of_ble_eq_true rfl) hc21 (fun r19 M20 hr22 hM23 hq24 => ?_)
      replace h := h r19 M20 hr22 hM23 hq24
      change X_ kk_X4_run 81 [v_P 30, v_I x1, v_I r2, v_I (M3 ((M3 30 15).toNat) ((M3 40 r2.toNat).toNat)), v_I r11] [v_I r19, v_I (M3 ((M3 30 15).toNat) ((M3 40 r2.toNat).toNat)), v_P 31] M20 Q
      obtain ⟨s25, h⟩ := h
      refine x_iast dX4_run_81 sh_31 s25 ?_
      obtain ⟨M26, e27⟩ : ∃ z : mM, z = m_up M20 31 ((M3 ((M3 30 15).toNat) ((M3 40 r2.toNat).toNat)).toNat) r19 := ⟨_, rfl⟩
      rw [← e27]
      replace h := h M26 e27
      refine x_aload_n dX4_run_82 rfl rfl ?_
      refine y_getP dX4_run_83 sh_30 cf_X4 fl_X4_15 (by decide) (by decide) gg_30_2 ?_
      refine x_iload_n dX4_run_86 rfl rfl ?_
      refine x_aload_n dX4_run_87 rfl rfl ?_
      refine y_getP dX4_run_88 sh_30 cf_X4 fl_X4_9 (by decide) (by decide) gg_30_1 ?_
      refine x_iload_n dX4_run_91 rfl rfl ?_
      obtain ⟨s28, h⟩ := h
      refine y_iald (v := r19) dX4_run_92 sh_31 s28 ((congrFun (congrFun e27 31) ((M3 ((M3 30 15).toNat) ((M3 40 r2.toNat).toNat)).toNat)).trans (m_up_same _ _ _ _)) ?_
      refine x_if_ge (tgt := 101) dX4_run_93 (by decide) (fun hc => ?_) (fun hc => ?_)
      · replace h := h.1 hc
        refine x_aload_n dX4_run_101 rfl rfl ?_
        refine y_getP dX4_run_102 sh_30 cf_X4 fl_X4_48 (by decide) (by decide) gg_30_13 ?_
        refine x_iload_n dX4_run_105 rfl rfl ?_
        obtain ⟨s29, h⟩ := h
        refine y_iald (v := (M20 43 r2.toNat)) dX4_run_106 sh_43 s29 ((congrFun (congrFun e27 43) r2.toNat).trans (m_up_ne (Or.inl (by decide)))) ?_
        obtain ⟨s30, h⟩ := h
        refine x_iast dX4_run_107 sh_32 s30 ?_
        obtain ⟨M31, e32⟩ : ∃ z : mM, z = m_up M26 32 ((M3 ((M3 30 15).toNat) ((M3 40 r2.toNat).toNat)).toNat) (M20 43 r2.toNat) := ⟨_, rfl⟩
        rw [← e32]
        replace h := h M31 e32
        refine x_aload_n dX4_run_108 rfl rfl ?_
        refine y_getP dX4_run_109 sh_30 cf_X4 fl_X4_18 (by decide) (by decide) gg_30_3 ?_
        refine x_iload_n dX4_run_112 rfl rfl ?_
        refine x_iload dX4_run_113 rfl ?_
        obtain ⟨s33, h⟩ := h
        refine x_iast dX4_run_115 sh_33 s33 ?_
        obtain ⟨M34, e35⟩ : ∃ z : mM, z = m_up M31 33 ((M3 ((M3 30 15).toNat) ((M3 40 r2.toNat).toNat)).toNat) r11 := ⟨_, rfl⟩
        rw [← e35]
        replace h := h M34 e35
        refine x_aload_n dX4_run_116 rfl rfl ?_
        refine y_getP dX4_run_117 sh_30 cf_X4 fl_X4_9 (by decide) (by decide) gg_30_1 ?_
        refine x_iload_n dX4_run_120 rfl rfl ?_
        obtain ⟨s36, h⟩ := h
        refine y_iald (v := r19) dX4_run_121 sh_31 s36 ((congrFun (congrFun e35 31) ((M3 ((M3 30 15).toNat) ((M3 40 r2.toNat).toNat)).toNat)).trans ((m_up_ne (Or.inl (by decide))).trans ((congrFun (congrFun e32 31) ((M3 ((M3 30 15).toNat) ((M3 40 r2.toNat).toNat)).toNat)).trans ((m_up_ne (Or.inl (by decide))).trans ((congrFun (congrFun e27 31) ((M3 ((M3 30 15).toNat) ((M3 40 r2.toNat).toNat)).toNat)).trans (m_up_same _ _ _ _)))))) ?_
        refine x_if_lt (tgt := 142) dX4_run_122 (by decide) (fun hc => ?_) (fun hc => ?_)
        · replace h := h.1 hc
          refine x_aload_n dX4_run_142 rfl rfl ?_
          refine x_iload_n dX4_run_143 rfl rfl ?_
          refine x_iload dX4_run_144 rfl ?_
          obtain ⟨Qc37, hc40, h⟩ := h
          refine x_callV (as := [v_I r2, v_I r11]) (st := []) (Qc := Qc37) dX4_run_146 mt_X4_lookFrom ml_X4_120 ⟨by decide, by decide⟩ sh_30 rfl (fun _ _ => Nat.le_of_ble_eq_true rfl) hc40 (fun r38 M39 hr41 hM42 hq43 => ?_)
          replace h := h r38 M39 hr41 hM42 hq43
          change X_ kk_X4_run 149 [v_P 30, v_I x1, v_I r2, v_I (M3 ((M3 30 15).toNat) ((M3 40 r2.toNat).toNat)), v_I r11] [] M39 Q
          refine x_aload_n dX4_run_149 rfl rfl ?_
          refine x_iload_n dX4_run_150 rfl rfl ?_
          refine x_aload_n dX4_run_151 rfl rfl ?_
          refine y_getP dX4_run_152 sh_30 cf_X4 fl_X4_39 (by decide) (by decide) gg_30_10 ?_
          refine x_iload_n dX4_run_155 rfl rfl ?_
          obtain ⟨s44, h⟩ := h
          refine x_iald dX4_run_156 sh_40 s44 ?_
          refine x_iconst dX4_run_157 (by decide) ?_
          obtain ⟨s45, h⟩ := h
          refine x_iadd dX4_run_158 s45 ?_
          refine x_iload dX4_run_159 rfl ?_
          refine x_iconst dX4_run_161 (by decide) ?_
          obtain ⟨s46, h⟩ := h
          refine x_iadd dX4_run_162 s46 ?_
          obtain ⟨Qc47, hc50, h⟩ := h
          refine x_callV (as := [v_I r2, v_I ((M39 40 r2.toNat) + 1), v_I (r11 + 1)]) (st := []) (Qc := Qc47) dX4_run_163 mt_X4_bringOn ml_X4_96 ⟨by decide, by decide⟩ sh_30 rfl (fun _ _ => Nat.le_of_ble_eq_true rfl) hc50 (fun r48 M49 hr51 hM52 hq53 => ?_)
          replace h := h r48 M49 hr51 hM52 hq53
          change X_ kk_X4_run 166 [v_P 30, v_I x1, v_I r2, v_I (M3 ((M3 30 15).toNat) ((M3 40 r2.toNat).toNat)), v_I r11] [] M49 Q
          obtain ⟨s54, h⟩ := h
          refine y_iinc (ls' := [v_P 30, v_I (x1 + 1), v_I r2, v_I (M3 ((M3 30 15).toNat) ((M3 40 r2.toNat).toNat)), v_I r11]) dX4_run_166 rfl s54 (by decide) rfl ?_
          refine x_goto (tgt := 22) dX4_run_169 (by decide) ?_
          refine y_forget 2 (ls' := [v_P 30, v_I (x1 + 1), v_U, v_I (M3 ((M3 30 15).toNat) ((M3 40 r2.toNat).toNat)), v_I r11]) rfl ?_
          refine y_forget 3 (ls' := [v_P 30, v_I (x1 + 1), v_U, v_U, v_I r11]) rfl ?_
          refine y_forget 4 (ls' := [v_P 30, v_I (x1 + 1), v_U, v_U, v_U]) rfl ?_
          exact h
        · replace h := h.2 hc
          refine x_aload_n dX4_run_125 rfl rfl ?_
          refine x_aload_n dX4_run_126 rfl rfl ?_
          refine y_getP dX4_run_127 sh_30 cf_X4 fl_X4_9 (by decide) (by decide) gg_30_1 ?_
          refine x_iload_n dX4_run_130 rfl rfl ?_
          obtain ⟨s55, h⟩ := h
          refine y_iald (v := r19) dX4_run_131 sh_31 s55 ((congrFun (congrFun e35 31) ((M3 ((M3 30 15).toNat) ((M3 40 r2.toNat).toNat)).toNat)).trans ((m_up_ne (Or.inl (by decide))).trans ((congrFun (congrFun e32 31) ((M3 ((M3 30 15).toNat) ((M3 40 r2.toNat).toNat)).toNat)).trans ((m_up_ne (Or.inl (by decide))).trans ((congrFun (congrFun e27 31) ((M3 ((M3 30 15).toNat) ((M3 40 r2.toNat).toNat)).toNat)).trans (m_up_same _ _ _ _)))))) ?_
          refine x_iload_n dX4_run_132 rfl rfl ?_
          refine x_aload_n dX4_run_133 rfl rfl ?_
          refine y_getP dX4_run_134 sh_30 cf_X4 fl_X4_48 (by decide) (by decide) gg_30_13 ?_
          refine x_iload_n dX4_run_137 rfl rfl ?_
          obtain ⟨s56, h⟩ := h
          refine y_iald (v := (M20 43 r2.toNat)) dX4_run_138 sh_43 s56 ((congrFun (congrFun e35 43) r2.toNat).trans ((m_up_ne (Or.inl (by decide))).trans ((congrFun (congrFun e32 43) r2.toNat).trans ((m_up_ne (Or.inl (by decide))).trans ((congrFun (congrFun e27 43) r2.toNat).trans (m_up_ne (Or.inl (by decide)))))))) ?_
          obtain ⟨Qc57, hc60, h⟩ := h
          refine x_callV (as := [v_I r19, v_I (M3 ((M3 30 15).toNat) ((M3 40 r2.toNat).toNat)), v_I (M20 43 r2.toNat)]) (st := []) (Qc := Qc57) dX4_run_139 mt_X4_hand ml_X4_117 ⟨by decide, by decide⟩ sh_30 rfl (fun _ _ => Nat.le_of_ble_eq_true rfl) hc60 (fun r58 M59 hr61 hM62 hq63 => ?_)
          replace h := h r58 M59 hr61 hM62 hq63
          change X_ kk_X4_run 142 [v_P 30, v_I x1, v_I r2, v_I (M3 ((M3 30 15).toNat) ((M3 40 r2.toNat).toNat)), v_I r11] [] M59 Q
          refine x_aload_n dX4_run_142 rfl rfl ?_
          refine x_iload_n dX4_run_143 rfl rfl ?_
          refine x_iload dX4_run_144 rfl ?_
          obtain ⟨Qc64, hc67, h⟩ := h
          refine x_callV (as := [v_I r2, v_I r11]) (st := []) (Qc := Qc64) dX4_run_146 mt_X4_lookFrom ml_X4_120 ⟨by decide, by decide⟩ sh_30 rfl (fun _ _ => Nat.le_of_ble_eq_true rfl) hc67 (fun r65 M66 hr68 hM69 hq70 => ?_)
          replace h := h r65 M66 hr68 hM69 hq70
          change X_ kk_X4_run 149 [v_P 30, v_I x1, v_I r2, v_I (M3 ((M3 30 15).toNat) ((M3 40 r2.toNat).toNat)), v_I r11] [] M66 Q
          refine x_aload_n dX4_run_149 rfl rfl ?_
          refine x_iload_n dX4_run_150 rfl rfl ?_
          refine x_aload_n dX4_run_151 rfl rfl ?_
          refine y_getP dX4_run_152 sh_30 cf_X4 fl_X4_39 (by decide) (by decide) gg_30_10 ?_
          refine x_iload_n dX4_run_155 rfl rfl ?_
          obtain ⟨s71, h⟩ := h
          refine x_iald dX4_run_156 sh_40 s71 ?_
          refine x_iconst dX4_run_157 (by decide) ?_
          obtain ⟨s72, h⟩ := h
          refine x_iadd dX4_run_158 s72 ?_
          refine x_iload dX4_run_159 rfl ?_
          refine x_iconst dX4_run_161 (by decide) ?_
          obtain ⟨s73, h⟩ := h
          refine x_iadd dX4_run_162 s73 ?_
          obtain ⟨Qc74, hc77, h⟩ := h
          refine x_callV (as := [v_I r2, v_I ((M66 40 r2.toNat) + 1), v_I (r11 + 1)]) (st := []) (Qc := Qc74) dX4_run_163 mt_X4_bringOn ml_X4_96 ⟨by decide, by decide⟩ sh_30 rfl (fun _ _ => Nat.le_of_ble_eq_true rfl) hc77 (fun r75 M76 hr78 hM79 hq80 => ?_)
          replace h := h r75 M76 hr78 hM79 hq80
          change X_ kk_X4_run 166 [v_P 30, v_I x1, v_I r2, v_I (M3 ((M3 30 15).toNat) ((M3 40 r2.toNat).toNat)), v_I r11] [] M76 Q
          obtain ⟨s81, h⟩ := h
          refine y_iinc (ls' := [v_P 30, v_I (x1 + 1), v_I r2, v_I (M3 ((M3 30 15).toNat) ((M3 40 r2.toNat).toNat)), v_I r11]) dX4_run_166 rfl s81 (by decide) rfl ?_
          refine x_goto (tgt := 22) dX4_run_169 (by decide) ?_
          refine y_forget 2 (ls' := [v_P 30, v_I (x1 + 1), v_U, v_I (M3 ((M3 30 15).toNat) ((M3 40 r2.toNat).toNat)), v_I r11]) rfl ?_
          refine y_forget 3 (ls' := [v_P 30, v_I (x1 + 1), v_U, v_U, v_I r11]) rfl ?_
          refine y_forget 4 (ls' := [v_P 30, v_I (x1 + 1), v_U, v_U, v_U]) rfl ?_
          exact h
      · replace h := h.2 hc
        refine x_bipush dX4_run_96 (by decide) (by decide) ?_
        refine x_goto (tgt := 107) dX4_run_98 (by decide) ?_
        obtain ⟨s82, h⟩ := h
        refine x_iast dX4_run_107 sh_32 s82 ?_
        obtain ⟨M83, e84⟩ : ∃ z : mM, z = m_up M26 32 ((M3 ((M3 30 15).toNat) ((M3 40 r2.toNat).toNat)).toNat) (-6) := ⟨_, rfl⟩
        rw [← e84]
        replace h := h M83 e84
        refine x_aload_n dX4_run_108 rfl rfl ?_
        refine y_getP dX4_run_109 sh_30 cf_X4 fl_X4_18 (by decide) (by decide) gg_30_3 ?_
        refine x_iload_n dX4_run_112 rfl rfl ?_
        refine x_iload dX4_run_113 rfl ?_
        obtain ⟨s85, h⟩ := h
        refine x_iast dX4_run_115 sh_33 s85 ?_
        obtain ⟨M86, e87⟩ : ∃ z : mM, z = m_up M83 33 ((M3 ((M3 30 15).toNat) ((M3 40 r2.toNat).toNat)).toNat) r11 := ⟨_, rfl⟩
        rw [← e87]
        replace h := h M86 e87
        refine x_aload_n dX4_run_116 rfl rfl ?_
        refine y_getP dX4_run_117 sh_30 cf_X4 fl_X4_9 (by decide) (by decide) gg_30_1 ?_
        refine x_iload_n dX4_run_120 rfl rfl ?_
        obtain ⟨s88, h⟩ := h
        refine y_iald (v := r19) dX4_run_121 sh_31 s88 ((congrFun (congrFun e87 31) ((M3 ((M3 30 15).toNat) ((M3 40 r2.toNat).toNat)).toNat)).trans ((m_up_ne (Or.inl (by decide))).trans ((congrFun (congrFun e84 31) ((M3 ((M3 30 15).toNat) ((M3 40 r2.toNat).toNat)).toNat)).trans ((m_up_ne (Or.inl (by decide))).trans ((congrFun (congrFun e27 31) ((M3 ((M3 30 15).toNat) ((M3 40 r2.toNat).toNat)).toNat)).trans (m_up_same _ _ _ _)))))) ?_
        refine x_if_lt (tgt := 142) dX4_run_122 (by decide) (fun hc => ?_) (fun hc => ?_)
        · replace h := h.1 hc
          refine x_aload_n dX4_run_142 rfl rfl ?_
          refine x_iload_n dX4_run_143 rfl rfl ?_
          refine x_iload dX4_run_144 rfl ?_
          obtain ⟨Qc89, hc92, h⟩ := h
          refine x_callV (as := [v_I r2, v_I r11]) (st := []) (Qc := Qc89) dX4_run_146 mt_X4_lookFrom ml_X4_120 ⟨by decide, by decide⟩ sh_30 rfl (fun _ _ => Nat.le_of_ble_eq_true rfl) hc92 (fun r90 M91 hr93 hM94 hq95 => ?_)
          replace h := h r90 M91 hr93 hM94 hq95
          change X_ kk_X4_run 149 [v_P 30, v_I x1, v_I r2, v_I (M3 ((M3 30 15).toNat) ((M3 40 r2.toNat).toNat)), v_I r11] [] M91 Q
          refine x_aload_n dX4_run_149 rfl rfl ?_
          refine x_iload_n dX4_run_150 rfl rfl ?_
          refine x_aload_n dX4_run_151 rfl rfl ?_
          refine y_getP dX4_run_152 sh_30 cf_X4 fl_X4_39 (by decide) (by decide) gg_30_10 ?_
          refine x_iload_n dX4_run_155 rfl rfl ?_
          obtain ⟨s96, h⟩ := h
          refine x_iald dX4_run_156 sh_40 s96 ?_
          refine x_iconst dX4_run_157 (by decide) ?_
          obtain ⟨s97, h⟩ := h
          refine x_iadd dX4_run_158 s97 ?_
          refine x_iload dX4_run_159 rfl ?_
          refine x_iconst dX4_run_161 (by decide) ?_
          obtain ⟨s98, h⟩ := h
          refine x_iadd dX4_run_162 s98 ?_
          obtain ⟨Qc99, hc102, h⟩ := h
          refine x_callV (as := [v_I r2, v_I ((M91 40 r2.toNat) + 1), v_I (r11 + 1)]) (st := []) (Qc := Qc99) dX4_run_163 mt_X4_bringOn ml_X4_96 ⟨by decide, by decide⟩ sh_30 rfl (fun _ _ => Nat.le_of_ble_eq_true rfl) hc102 (fun r100 M101 hr103 hM104 hq105 => ?_)
          replace h := h r100 M101 hr103 hM104 hq105
          change X_ kk_X4_run 166 [v_P 30, v_I x1, v_I r2, v_I (M3 ((M3 30 15).toNat) ((M3 40 r2.toNat).toNat)), v_I r11] [] M101 Q
          obtain ⟨s106, h⟩ := h
          refine y_iinc (ls' := [v_P 30, v_I (x1 + 1), v_I r2, v_I (M3 ((M3 30 15).toNat) ((M3 40 r2.toNat).toNat)), v_I r11]) dX4_run_166 rfl s106 (by decide) rfl ?_
          refine x_goto (tgt := 22) dX4_run_169 (by decide) ?_
          refine y_forget 2 (ls' := [v_P 30, v_I (x1 + 1), v_U, v_I (M3 ((M3 30 15).toNat) ((M3 40 r2.toNat).toNat)), v_I r11]) rfl ?_
          refine y_forget 3 (ls' := [v_P 30, v_I (x1 + 1), v_U, v_U, v_I r11]) rfl ?_
          refine y_forget 4 (ls' := [v_P 30, v_I (x1 + 1), v_U, v_U, v_U]) rfl ?_
          exact h
        · replace h := h.2 hc
          refine x_aload_n dX4_run_125 rfl rfl ?_
          refine x_aload_n dX4_run_126 rfl rfl ?_
          refine y_getP dX4_run_127 sh_30 cf_X4 fl_X4_9 (by decide) (by decide) gg_30_1 ?_
          refine x_iload_n dX4_run_130 rfl rfl ?_
          obtain ⟨s107, h⟩ := h
          refine y_iald (v := r19) dX4_run_131 sh_31 s107 ((congrFun (congrFun e87 31) ((M3 ((M3 30 15).toNat) ((M3 40 r2.toNat).toNat)).toNat)).trans ((m_up_ne (Or.inl (by decide))).trans ((congrFun (congrFun e84 31) ((M3 ((M3 30 15).toNat) ((M3 40 r2.toNat).toNat)).toNat)).trans ((m_up_ne (Or.inl (by decide))).trans ((congrFun (congrFun e27 31) ((M3 ((M3 30 15).toNat) ((M3 40 r2.toNat).toNat)).toNat)).trans (m_up_same _ _ _ _)))))) ?_
          refine x_iload_n dX4_run_132 rfl rfl ?_
          refine x_aload_n dX4_run_133 rfl rfl ?_
          refine y_getP dX4_run_134 sh_30 cf_X4 fl_X4_48 (by decide) (by decide) gg_30_13 ?_
          refine x_iload_n dX4_run_137 rfl rfl ?_
          obtain ⟨s108, h⟩ := h
          refine y_iald (v := (M20 43 r2.toNat)) dX4_run_138 sh_43 s108 ((congrFun (congrFun e87 43) r2.toNat).trans ((m_up_ne (Or.inl (by decide))).trans ((congrFun (congrFun e84 43) r2.toNat).trans ((m_up_ne (Or.inl (by decide))).trans ((congrFun (congrFun e27 43) r2.toNat).trans (m_up_ne (Or.inl (by decide)))))))) ?_
          obtain ⟨Qc109, hc112, h⟩ := h
          refine x_callV (as := [v_I r19, v_I (M3 ((M3 30 15).toNat) ((M3 40 r2.toNat).toNat)), v_I (M20 43 r2.toNat)]) (st := []) (Qc := Qc109) dX4_run_139 mt_X4_hand ml_X4_117 ⟨by decide, by decide⟩ sh_30 rfl (fun _ _ => Nat.le_of_ble_eq_true rfl) hc112 (fun r110 M111 hr113 hM114 hq115 => ?_)
          replace h := h r110 M111 hr113 hM114 hq115
          change X_ kk_X4_run 142 [v_P 30, v_I x1, v_I r2, v_I (M3 ((M3 30 15).toNat) ((M3 40 r2.toNat).toNat)), v_I r11] [] M111 Q
          refine x_aload_n dX4_run_142 rfl rfl ?_
          refine x_iload_n dX4_run_143 rfl rfl ?_
          refine x_iload dX4_run_144 rfl ?_
          obtain ⟨Qc116, hc119, h⟩ := h
          refine x_callV (as := [v_I r2, v_I r11]) (st := []) (Qc := Qc116) dX4_run_146 mt_X4_lookFrom ml_X4_120 ⟨by decide, by decide⟩ sh_30 rfl (fun _ _ => Nat.le_of_ble_eq_true rfl) hc119 (fun r117 M118 hr120 hM121 hq122 => ?_)
          replace h := h r117 M118 hr120 hM121 hq122
          change X_ kk_X4_run 149 [v_P 30, v_I x1, v_I r2, v_I (M3 ((M3 30 15).toNat) ((M3 40 r2.toNat).toNat)), v_I r11] [] M118 Q
          refine x_aload_n dX4_run_149 rfl rfl ?_
          refine x_iload_n dX4_run_150 rfl rfl ?_
          refine x_aload_n dX4_run_151 rfl rfl ?_
          refine y_getP dX4_run_152 sh_30 cf_X4 fl_X4_39 (by decide) (by decide) gg_30_10 ?_
          refine x_iload_n dX4_run_155 rfl rfl ?_
          obtain ⟨s123, h⟩ := h
          refine x_iald dX4_run_156 sh_40 s123 ?_
          refine x_iconst dX4_run_157 (by decide) ?_
          obtain ⟨s124, h⟩ := h
          refine x_iadd dX4_run_158 s124 ?_
          refine x_iload dX4_run_159 rfl ?_
          refine x_iconst dX4_run_161 (by decide) ?_
          obtain ⟨s125, h⟩ := h
          refine x_iadd dX4_run_162 s125 ?_
          obtain ⟨Qc126, hc129, h⟩ := h
          refine x_callV (as := [v_I r2, v_I ((M118 40 r2.toNat) + 1), v_I (r11 + 1)]) (st := []) (Qc := Qc126) dX4_run_163 mt_X4_bringOn ml_X4_96 ⟨by decide, by decide⟩ sh_30 rfl (fun _ _ => Nat.le_of_ble_eq_true rfl) hc129 (fun r127 M128 hr130 hM131 hq132 => ?_)
          replace h := h r127 M128 hr130 hM131 hq132
          change X_ kk_X4_run 166 [v_P 30, v_I x1, v_I r2, v_I (M3 ((M3 30 15).toNat) ((M3 40 r2.toNat).toNat)), v_I r11] [] M128 Q
          obtain ⟨s133, h⟩ := h
          refine y_iinc (ls' := [v_P 30, v_I (x1 + 1), v_I r2, v_I (M3 ((M3 30 15).toNat) ((M3 40 r2.toNat).toNat)), v_I r11]) dX4_run_166 rfl s133 (by decide) rfl ?_
          refine x_goto (tgt := 22) dX4_run_169 (by decide) ?_
          refine y_forget 2 (ls' := [v_P 30, v_I (x1 + 1), v_U, v_I (M3 ((M3 30 15).toNat) ((M3 40 r2.toNat).toNat)), v_I r11]) rfl ?_
          refine y_forget 3 (ls' := [v_P 30, v_I (x1 + 1), v_U, v_U, v_I r11]) rfl ?_
          refine y_forget 4 (ls' := [v_P 30, v_I (x1 + 1), v_U, v_U, v_U]) rfl ?_
          exact h
    · replace h := h.2 hc
      refine x_ret dX4_run_42 rfl (fun _ => h)
theorem wp_X4_bringOn_0 {x1 x2 x3 : Int} {M : mM} {Q : Int → mM → Prop} (h : X_ kk_X4_bringOn 3 [v_P 30, v_I x1, v_U, v_I x3, v_I x2, v_U] [] M Q) : X_ kk_X4_bringOn 0 [v_P 30, v_I x1, v_I x2, v_I x3, v_U, v_U] [] M Q := by
  refine x_iload_n dX4_bringOn_0 rfl rfl ?_
  refine y_istore (ls' := [v_P 30, v_I x1, v_I x2, v_I x3, v_I x2, v_U]) dX4_bringOn_1 (by decide) rfl ?_
  refine y_forget 2 (ls' := [v_P 30, v_I x1, v_U, v_I x3, v_I x2, v_U]) rfl ?_
  exact h
theorem wp_X4_bringOn_3 {x1 x3 x4 : Int} {M : mM} {Q : Int → mM → Prop} (h : ((M 1 0) ≤ x4 → (0 ≤ x1 ∧ x1 < 3) ∧ (0 ≤ x1 ∧ x1 < 3) ∧ (0 ≤ x1 ∧ x1 < 3) ∧ X_ kk_X4_bringOn 65 [v_P 30, v_I x1, v_U, v_U, v_U, v_I 0] [] (m_up (m_up (m_up M 40 x1.toNat x4) 41 x1.toNat x3) 42 x1.toNat x3) Q) ∧ (¬ (M 1 0) ≤ x4 → ((m_sh ((M 30 15).toNat)).1 = 20 ∧ 0 ≤ x4 ∧ x4 < ((m_sh ((M 30 15).toNat)).2 : Int)) ∧ (0 ≤ (M ((M 30 15).toNat) x4.toNat) ∧ (M ((M 30 15).toNat) x4.toNat) < 8) ∧ ((M 3 ((M ((M 30 15).toNat) x4.toNat).toNat)) = x1 → (0 ≤ x1 ∧ x1 < 3) ∧ (0 ≤ x1 ∧ x1 < 3) ∧ (0 ≤ x1 ∧ x1 < 3) ∧ X_ kk_X4_bringOn 65 [v_P 30, v_I x1, v_U, v_U, v_U, v_I 0] [] (m_up (m_up (m_up M 40 x1.toNat x4) 41 x1.toNat x3) 42 x1.toNat x3) Q) ∧ (¬ (M 3 ((M ((M 30 15).toNat) x4.toNat).toNat)) = x1 → (m_ir (x4 + 1)) ∧ X_ kk_X4_bringOn 3 [v_P 30, v_I x1, v_U, v_I x3, v_I (x4 + 1), v_U] [] M Q))) : X_ kk_X4_bringOn 3 [v_P 30, v_I x1, v_U, v_I x3, v_I x4, v_U] [] M Q := by
  refine x_iload dX4_bringOn_3 rfl ?_
  refine x_aload_n dX4_bringOn_5 rfl rfl ?_
  refine y_getP dX4_bringOn_6 sh_30 cf_X4 fl_X4_56 (by decide) (by decide) gg_30_0 ?_
  refine x_getI dX4_bringOn_9 sh_1 cf_X6 fl_X4_100 (by decide) (by decide) ?_
  refine x_ic_ge (tgt := 40) dX4_bringOn_12 (by decide) (fun hc => ?_) (fun hc => ?_)
  · replace h := h.1 hc
    refine x_aload_n dX4_bringOn_40 rfl rfl ?_
    refine y_getP dX4_bringOn_41 sh_30 cf_X4 fl_X4_39 (by decide) (by decide) gg_30_10 ?_
    refine x_iload_n dX4_bringOn_44 rfl rfl ?_
    refine x_iload dX4_bringOn_45 rfl ?_
    obtain ⟨s1, h⟩ := h
    refine x_iast dX4_bringOn_47 sh_40 s1 ?_
    refine x_aload_n dX4_bringOn_48 rfl rfl ?_
    refine y_getP dX4_bringOn_49 sh_30 cf_X4 fl_X4_42 (by decide) (by decide) gg_30_11 ?_
    refine x_iload_n dX4_bringOn_52 rfl rfl ?_
    refine x_iload_n dX4_bringOn_53 rfl rfl ?_
    obtain ⟨s2, h⟩ := h
    refine x_iast dX4_bringOn_54 sh_41 s2 ?_
    refine x_aload_n dX4_bringOn_55 rfl rfl ?_
    refine y_getP dX4_bringOn_56 sh_30 cf_X4 fl_X4_45 (by decide) (by decide) gg_30_12 ?_
    refine x_iload_n dX4_bringOn_59 rfl rfl ?_
    refine x_iload_n dX4_bringOn_60 rfl rfl ?_
    obtain ⟨s3, h⟩ := h
    refine x_iast dX4_bringOn_61 sh_42 s3 ?_
    refine x_iconst dX4_bringOn_62 (by decide) ?_
    refine y_istore (ls' := [v_P 30, v_I x1, v_U, v_I x3, v_I x4, v_I 0]) dX4_bringOn_63 (by decide) rfl ?_
    refine y_forget 3 (ls' := [v_P 30, v_I x1, v_U, v_U, v_I x4, v_I 0]) rfl ?_
    refine y_forget 4 (ls' := [v_P 30, v_I x1, v_U, v_U, v_U, v_I 0]) rfl ?_
    exact h
  · replace h := h.2 hc
    refine x_aload_n dX4_bringOn_15 rfl rfl ?_
    refine y_getP dX4_bringOn_16 sh_30 cf_X4 fl_X4_56 (by decide) (by decide) gg_30_0 ?_
    refine y_getP dX4_bringOn_19 sh_1 cf_X6 fl_X4_124 (by decide) (by decide) gg_1_2 ?_
    refine x_aload_n dX4_bringOn_22 rfl rfl ?_
    refine x_getM dX4_bringOn_23 sh_30 cf_X4 fl_X4_65 (by decide) (by decide) ?_
    refine x_iload dX4_bringOn_26 rfl ?_
    obtain ⟨s4, h⟩ := h
    refine x_iald (n := (m_sh ((M 30 15).toNat)).2) dX4_bringOn_28 (Prod.ext s4.1 rfl) s4.2 ?_
    obtain ⟨s5, h⟩ := h
    refine x_iald dX4_bringOn_29 sh_3 s5 ?_
    refine x_iload_n dX4_bringOn_30 rfl rfl ?_
    refine x_ic_eq (tgt := 40) dX4_bringOn_31 (by decide) (fun hc => ?_) (fun hc => ?_)
    · replace h := h.1 hc
      refine x_aload_n dX4_bringOn_40 rfl rfl ?_
      refine y_getP dX4_bringOn_41 sh_30 cf_X4 fl_X4_39 (by decide) (by decide) gg_30_10 ?_
      refine x_iload_n dX4_bringOn_44 rfl rfl ?_
      refine x_iload dX4_bringOn_45 rfl ?_
      obtain ⟨s6, h⟩ := h
      refine x_iast dX4_bringOn_47 sh_40 s6 ?_
      refine x_aload_n dX4_bringOn_48 rfl rfl ?_
      refine y_getP dX4_bringOn_49 sh_30 cf_X4 fl_X4_42 (by decide) (by decide) gg_30_11 ?_
      refine x_iload_n dX4_bringOn_52 rfl rfl ?_
      refine x_iload_n dX4_bringOn_53 rfl rfl ?_
      obtain ⟨s7, h⟩ := h
      refine x_iast dX4_bringOn_54 sh_41 s7 ?_
      refine x_aload_n dX4_bringOn_55 rfl rfl ?_
      refine y_getP dX4_bringOn_56 sh_30 cf_X4 fl_X4_45 (by decide) (by decide) gg_30_12 ?_
      refine x_iload_n dX4_bringOn_59 rfl rfl ?_
      refine x_iload_n dX4_bringOn_60 rfl rfl ?_
      obtain ⟨s8, h⟩ := h
      refine x_iast dX4_bringOn_61 sh_42 s8 ?_
      refine x_iconst dX4_bringOn_62 (by decide) ?_
      refine y_istore (ls' := [v_P 30, v_I x1, v_U, v_I x3, v_I x4, v_I 0]) dX4_bringOn_63 (by decide) rfl ?_
      refine y_forget 3 (ls' := [v_P 30, v_I x1, v_U, v_U, v_I x4, v_I 0]) rfl ?_
      refine y_forget 4 (ls' := [v_P 30, v_I x1, v_U, v_U, v_U, v_I 0]) rfl ?_
      exact h
    · replace h := h.2 hc
      obtain ⟨s9, h⟩ := h
      refine y_iinc (ls' := [v_P 30, v_I x1, v_U, v_I x3, v_I (x4 + 1), v_U]) dX4_bringOn_34 rfl s9 (by decide) rfl ?_
      refine x_goto (tgt := 3) dX4_bringOn_37 (by decide) ?_
      exact h
theorem wp_X4_bringOn_65 {x1 x5 : Int} {M : mM} {Q : Int → mM → Prop} (h : ((M 1 6) ≤ x5 → Q 0 M) ∧ (¬ (M 1 6) ≤ x5 → ∃ Qc1 : Int → mM → Prop, C_ kk_X4_weigh [v_P 30, v_I x1, v_I x5] M Qc1 ∧ ∀ (r2 : Int) (M3 : mM), m_ir r2 → m_okM M3 → Qc1 r2 M3 → (m_ir (x5 + 1)) ∧ X_ kk_X4_bringOn 65 [v_P 30, v_I x1, v_U, v_U, v_U, v_I (x5 + 1)] [] M3 Q)) : X_ kk_X4_bringOn 65 [v_P 30, v_I x1, v_U, v_U, v_U, v_I x5] [] M Q := by
  refine x_iload dX4_bringOn_65 rfl ?_
  refine x_aload_n dX4_bringOn_67 rfl rfl ?_
  refine y_getP dX4_bringOn_68 sh_30 cf_X4 fl_X4_56 (by decide) (by decide) gg_30_0 ?_
  refine x_getI dX4_bringOn_71 sh_1 cf_X6 fl_X4_81 (by decide) (by decide) ?_
  refine x_ic_ge (tgt := 90) dX4_bringOn_74 (by decide) (fun hc => ?_) (fun hc => ?_)
  · replace h := h.1 hc
    refine x_ret dX4_bringOn_90 rfl (fun _ => h)
  · replace h := h.2 hc
    refine x_aload_n dX4_bringOn_77 rfl rfl ?_
    refine x_iload_n dX4_bringOn_78 rfl rfl ?_
    refine x_iload dX4_bringOn_79 rfl ?_
    obtain ⟨Qc1, hc4, h⟩ := h
    refine x_callV (as := [v_I x1, v_I x5]) (st := []) (Qc := Qc1) dX4_bringOn_81 mt_X4_weigh ml_X4_127 ⟨by decide, by decide⟩ sh_30 rfl (fun _ _ => Nat.le_of_ble_eq_true rfl) hc4 (fun r2 M3 hr5 hM6 hq7 => ?_)
    replace h := h r2 M3 hr5 hM6 hq7
    change X_ kk_X4_bringOn 84 [v_P 30, v_I x1, v_U, v_U, v_U, v_I x5] [] M3 Q
    obtain ⟨s8, h⟩ := h
    refine y_iinc (ls' := [v_P 30, v_I x1, v_U, v_U, v_U, v_I (x5 + 1)]) dX4_bringOn_84 rfl s8 (by decide) rfl ?_
    refine x_goto (tgt := 65) dX4_bringOn_87 (by decide) ?_
    exact h
theorem wp_X4_weigh_0 {x1 x2 : Int} {M : mM} {Q : Int → mM → Prop} (h : (0 ≤ x1 ∧ x1 < 3) ∧ ((M 1 0) ≤ (M 40 x1.toNat) → Q 0 M) ∧ (¬ (M 1 0) ≤ (M 40 x1.toNat) → ((0 : Int) ≤ x2 ∧ x2 < (6 : Int)) ∧ (0 ≤ x2 ∧ x2 < 6) ∧ (0 ≤ x1 ∧ x1 < 3) ∧ ((m_sh ((M 30 15).toNat)).1 = 20 ∧ 0 ≤ (M 40 x1.toNat) ∧ (M 40 x1.toNat) < ((m_sh ((M 30 15).toNat)).2 : Int)) ∧ (0 ≤ (M ((M 30 15).toNat) ((M 40 x1.toNat).toNat)) ∧ (M ((M 30 15).toNat) ((M 40 x1.toNat).toNat)) < 8) ∧ (m_ir ((M 38 x2.toNat) + (M 2 ((M ((M 30 15).toNat) ((M 40 x1.toNat).toNat)).toNat)))) ∧ ∃ Qc9 : Int → mM → Prop, C_ kk_X1_worthOf [v_P (8 + 3 * x2.toNat), v_I ((M 38 x2.toNat) + (M 2 ((M ((M 30 15).toNat) ((M 40 x1.toNat).toNat)).toNat)))] M Qc9 ∧ ∀ (r10 : Int) (M11 : mM), m_ir r10 → m_okM M11 → Qc9 r10 M11 → (0 ≤ x2 ∧ x2 < 6) ∧ (m_ir (r10 - (M11 35 x2.toNat))) ∧ (0 ≤ x2 ∧ x2 < 6) ∧ (m_ir ((r10 - (M11 35 x2.toNat)) * (M11 39 x2.toNat))) ∧ ((0 : Int) ≤ x1 ∧ x1 < (3 : Int)) ∧ (1 ≤ (Int.tdiv ((r10 - (M11 35 x2.toNat)) * (M11 39 x2.toNat)) 100) → (0 ≤ x2 ∧ x2 < 6) ∧ (0 ≤ x2 ∧ x2 < 6) ∧ ∀ M24 : mM, M24 = m_up M11 (45 + x1.toNat) x2.toNat (min (Int.tdiv ((r10 - (M11 35 x2.toNat)) * (M11 39 x2.toNat)) 100) (M11 37 x2.toNat)) → Q 0 M24) ∧ (¬ 1 ≤ (Int.tdiv ((r10 - (M11 35 x2.toNat)) * (M11 39 x2.toNat)) 100) → (0 ≤ x2 ∧ x2 < 6) ∧ Q 0 (m_up M11 (45 + x1.toNat) x2.toNat (-1))))) : X_ kk_X4_weigh 0 [v_P 30, v_I x1, v_I x2, v_U, v_U] [] M Q := by
  refine x_aload_n dX4_weigh_0 rfl rfl ?_
  refine y_getP dX4_weigh_1 sh_30 cf_X4 fl_X4_39 (by decide) (by decide) gg_30_10 ?_
  refine x_iload_n dX4_weigh_4 rfl rfl ?_
  obtain ⟨s1, h⟩ := h
  refine x_iald dX4_weigh_5 sh_40 s1 ?_
  refine x_aload_n dX4_weigh_6 rfl rfl ?_
  refine y_getP dX4_weigh_7 sh_30 cf_X4 fl_X4_56 (by decide) (by decide) gg_30_0 ?_
  refine x_getI dX4_weigh_10 sh_1 cf_X6 fl_X4_100 (by decide) (by decide) ?_
  refine x_ic_ge (tgt := 104) dX4_weigh_13 (by decide) (fun hc => ?_) (fun hc => ?_)
  · replace h := h.1 hc
    refine x_ret dX4_weigh_104 rfl (fun _ => h)
  · replace h := h.2 hc
    refine x_aload_n dX4_weigh_16 rfl rfl ?_
    refine y_getP dX4_weigh_17 sh_30 cf_X4 fl_X4_56 (by decide) (by decide) gg_30_0 ?_
    refine y_getP dX4_weigh_20 sh_1 cf_X6 fl_X4_85 (by decide) (by decide) gg_1_7 ?_
    refine x_iload_n dX4_weigh_23 rfl rfl ?_
    obtain ⟨s2, h⟩ := h
    refine y_aaldB dX4_weigh_24 s2 ?_
    have g3 := isB_at (j := x2.toNat) (by clear h; omega)
    refine x_aload_n dX4_weigh_25 rfl rfl ?_
    refine y_getP dX4_weigh_26 sh_30 cf_X4 fl_X4_33 (by decide) (by decide) gg_30_8 ?_
    refine x_iload_n dX4_weigh_29 rfl rfl ?_
    obtain ⟨s4, h⟩ := h
    refine x_iald dX4_weigh_30 sh_38 s4 ?_
    refine x_aload_n dX4_weigh_31 rfl rfl ?_
    refine y_getP dX4_weigh_32 sh_30 cf_X4 fl_X4_56 (by decide) (by decide) gg_30_0 ?_
    refine y_getP dX4_weigh_35 sh_1 cf_X6 fl_X4_130 (by decide) (by decide) gg_1_1 ?_
    refine x_aload_n dX4_weigh_38 rfl rfl ?_
    refine x_getM dX4_weigh_39 sh_30 cf_X4 fl_X4_65 (by decide) (by decide) ?_
    refine x_aload_n dX4_weigh_42 rfl rfl ?_
    refine y_getP dX4_weigh_43 sh_30 cf_X4 fl_X4_39 (by decide) (by decide) gg_30_10 ?_
    refine x_iload_n dX4_weigh_46 rfl rfl ?_
    obtain ⟨s5, h⟩ := h
    refine x_iald dX4_weigh_47 sh_40 s5 ?_
    obtain ⟨s6, h⟩ := h
    refine x_iald (n := (m_sh ((M 30 15).toNat)).2) dX4_weigh_48 (Prod.ext s6.1 rfl) s6.2 ?_
    obtain ⟨s7, h⟩ := h
    refine x_iald dX4_weigh_49 sh_2 s7 ?_
    obtain ⟨s8, h⟩ := h
    refine x_iadd dX4_weigh_50 s8 ?_
    obtain ⟨Qc9, hc12, h⟩ := h
    refine x_callV (as := [v_I ((M 38 x2.toNat) + (M 2 ((M ((M 30 15).toNat) ((M 40 x1.toNat).toNat)).toNat)))]) (st := []) (Qc := Qc9) dX4_weigh_51 mt_X1_worthOf ml_X4_133 ⟨by decide, by decide⟩ (g3).1 rfl (fun _ _ => Nat.le_of_ble_eq_true rfl) hc12 (fun r10 M11 hr13 hM14 hq15 => ?_)
    replace h := h r10 M11 hr13 hM14 hq15
    change X_ kk_X4_weigh 54 [v_P 30, v_I x1, v_I x2, v_U, v_U] [v_I r10] M11 Q
    refine x_aload_n dX4_weigh_54 rfl rfl ?_
    refine y_getP dX4_weigh_55 sh_30 cf_X4 fl_X4_24 (by decide) (by decide) gg_30_5 ?_
    refine x_iload_n dX4_weigh_58 rfl rfl ?_
    obtain ⟨s16, h⟩ := h
    refine x_iald dX4_weigh_59 sh_35 s16 ?_
    obtain ⟨s17, h⟩ := h
    refine x_isub dX4_weigh_60 s17 ?_
    refine y_istore_n (ls' := [v_P 30, v_I x1, v_I x2, v_I (r10 - (M11 35 x2.toNat)), v_U]) dX4_weigh_61 rfl (by decide) rfl ?_
    refine x_iload_n dX4_weigh_62 rfl rfl ?_
    refine x_aload_n dX4_weigh_63 rfl rfl ?_
    refine y_getP dX4_weigh_64 sh_30 cf_X4 fl_X4_36 (by decide) (by decide) gg_30_9 ?_
    refine x_iload_n dX4_weigh_67 rfl rfl ?_
    obtain ⟨s18, h⟩ := h
    refine x_iald dX4_weigh_68 sh_39 s18 ?_
    obtain ⟨s19, h⟩ := h
    refine x_imul dX4_weigh_69 s19 ?_
    refine x_bipush dX4_weigh_70 (by decide) (by decide) ?_
    refine x_idiv dX4_weigh_72 (by clear h; omega) (by decide) ?_
    refine y_istore (ls' := [v_P 30, v_I x1, v_I x2, v_I (r10 - (M11 35 x2.toNat)), v_I (Int.tdiv ((r10 - (M11 35 x2.toNat)) * (M11 39 x2.toNat)) 100)]) dX4_weigh_73 (by decide) rfl ?_
    refine x_aload_n dX4_weigh_75 rfl rfl ?_
    refine y_getP dX4_weigh_76 sh_30 cf_X4 fl_X4_53 (by decide) (by decide) gg_30_14 ?_
    refine x_iload_n dX4_weigh_79 rfl rfl ?_
    obtain ⟨s20, h⟩ := h
    refine y_aaldR dX4_weigh_80 s20 ?_
    have g21 := sh_reach (j := x1.toNat) (by clear h; omega)
    refine x_iload_n dX4_weigh_81 rfl rfl ?_
    refine x_iload dX4_weigh_82 rfl ?_
    refine x_iconst dX4_weigh_84 (by decide) ?_
    refine x_ic_ge (tgt := 92) dX4_weigh_85 (by decide) (fun hc => ?_) (fun hc => ?_)
    · replace h := h.1 hc
      refine x_iload dX4_weigh_92 rfl ?_
      refine x_aload_n dX4_weigh_94 rfl rfl ?_
      refine y_getP dX4_weigh_95 sh_30 cf_X4 fl_X4_30 (by decide) (by decide) gg_30_7 ?_
      refine x_iload_n dX4_weigh_98 rfl rfl ?_
      obtain ⟨s22, h⟩ := h
      refine x_iald dX4_weigh_99 sh_37 s22 ?_
      refine x_min (st := [v_I x2, v_P (45 + x1.toNat)]) dX4_weigh_100 ml_X4_136 ⟨by decide, by decide⟩ (fun _ _ => Nat.le_of_ble_eq_true rfl) ?_
      change X_ kk_X4_weigh 103 [v_P 30, v_I x1, v_I x2, v_I (r10 - (M11 35 x2.toNat)), v_I (Int.tdiv ((r10 - (M11 35 x2.toNat)) * (M11 39 x2.toNat)) 100)] [v_I (min (Int.tdiv ((r10 - (M11 35 x2.toNat)) * (M11 39 x2.toNat)) 100) (M11 37 x2.toNat)), v_I x2, v_P (45 + x1.toNat)] M11 Q
      obtain ⟨s23, h⟩ := h
      refine x_iast dX4_weigh_103 g21 s23 ?_
      obtain ⟨M24, e25⟩ : ∃ z : mM, z = m_up M11 (45 + x1.toNat) x2.toNat (min (Int.tdiv ((r10 - (M11 35 x2.toNat)) * (M11 39 x2.toNat)) 100) (M11 37 x2.toNat)) := ⟨_, rfl⟩
      rw [← e25]
      replace h := h M24 e25
      refine x_ret dX4_weigh_104 rfl (fun _ => h)
    · replace h := h.2 hc
      refine x_iconst dX4_weigh_88 (by decide) ?_
      refine x_goto (tgt := 103) dX4_weigh_89 (by decide) ?_
      obtain ⟨s26, h⟩ := h
      refine x_iast dX4_weigh_103 g21 s26 ?_
      refine x_ret dX4_weigh_104 rfl (fun _ => h)
theorem wp_X4_nextToEnd_0 {M : mM} {Q : Int → mM → Prop} (h : X_ kk_X4_nextToEnd 5 [v_P 30, v_I (-6), v_I 0, v_U] [] M Q) : X_ kk_X4_nextToEnd 0 [v_P 30, v_U, v_U, v_U] [] M Q := by
  refine x_bipush dX4_nextToEnd_0 (by decide) (by decide) ?_
  refine y_istore_n (ls' := [v_P 30, v_I (-6), v_U, v_U]) dX4_nextToEnd_2 rfl (by decide) rfl ?_
  refine x_iconst dX4_nextToEnd_3 (by decide) ?_
  refine y_istore_n (ls' := [v_P 30, v_I (-6), v_I 0, v_U]) dX4_nextToEnd_4 rfl (by decide) rfl ?_
  exact h
theorem wp_X4_nextToEnd_5 {x1 x2 : Int} {M : mM} {Q : Int → mM → Prop} (h : (3 ≤ x2 → Q x1 M) ∧ (¬ 3 ≤ x2 → (0 ≤ x2 ∧ x2 < 3) ∧ ((M 1 0) ≤ (M 40 x2.toNat) → (m_ir (x2 + 1)) ∧ X_ kk_X4_nextToEnd 5 [v_P 30, v_I x1, v_I (x2 + 1), v_U] [] M Q) ∧ (¬ (M 1 0) ≤ (M 40 x2.toNat) → (0 ≤ x2 ∧ x2 < 3) ∧ (0 ≤ x2 ∧ x2 < 3) ∧ (m_ir ((M 42 x2.toNat) - (M 41 x2.toNat))) ∧ (m_ir ((M 30 16) - ((M 42 x2.toNat) - (M 41 x2.toNat)))) ∧ (0 ≤ x2 ∧ x2 < 3) ∧ ((m_sh ((M 30 15).toNat)).1 = 20 ∧ 0 ≤ (M 40 x2.toNat) ∧ (M 40 x2.toNat) < ((m_sh ((M 30 15).toNat)).2 : Int)) ∧ (0 ≤ (M ((M 30 15).toNat) ((M 40 x2.toNat).toNat)) ∧ (M ((M 30 15).toNat) ((M 40 x2.toNat).toNat)) < 8) ∧ ∃ Qc10 : Int → mM → Prop, C_ kk_X4_highest [v_P 30, v_I x2, v_I (M 4 ((M ((M 30 15).toNat) ((M 40 x2.toNat).toNat)).toNat))] M Qc10 ∧ ∀ (r11 : Int) (M12 : mM), m_ir r11 → m_okM M12 → Qc10 r11 M12 → (0 ≤ x2 ∧ x2 < 3) ∧ ∀ M18 : mM, M18 = m_up M12 43 x2.toNat (min ((M 30 16) - ((M 42 x2.toNat) - (M 41 x2.toNat))) r11) → (x1 < 0 → (m_ir (x2 + 1)) ∧ X_ kk_X4_nextToEnd 5 [v_P 30, v_I x2, v_I (x2 + 1), v_U] [] M18 Q) ∧ (¬ x1 < 0 → ∃ Qc21 : Int → mM → Prop, C_ kk_X4_endTick [v_P 30, v_I x2] M18 Qc21 ∧ ∀ (r22 : Int) (M23 : mM), m_ir r22 → m_okM M23 → Qc21 r22 M23 → ∃ Qc28 : Int → mM → Prop, C_ kk_X4_endTick [v_P 30, v_I x1] M23 Qc28 ∧ ∀ (r29 : Int) (M30 : mM), m_ir r29 → m_okM M30 → Qc28 r29 M30 → (r29 ≤ r22 → (m_ir (x2 + 1)) ∧ X_ kk_X4_nextToEnd 5 [v_P 30, v_I x1, v_I (x2 + 1), v_U] [] M30 Q) ∧ (¬ r29 ≤ r22 → (m_ir (x2 + 1)) ∧ X_ kk_X4_nextToEnd 5 [v_P 30, v_I x2, v_I (x2 + 1), v_U] [] M30 Q))))) : X_ kk_X4_nextToEnd 5 [v_P 30, v_I x1, v_I x2, v_U] [] M Q := by
  refine x_iload_n dX4_nextToEnd_5 rfl rfl ?_
  refine x_iconst dX4_nextToEnd_6 (by decide) ?_
  refine x_ic_ge (tgt := 104) dX4_nextToEnd_7 (by decide) (fun hc => ?_) (fun hc => ?_)
  · replace h := h.1 hc
    refine x_iload_n dX4_nextToEnd_104 rfl rfl ?_
    refine x_iret dX4_nextToEnd_105 rfl (Or.inl rfl) (fun _ _ => h)
  · replace h := h.2 hc
    refine x_aload_n dX4_nextToEnd_10 rfl rfl ?_
    refine y_getP dX4_nextToEnd_11 sh_30 cf_X4 fl_X4_39 (by decide) (by decide) gg_30_10 ?_
    refine x_iload_n dX4_nextToEnd_14 rfl rfl ?_
    obtain ⟨s1, h⟩ := h
    refine x_iald dX4_nextToEnd_15 sh_40 s1 ?_
    refine x_aload_n dX4_nextToEnd_16 rfl rfl ?_
    refine y_getP dX4_nextToEnd_17 sh_30 cf_X4 fl_X4_56 (by decide) (by decide) gg_30_0 ?_
    refine x_getI dX4_nextToEnd_20 sh_1 cf_X6 fl_X4_100 (by decide) (by decide) ?_
    refine x_ic_ge (tgt := 98) dX4_nextToEnd_23 (by decide) (fun hc => ?_) (fun hc => ?_)
    · replace h := h.1 hc
      obtain ⟨s2, h⟩ := h
      refine y_iinc (ls' := [v_P 30, v_I x1, v_I (x2 + 1), v_U]) dX4_nextToEnd_98 rfl s2 (by decide) rfl ?_
      refine x_goto (tgt := 5) dX4_nextToEnd_101 (by decide) ?_
      exact h
    · replace h := h.2 hc
      refine x_aload_n dX4_nextToEnd_26 rfl rfl ?_
      refine x_getI dX4_nextToEnd_27 sh_30 cf_X4 fl_X4_84 (by decide) (by decide) ?_
      refine x_aload_n dX4_nextToEnd_30 rfl rfl ?_
      refine y_getP dX4_nextToEnd_31 sh_30 cf_X4 fl_X4_45 (by decide) (by decide) gg_30_12 ?_
      refine x_iload_n dX4_nextToEnd_34 rfl rfl ?_
      obtain ⟨s3, h⟩ := h
      refine x_iald dX4_nextToEnd_35 sh_42 s3 ?_
      refine x_aload_n dX4_nextToEnd_36 rfl rfl ?_
      refine y_getP dX4_nextToEnd_37 sh_30 cf_X4 fl_X4_42 (by decide) (by decide) gg_30_11 ?_
      refine x_iload_n dX4_nextToEnd_40 rfl rfl ?_
      obtain ⟨s4, h⟩ := h
      refine x_iald dX4_nextToEnd_41 sh_41 s4 ?_
      obtain ⟨s5, h⟩ := h
      refine x_isub dX4_nextToEnd_42 s5 ?_
      obtain ⟨s6, h⟩ := h
      refine x_isub dX4_nextToEnd_43 s6 ?_
      refine y_istore_n (ls' := [v_P 30, v_I x1, v_I x2, v_I ((M 30 16) - ((M 42 x2.toNat) - (M 41 x2.toNat)))]) dX4_nextToEnd_44 rfl (by decide) rfl ?_
      refine x_aload_n dX4_nextToEnd_45 rfl rfl ?_
      refine y_getP dX4_nextToEnd_46 sh_30 cf_X4 fl_X4_48 (by decide) (by decide) gg_30_13 ?_
      refine x_iload_n dX4_nextToEnd_49 rfl rfl ?_
      refine x_iload_n dX4_nextToEnd_50 rfl rfl ?_
      refine x_aload_n dX4_nextToEnd_51 rfl rfl ?_
      refine x_iload_n dX4_nextToEnd_52 rfl rfl ?_
      refine x_aload_n dX4_nextToEnd_53 rfl rfl ?_
      refine y_getP dX4_nextToEnd_54 sh_30 cf_X4 fl_X4_56 (by decide) (by decide) gg_30_0 ?_
      refine y_getP dX4_nextToEnd_57 sh_1 cf_X6 fl_X4_110 (by decide) (by decide) gg_1_3 ?_
      refine x_aload_n dX4_nextToEnd_60 rfl rfl ?_
      refine x_getM dX4_nextToEnd_61 sh_30 cf_X4 fl_X4_65 (by decide) (by decide) ?_
      refine x_aload_n dX4_nextToEnd_64 rfl rfl ?_
      refine y_getP dX4_nextToEnd_65 sh_30 cf_X4 fl_X4_39 (by decide) (by decide) gg_30_10 ?_
      refine x_iload_n dX4_nextToEnd_68 rfl rfl ?_
      obtain ⟨s7, h⟩ := h
      refine x_iald dX4_nextToEnd_69 sh_40 s7 ?_
      obtain ⟨s8, h⟩ := h
      refine x_iald (n := (m_sh ((M 30 15).toNat)).2) dX4_nextToEnd_70 (Prod.ext s8.1 rfl) s8.2 ?_
      obtain ⟨s9, h⟩ := h
      refine x_iald dX4_nextToEnd_71 sh_4 s9 ?_
      obtain ⟨Qc10, hc13, h⟩ := h
      refine x_callV (as := [v_I x2, v_I (M 4 ((M ((M 30 15).toNat) ((M 40 x2.toNat).toNat)).toNat))]) (st := [v_I ((M 30 16) - ((M 42 x2.toNat) - (M 41 x2.toNat))), v_I x2, v_P 43]) (Qc := Qc10) dX4_nextToEnd_72 mt_X4_highest ml_X4_141 ⟨by decide, by decide⟩ sh_30 rfl (fun _ _ => Nat.le_of_ble_eq_true rfl) hc13 (fun r11 M12 hr14 hM15 hq16 => ?_)
      replace h := h r11 M12 hr14 hM15 hq16
      change X_ kk_X4_nextToEnd 75 [v_P 30, v_I x1, v_I x2, v_I ((M 30 16) - ((M 42 x2.toNat) - (M 41 x2.toNat)))] [v_I r11, v_I ((M 30 16) - ((M 42 x2.toNat) - (M 41 x2.toNat))), v_I x2, v_P 43] M12 Q
      refine x_min (st := [v_I x2, v_P 43]) dX4_nextToEnd_75 ml_X4_136 ⟨by decide, by decide⟩ (fun _ _ => Nat.le_of_ble_eq_true rfl) ?_
      change X_ kk_X4_nextToEnd 78 [v_P 30, v_I x1, v_I x2, v_I ((M 30 16) - ((M 42 x2.toNat) - (M 41 x2.toNat)))] [v_I (min ((M 30 16) - ((M 42 x2.toNat) - (M 41 x2.toNat))) r11), v_I x2, v_P 43] M12 Q
      obtain ⟨s17, h⟩ := h
      refine x_iast dX4_nextToEnd_78 sh_43 s17 ?_
      obtain ⟨M18, e19⟩ : ∃ z : mM, z = m_up M12 43 x2.toNat (min ((M 30 16) - ((M 42 x2.toNat) - (M 41 x2.toNat))) r11) := ⟨_, rfl⟩
      rw [← e19]
      replace h := h M18 e19
      refine x_iload_n dX4_nextToEnd_79 rfl rfl ?_
      refine x_if_lt (tgt := 96) dX4_nextToEnd_80 (by decide) (fun hc => ?_) (fun hc => ?_)
      · replace h := h.1 hc
        refine x_iload_n dX4_nextToEnd_96 rfl rfl ?_
        refine y_istore_n (ls' := [v_P 30, v_I x2, v_I x2, v_I ((M 30 16) - ((M 42 x2.toNat) - (M 41 x2.toNat)))]) dX4_nextToEnd_97 rfl (by decide) rfl ?_
        obtain ⟨s20, h⟩ := h
        refine y_iinc (ls' := [v_P 30, v_I x2, v_I (x2 + 1), v_I ((M 30 16) - ((M 42 x2.toNat) - (M 41 x2.toNat)))]) dX4_nextToEnd_98 rfl s20 (by decide) rfl ?_
        refine x_goto (tgt := 5) dX4_nextToEnd_101 (by decide) ?_
        refine y_forget 3 (ls' := [v_P 30, v_I x2, v_I (x2 + 1), v_U]) rfl ?_
        exact h
      · replace h := h.2 hc
        refine x_aload_n dX4_nextToEnd_83 rfl rfl ?_
        refine x_iload_n dX4_nextToEnd_84 rfl rfl ?_
        obtain ⟨Qc21, hc24, h⟩ := h
        refine x_callV (as := [v_I x2]) (st := []) (Qc := Qc21) dX4_nextToEnd_85 mt_X4_endTick ml_X4_107 ⟨by decide, by decide⟩ sh_30 rfl (fun _ _ => Nat.le_of_ble_eq_true rfl) hc24 (fun r22 M23 hr25 hM26 hq27 => ?_)
        replace h := h r22 M23 hr25 hM26 hq27
        change X_ kk_X4_nextToEnd 88 [v_P 30, v_I x1, v_I x2, v_I ((M 30 16) - ((M 42 x2.toNat) - (M 41 x2.toNat)))] [v_I r22] M23 Q
        refine x_aload_n dX4_nextToEnd_88 rfl rfl ?_
        refine x_iload_n dX4_nextToEnd_89 rfl rfl ?_
        obtain ⟨Qc28, hc31, h⟩ := h
        refine x_callV (as := [v_I x1]) (st := [v_I r22]) (Qc := Qc28) dX4_nextToEnd_90 mt_X4_endTick ml_X4_107 ⟨by decide, by decide⟩ sh_30 rfl (fun _ _ => Nat.le_of_ble_eq_true rfl) hc31 (fun r29 M30 hr32 hM33 hq34 => ?_)
        replace h := h r29 M30 hr32 hM33 hq34
        change X_ kk_X4_nextToEnd 93 [v_P 30, v_I x1, v_I x2, v_I ((M 30 16) - ((M 42 x2.toNat) - (M 41 x2.toNat)))] [v_I r29, v_I r22] M30 Q
        refine x_ic_ge (tgt := 98) dX4_nextToEnd_93 (by decide) (fun hc => ?_) (fun hc => ?_)
        · replace h := h.1 hc
          obtain ⟨s35, h⟩ := h
          refine y_iinc (ls' := [v_P 30, v_I x1, v_I (x2 + 1), v_I ((M 30 16) - ((M 42 x2.toNat) - (M 41 x2.toNat)))]) dX4_nextToEnd_98 rfl s35 (by decide) rfl ?_
          refine x_goto (tgt := 5) dX4_nextToEnd_101 (by decide) ?_
          refine y_forget 3 (ls' := [v_P 30, v_I x1, v_I (x2 + 1), v_U]) rfl ?_
          exact h
        · replace h := h.2 hc
          refine x_iload_n dX4_nextToEnd_96 rfl rfl ?_
          refine y_istore_n (ls' := [v_P 30, v_I x2, v_I x2, v_I ((M 30 16) - ((M 42 x2.toNat) - (M 41 x2.toNat)))]) dX4_nextToEnd_97 rfl (by decide) rfl ?_
          obtain ⟨s36, h⟩ := h
          refine y_iinc (ls' := [v_P 30, v_I x2, v_I (x2 + 1), v_I ((M 30 16) - ((M 42 x2.toNat) - (M 41 x2.toNat)))]) dX4_nextToEnd_98 rfl s36 (by decide) rfl ?_
          refine x_goto (tgt := 5) dX4_nextToEnd_101 (by decide) ?_
          refine y_forget 3 (ls' := [v_P 30, v_I x2, v_I (x2 + 1), v_U]) rfl ?_
          exact h
theorem wp_X4_endTick_0 {x1 : Int} {M : mM} {Q : Int → mM → Prop} (h : (0 ≤ x1 ∧ x1 < 3) ∧ (m_ir ((M 41 x1.toNat) + (M 30 16))) ∧ (0 ≤ x1 ∧ x1 < 3) ∧ (m_ir (((M 41 x1.toNat) + (M 30 16)) - (M 43 x1.toNat))) ∧ Q (((M 41 x1.toNat) + (M 30 16)) - (M 43 x1.toNat)) M) : X_ kk_X4_endTick 0 [v_P 30, v_I x1] [] M Q := by
  refine x_aload_n dX4_endTick_0 rfl rfl ?_
  refine y_getP dX4_endTick_1 sh_30 cf_X4 fl_X4_42 (by decide) (by decide) gg_30_11 ?_
  refine x_iload_n dX4_endTick_4 rfl rfl ?_
  obtain ⟨s1, h⟩ := h
  refine x_iald dX4_endTick_5 sh_41 s1 ?_
  refine x_aload_n dX4_endTick_6 rfl rfl ?_
  refine x_getI dX4_endTick_7 sh_30 cf_X4 fl_X4_84 (by decide) (by decide) ?_
  obtain ⟨s2, h⟩ := h
  refine x_iadd dX4_endTick_10 s2 ?_
  refine x_aload_n dX4_endTick_11 rfl rfl ?_
  refine y_getP dX4_endTick_12 sh_30 cf_X4 fl_X4_48 (by decide) (by decide) gg_30_13 ?_
  refine x_iload_n dX4_endTick_15 rfl rfl ?_
  obtain ⟨s3, h⟩ := h
  refine x_iald dX4_endTick_16 sh_43 s3 ?_
  obtain ⟨s4, h⟩ := h
  refine x_isub dX4_endTick_17 s4 ?_
  refine x_iret dX4_endTick_18 rfl (Or.inl rfl) (fun _ _ => h)
theorem wp_X4_highest_0 {x1 x2 : Int} {M : mM} {Q : Int → mM → Prop} (h : X_ kk_X4_highest 5 [v_P 30, v_I x1, v_U, v_I x2, v_I 0] [] M Q) : X_ kk_X4_highest 0 [v_P 30, v_I x1, v_I x2, v_U, v_U] [] M Q := by
  refine x_iload_n dX4_highest_0 rfl rfl ?_
  refine y_istore_n (ls' := [v_P 30, v_I x1, v_I x2, v_I x2, v_U]) dX4_highest_1 rfl (by decide) rfl ?_
  refine x_iconst dX4_highest_2 (by decide) ?_
  refine y_istore (ls' := [v_P 30, v_I x1, v_I x2, v_I x2, v_I 0]) dX4_highest_3 (by decide) rfl ?_
  refine y_forget 2 (ls' := [v_P 30, v_I x1, v_U, v_I x2, v_I 0]) rfl ?_
  exact h
theorem wp_X4_highest_5 {x1 x3 x4 : Int} {M : mM} {Q : Int → mM → Prop} (h : ((M 1 6) ≤ x4 → Q x3 M) ∧ (¬ (M 1 6) ≤ x4 → ((0 : Int) ≤ x1 ∧ x1 < (3 : Int)) ∧ (0 ≤ x4 ∧ x4 < 6) ∧ (m_ir (x4 + 1)) ∧ X_ kk_X4_highest 5 [v_P 30, v_I x1, v_U, v_I (max x3 (M (45 + x1.toNat) x4.toNat)), v_I (x4 + 1)] [] M Q)) : X_ kk_X4_highest 5 [v_P 30, v_I x1, v_U, v_I x3, v_I x4] [] M Q := by
  refine x_iload dX4_highest_5 rfl ?_
  refine x_aload_n dX4_highest_7 rfl rfl ?_
  refine y_getP dX4_highest_8 sh_30 cf_X4 fl_X4_56 (by decide) (by decide) gg_30_0 ?_
  refine x_getI dX4_highest_11 sh_1 cf_X6 fl_X4_81 (by decide) (by decide) ?_
  refine x_ic_ge (tgt := 37) dX4_highest_14 (by decide) (fun hc => ?_) (fun hc => ?_)
  · replace h := h.1 hc
    refine x_iload_n dX4_highest_37 rfl rfl ?_
    refine x_iret dX4_highest_38 rfl (Or.inl rfl) (fun _ _ => h)
  · replace h := h.2 hc
    refine x_iload_n dX4_highest_17 rfl rfl ?_
    refine x_aload_n dX4_highest_18 rfl rfl ?_
    refine y_getP dX4_highest_19 sh_30 cf_X4 fl_X4_53 (by decide) (by decide) gg_30_14 ?_
    refine x_iload_n dX4_highest_22 rfl rfl ?_
    obtain ⟨s1, h⟩ := h
    refine y_aaldR dX4_highest_23 s1 ?_
    have g2 := sh_reach (j := x1.toNat) (by clear h; omega)
    refine x_iload dX4_highest_24 rfl ?_
    obtain ⟨s3, h⟩ := h
    refine x_iald dX4_highest_26 g2 s3 ?_
    refine x_max (st := []) dX4_highest_27 ml_X4_144 ⟨by decide, by decide⟩ (fun _ _ => Nat.le_of_ble_eq_true rfl) ?_
    change X_ kk_X4_highest 30 [v_P 30, v_I x1, v_U, v_I x3, v_I x4] [v_I (max x3 (M (45 + x1.toNat) x4.toNat))] M Q
    refine y_istore_n (ls' := [v_P 30, v_I x1, v_U, v_I (max x3 (M (45 + x1.toNat) x4.toNat)), v_I x4]) dX4_highest_30 rfl (by decide) rfl ?_
    obtain ⟨s4, h⟩ := h
    refine y_iinc (ls' := [v_P 30, v_I x1, v_U, v_I (max x3 (M (45 + x1.toNat) x4.toNat)), v_I (x4 + 1)]) dX4_highest_31 rfl s4 (by decide) rfl ?_
    refine x_goto (tgt := 5) dX4_highest_34 (by decide) ?_
    exact h
theorem wp_X4_presser_0 {x1 x2 : Int} {M : mM} {Q : Int → mM → Prop} (h : X_ kk_X4_presser 6 [v_P 30, v_I x1, v_I x2, v_I (-6), v_I 0, v_U] [] M Q) : X_ kk_X4_presser 0 [v_P 30, v_I x1, v_I x2, v_U, v_U, v_U] [] M Q := by
  refine x_bipush dX4_presser_0 (by decide) (by decide) ?_
  refine y_istore_n (ls' := [v_P 30, v_I x1, v_I x2, v_I (-6), v_U, v_U]) dX4_presser_2 rfl (by decide) rfl ?_
  refine x_iconst dX4_presser_3 (by decide) ?_
  refine y_istore (ls' := [v_P 30, v_I x1, v_I x2, v_I (-6), v_I 0, v_U]) dX4_presser_4 (by decide) rfl ?_
  exact h
theorem wp_X4_presser_6 {x1 x2 x3 x4 : Int} {M : mM} {Q : Int → mM → Prop} (h : ((M 1 6) ≤ x4 → Q x3 M) ∧ (¬ (M 1 6) ≤ x4 → (0 ≤ x1 ∧ x1 < 3) ∧ ((M 43 x1.toNat) < x2 → Q x3 M) ∧ (¬ (M 43 x1.toNat) < x2 → (x3 < 0 → ((0 : Int) ≤ x1 ∧ x1 < (3 : Int)) ∧ (0 ≤ x4 ∧ x4 < 6) ∧ (0 ≤ x1 ∧ x1 < 3) ∧ ((M (45 + x1.toNat) x4.toNat) < (M 43 x1.toNat) → (m_ir (x4 + 1)) ∧ X_ kk_X4_presser 6 [v_P 30, v_I x1, v_I x2, v_I x3, v_I (x4 + 1), v_U] [] M Q) ∧ (¬ (M (45 + x1.toNat) x4.toNat) < (M 43 x1.toNat) → (m_ir (x4 + 1)) ∧ X_ kk_X4_presser 6 [v_P 30, v_I x1, v_I x2, v_I x4, v_I (x4 + 1), v_U] [] M Q)) ∧ (¬ x3 < 0 → ((0 : Int) ≤ x4 ∧ x4 < (6 : Int)) ∧ ((0 : Int) ≤ x3 ∧ x3 < (6 : Int)) ∧ ((M (8 + 3 * x3.toNat) 2) ≤ (M (8 + 3 * x4.toNat) 2) → (m_ir (x4 + 1)) ∧ X_ kk_X4_presser 6 [v_P 30, v_I x1, v_I x2, v_I x3, v_I (x4 + 1), v_U] [] M Q) ∧ (¬ (M (8 + 3 * x3.toNat) 2) ≤ (M (8 + 3 * x4.toNat) 2) → ((0 : Int) ≤ x1 ∧ x1 < (3 : Int)) ∧ (0 ≤ x4 ∧ x4 < 6) ∧ (0 ≤ x1 ∧ x1 < 3) ∧ ((M (45 + x1.toNat) x4.toNat) < (M 43 x1.toNat) → (m_ir (x4 + 1)) ∧ X_ kk_X4_presser 6 [v_P 30, v_I x1, v_I x2, v_I x3, v_I (x4 + 1), v_U] [] M Q) ∧ (¬ (M (45 + x1.toNat) x4.toNat) < (M 43 x1.toNat) → (m_ir (x4 + 1)) ∧ X_ kk_X4_presser 6 [v_P 30, v_I x1, v_I x2, v_I x4, v_I (x4 + 1), v_U] [] M Q)))))) : X_ kk_X4_presser 6 [v_P 30, v_I x1, v_I x2, v_I x3, v_I x4, v_U] [] M Q := by
  refine x_iload dX4_presser_6 rfl ?_
  refine x_aload_n dX4_presser_8 rfl rfl ?_
  refine y_getP dX4_presser_9 sh_30 cf_X4 fl_X4_56 (by decide) (by decide) gg_30_0 ?_
  refine x_getI dX4_presser_12 sh_1 cf_X6 fl_X4_81 (by decide) (by decide) ?_
  refine x_ic_ge (tgt := 99) dX4_presser_15 (by decide) (fun hc => ?_) (fun hc => ?_)
  · replace h := h.1 hc
    refine x_iload_n dX4_presser_99 rfl rfl ?_
    refine x_iret dX4_presser_100 rfl (Or.inl rfl) (fun _ _ => h)
  · replace h := h.2 hc
    refine x_aload_n dX4_presser_18 rfl rfl ?_
    refine y_getP dX4_presser_19 sh_30 cf_X4 fl_X4_48 (by decide) (by decide) gg_30_13 ?_
    refine x_iload_n dX4_presser_22 rfl rfl ?_
    obtain ⟨s1, h⟩ := h
    refine x_iald dX4_presser_23 sh_43 s1 ?_
    refine x_iload_n dX4_presser_24 rfl rfl ?_
    refine x_ic_lt (tgt := 99) dX4_presser_25 (by decide) (fun hc => ?_) (fun hc => ?_)
    · replace h := h.1 hc
      refine x_iload_n dX4_presser_99 rfl rfl ?_
      refine x_iret dX4_presser_100 rfl (Or.inl rfl) (fun _ _ => h)
    · replace h := h.2 hc
      refine x_iload_n dX4_presser_28 rfl rfl ?_
      refine x_if_lt (tgt := 60) dX4_presser_29 (by decide) (fun hc => ?_) (fun hc => ?_)
      · replace h := h.1 hc
        refine x_iconst dX4_presser_60 (by decide) ?_
        refine x_goto (tgt := 65) dX4_presser_61 (by decide) ?_
        refine y_istore (ls' := [v_P 30, v_I x1, v_I x2, v_I x3, v_I x4, v_I 1]) dX4_presser_65 (by decide) rfl ?_
        refine x_iload dX4_presser_67 rfl ?_
        refine x_if_eq (tgt := 93) dX4_presser_69 (by decide) (fun hc => absurd hc (by decide)) (fun _ => ?_)
        refine x_aload_n dX4_presser_72 rfl rfl ?_
        refine y_getP dX4_presser_73 sh_30 cf_X4 fl_X4_53 (by decide) (by decide) gg_30_14 ?_
        refine x_iload_n dX4_presser_76 rfl rfl ?_
        obtain ⟨s2, h⟩ := h
        refine y_aaldR dX4_presser_77 s2 ?_
        have g3 := sh_reach (j := x1.toNat) (by clear h; omega)
        refine x_iload dX4_presser_78 rfl ?_
        obtain ⟨s4, h⟩ := h
        refine x_iald dX4_presser_80 g3 s4 ?_
        refine x_aload_n dX4_presser_81 rfl rfl ?_
        refine y_getP dX4_presser_82 sh_30 cf_X4 fl_X4_48 (by decide) (by decide) gg_30_13 ?_
        refine x_iload_n dX4_presser_85 rfl rfl ?_
        obtain ⟨s5, h⟩ := h
        refine x_iald dX4_presser_86 sh_43 s5 ?_
        refine x_ic_lt (tgt := 93) dX4_presser_87 (by decide) (fun hc => ?_) (fun hc => ?_)
        · replace h := h.1 hc
          obtain ⟨s6, h⟩ := h
          refine y_iinc (ls' := [v_P 30, v_I x1, v_I x2, v_I x3, v_I (x4 + 1), v_I 1]) dX4_presser_93 rfl s6 (by decide) rfl ?_
          refine x_goto (tgt := 6) dX4_presser_96 (by decide) ?_
          refine y_forget 5 (ls' := [v_P 30, v_I x1, v_I x2, v_I x3, v_I (x4 + 1), v_U]) rfl ?_
          exact h
        · replace h := h.2 hc
          refine x_iload dX4_presser_90 rfl ?_
          refine y_istore_n (ls' := [v_P 30, v_I x1, v_I x2, v_I x4, v_I x4, v_I 1]) dX4_presser_92 rfl (by decide) rfl ?_
          obtain ⟨s7, h⟩ := h
          refine y_iinc (ls' := [v_P 30, v_I x1, v_I x2, v_I x4, v_I (x4 + 1), v_I 1]) dX4_presser_93 rfl s7 (by decide) rfl ?_
          refine x_goto (tgt := 6) dX4_presser_96 (by decide) ?_
          refine y_forget 5 (ls' := [v_P 30, v_I x1, v_I x2, v_I x4, v_I (x4 + 1), v_U]) rfl ?_
          exact h
      · replace h := h.2 hc
        refine x_aload_n dX4_presser_32 rfl rfl ?_
        refine y_getP dX4_presser_33 sh_30 cf_X4 fl_X4_56 (by decide) (by decide) gg_30_0 ?_
        refine y_getP dX4_presser_36 sh_1 cf_X6 fl_X4_85 (by decide) (by decide) gg_1_7 ?_
        refine x_iload dX4_presser_39 rfl ?_
        obtain ⟨s8, h⟩ := h
        refine y_aaldB dX4_presser_41 s8 ?_
        have g9 := isB_at (j := x4.toNat) (by clear h; omega)
        refine x_getI dX4_presser_42 (g9).1 cf_X1 fl_X4_147 (by decide) (by decide) ?_
        refine x_aload_n dX4_presser_45 rfl rfl ?_
        refine y_getP dX4_presser_46 sh_30 cf_X4 fl_X4_56 (by decide) (by decide) gg_30_0 ?_
        refine y_getP dX4_presser_49 sh_1 cf_X6 fl_X4_85 (by decide) (by decide) gg_1_7 ?_
        refine x_iload_n dX4_presser_52 rfl rfl ?_
        obtain ⟨s10, h⟩ := h
        refine y_aaldB dX4_presser_53 s10 ?_
        have g11 := isB_at (j := x3.toNat) (by clear h; omega)
        refine x_getI dX4_presser_54 (g11).1 cf_X1 fl_X4_147 (by decide) (by decide) ?_
        refine x_ic_ge (tgt := 64) dX4_presser_57 (by decide) (fun hc => ?_) (fun hc => ?_)
        · replace h := h.1 hc
          refine x_iconst dX4_presser_64 (by decide) ?_
          refine y_istore (ls' := [v_P 30, v_I x1, v_I x2, v_I x3, v_I x4, v_I 0]) dX4_presser_65 (by decide) rfl ?_
          refine x_iload dX4_presser_67 rfl ?_
          refine x_if_eq (tgt := 93) dX4_presser_69 (by decide) (fun _ => ?_) (fun hc => absurd hc (by decide))
          obtain ⟨s12, h⟩ := h
          refine y_iinc (ls' := [v_P 30, v_I x1, v_I x2, v_I x3, v_I (x4 + 1), v_I 0]) dX4_presser_93 rfl s12 (by decide) rfl ?_
          refine x_goto (tgt := 6) dX4_presser_96 (by decide) ?_
          refine y_forget 5 (ls' := [v_P 30, v_I x1, v_I x2, v_I x3, v_I (x4 + 1), v_U]) rfl ?_
          exact h
        · replace h := h.2 hc
          refine x_iconst dX4_presser_60 (by decide) ?_
          refine x_goto (tgt := 65) dX4_presser_61 (by decide) ?_
          refine y_istore (ls' := [v_P 30, v_I x1, v_I x2, v_I x3, v_I x4, v_I 1]) dX4_presser_65 (by decide) rfl ?_
          refine x_iload dX4_presser_67 rfl ?_
          refine x_if_eq (tgt := 93) dX4_presser_69 (by decide) (fun hc => absurd hc (by decide)) (fun _ => ?_)
          refine x_aload_n dX4_presser_72 rfl rfl ?_
          refine y_getP dX4_presser_73 sh_30 cf_X4 fl_X4_53 (by decide) (by decide) gg_30_14 ?_
          refine x_iload_n dX4_presser_76 rfl rfl ?_
          obtain ⟨s13, h⟩ := h
          refine y_aaldR dX4_presser_77 s13 ?_
          have g14 := sh_reach (j := x1.toNat) (by clear h; omega)
          refine x_iload dX4_presser_78 rfl ?_
          obtain ⟨s15, h⟩ := h
          refine x_iald dX4_presser_80 g14 s15 ?_
          refine x_aload_n dX4_presser_81 rfl rfl ?_
          refine y_getP dX4_presser_82 sh_30 cf_X4 fl_X4_48 (by decide) (by decide) gg_30_13 ?_
          refine x_iload_n dX4_presser_85 rfl rfl ?_
          obtain ⟨s16, h⟩ := h
          refine x_iald dX4_presser_86 sh_43 s16 ?_
          refine x_ic_lt (tgt := 93) dX4_presser_87 (by decide) (fun hc => ?_) (fun hc => ?_)
          · replace h := h.1 hc
            obtain ⟨s17, h⟩ := h
            refine y_iinc (ls' := [v_P 30, v_I x1, v_I x2, v_I x3, v_I (x4 + 1), v_I 1]) dX4_presser_93 rfl s17 (by decide) rfl ?_
            refine x_goto (tgt := 6) dX4_presser_96 (by decide) ?_
            refine y_forget 5 (ls' := [v_P 30, v_I x1, v_I x2, v_I x3, v_I (x4 + 1), v_U]) rfl ?_
            exact h
          · replace h := h.2 hc
            refine x_iload dX4_presser_90 rfl ?_
            refine y_istore_n (ls' := [v_P 30, v_I x1, v_I x2, v_I x4, v_I x4, v_I 1]) dX4_presser_92 rfl (by decide) rfl ?_
            obtain ⟨s18, h⟩ := h
            refine y_iinc (ls' := [v_P 30, v_I x1, v_I x2, v_I x4, v_I (x4 + 1), v_I 1]) dX4_presser_93 rfl s18 (by decide) rfl ?_
            refine x_goto (tgt := 6) dX4_presser_96 (by decide) ?_
            refine y_forget 5 (ls' := [v_P 30, v_I x1, v_I x2, v_I x4, v_I (x4 + 1), v_U]) rfl ?_
            exact h
theorem wp_X4_hand_0 {x1 x2 x3 : Int} {M : mM} {Q : Int → mM → Prop} (h : (0 ≤ x1 ∧ x1 < 6) ∧ (0 ≤ x1 ∧ x1 < 6) ∧ (0 ≤ x1 ∧ x1 < 6) ∧ (0 ≤ x2 ∧ x2 < 8) ∧ (m_ir ((M 38 x1.toNat) + (M 2 x2.toNat))) ∧ (0 ≤ x1 ∧ x1 < 6) ∧ ∀ M7 : mM, M7 = m_up (m_up M 34 x1.toNat (m_or (M 34 x1.toNat) (m_shl 1 x2))) 38 x1.toNat ((M 38 x1.toNat) + (M 2 x2.toNat)) → ((0 : Int) ≤ x1 ∧ x1 < (6 : Int)) ∧ (0 ≤ x1 ∧ x1 < 6) ∧ ∃ Qc12 : Int → mM → Prop, C_ kk_X1_worthOf [v_P (8 + 3 * x1.toNat), v_I ((M 38 x1.toNat) + (M 2 x2.toNat))] M7 Qc12 ∧ ∀ (r13 : Int) (M14 : mM), m_ir r13 → m_okM M14 → Qc12 r13 M14 → (0 ≤ x1 ∧ x1 < 6) ∧ (0 ≤ x1 ∧ x1 < 6) ∧ (m_ir ((M14 36 x1.toNat) + x3)) ∧ (0 ≤ x1 ∧ x1 < 6) ∧ (0 ≤ x1 ∧ x1 < 6) ∧ (m_ir ((M14 37 x1.toNat) - x3)) ∧ (0 ≤ x1 ∧ x1 < 6) ∧ ∀ M26 : mM, M26 = m_up (m_up (m_up M14 35 x1.toNat r13) 36 x1.toNat ((M14 36 x1.toNat) + x3)) 37 x1.toNat ((M14 37 x1.toNat) - x3) → X_ kk_X4_hand 77 [v_P 30, v_I x1, v_U, v_U, v_I 0] [] M26 Q) : X_ kk_X4_hand 0 [v_P 30, v_I x1, v_I x2, v_I x3, v_U] [] M Q := by
  refine x_aload_n dX4_hand_0 rfl rfl ?_
  refine y_getP dX4_hand_1 sh_30 cf_X4 fl_X4_21 (by decide) (by decide) gg_30_4 ?_
  refine x_iload_n dX4_hand_4 rfl rfl ?_
  refine x_dup2 dX4_hand_5 (fun _ _ => rfl) (fun _ _ => rfl) ?_
  obtain ⟨s1, h⟩ := h
  refine x_iald dX4_hand_6 sh_34 s1 ?_
  refine x_iconst dX4_hand_7 (by decide) ?_
  refine x_iload_n dX4_hand_8 rfl rfl ?_
  refine x_ishl dX4_hand_9 ?_
  refine x_ior dX4_hand_10 ?_
  obtain ⟨s2, h⟩ := h
  refine x_iast dX4_hand_11 sh_34 s2 ?_
  refine x_aload_n dX4_hand_12 rfl rfl ?_
  refine y_getP dX4_hand_13 sh_30 cf_X4 fl_X4_33 (by decide) (by decide) gg_30_8 ?_
  refine x_iload_n dX4_hand_16 rfl rfl ?_
  refine x_dup2 dX4_hand_17 (fun _ _ => rfl) (fun _ _ => rfl) ?_
  obtain ⟨s3, h⟩ := h
  refine y_iald (v := (M 38 x1.toNat)) dX4_hand_18 sh_38 s3 (m_up_ne (Or.inl (by decide))) ?_
  refine x_aload_n dX4_hand_19 rfl rfl ?_
  refine y_getP dX4_hand_20 sh_30 cf_X4 fl_X4_56 (by decide) (by decide) gg_30_0 ?_
  refine y_getP dX4_hand_23 sh_1 cf_X6 fl_X4_130 (by decide) (by decide) gg_1_1 ?_
  refine x_iload_n dX4_hand_26 rfl rfl ?_
  obtain ⟨s4, h⟩ := h
  refine y_iald (v := (M 2 x2.toNat)) dX4_hand_27 sh_2 s4 (m_up_ne (Or.inl (by decide))) ?_
  obtain ⟨s5, h⟩ := h
  refine x_iadd dX4_hand_28 s5 ?_
  obtain ⟨s6, h⟩ := h
  refine x_iast dX4_hand_29 sh_38 s6 ?_
  obtain ⟨M7, e8⟩ : ∃ z : mM, z = m_up (m_up M 34 x1.toNat (m_or (M 34 x1.toNat) (m_shl 1 x2))) 38 x1.toNat ((M 38 x1.toNat) + (M 2 x2.toNat)) := ⟨_, rfl⟩
  rw [← e8]
  replace h := h M7 e8
  refine x_aload_n dX4_hand_30 rfl rfl ?_
  refine y_getP dX4_hand_31 sh_30 cf_X4 fl_X4_24 (by decide) (by decide) gg_30_5 ?_
  refine x_iload_n dX4_hand_34 rfl rfl ?_
  refine x_aload_n dX4_hand_35 rfl rfl ?_
  refine y_getP dX4_hand_36 sh_30 cf_X4 fl_X4_56 (by decide) (by decide) gg_30_0 ?_
  refine y_getP dX4_hand_39 sh_1 cf_X6 fl_X4_85 (by decide) (by decide) gg_1_7 ?_
  refine x_iload_n dX4_hand_42 rfl rfl ?_
  obtain ⟨s9, h⟩ := h
  refine y_aaldB dX4_hand_43 s9 ?_
  have g10 := isB_at (j := x1.toNat) (by clear h; omega)
  refine x_aload_n dX4_hand_44 rfl rfl ?_
  refine y_getP dX4_hand_45 sh_30 cf_X4 fl_X4_33 (by decide) (by decide) gg_30_8 ?_
  refine x_iload_n dX4_hand_48 rfl rfl ?_
  obtain ⟨s11, h⟩ := h
  refine y_iald (v := ((M 38 x1.toNat) + (M 2 x2.toNat))) dX4_hand_49 sh_38 s11 ((congrFun (congrFun e8 38) x1.toNat).trans (m_up_same _ _ _ _)) ?_
  obtain ⟨Qc12, hc15, h⟩ := h
  refine x_callV (as := [v_I ((M 38 x1.toNat) + (M 2 x2.toNat))]) (st := [v_I x1, v_P 35]) (Qc := Qc12) dX4_hand_50 mt_X1_worthOf ml_X4_133 ⟨by decide, by decide⟩ (g10).1 rfl (fun _ _ => Nat.le_of_ble_eq_true rfl) hc15 (fun r13 M14 hr16 hM17 hq18 => ?_)
  replace h := h r13 M14 hr16 hM17 hq18
  change X_ kk_X4_hand 53 [v_P 30, v_I x1, v_I x2, v_I x3, v_U] [v_I r13, v_I x1, v_P 35] M14 Q
  obtain ⟨s19, h⟩ := h
  refine x_iast dX4_hand_53 sh_35 s19 ?_
  refine x_aload_n dX4_hand_54 rfl rfl ?_
  refine y_getP dX4_hand_55 sh_30 cf_X4 fl_X4_27 (by decide) (by decide) gg_30_6 ?_
  refine x_iload_n dX4_hand_58 rfl rfl ?_
  refine x_dup2 dX4_hand_59 (fun _ _ => rfl) (fun _ _ => rfl) ?_
  obtain ⟨s20, h⟩ := h
  refine y_iald (v := (M14 36 x1.toNat)) dX4_hand_60 sh_36 s20 (m_up_ne (Or.inl (by decide))) ?_
  refine x_iload_n dX4_hand_61 rfl rfl ?_
  obtain ⟨s21, h⟩ := h
  refine x_iadd dX4_hand_62 s21 ?_
  obtain ⟨s22, h⟩ := h
  refine x_iast dX4_hand_63 sh_36 s22 ?_
  refine x_aload_n dX4_hand_64 rfl rfl ?_
  refine y_getP dX4_hand_65 sh_30 cf_X4 fl_X4_30 (by decide) (by decide) gg_30_7 ?_
  refine x_iload_n dX4_hand_68 rfl rfl ?_
  refine x_dup2 dX4_hand_69 (fun _ _ => rfl) (fun _ _ => rfl) ?_
  obtain ⟨s23, h⟩ := h
  refine y_iald (v := (M14 37 x1.toNat)) dX4_hand_70 sh_37 s23 ((m_up_ne (Or.inl (by decide))).trans (m_up_ne (Or.inl (by decide)))) ?_
  refine x_iload_n dX4_hand_71 rfl rfl ?_
  obtain ⟨s24, h⟩ := h
  refine x_isub dX4_hand_72 s24 ?_
  obtain ⟨s25, h⟩ := h
  refine x_iast dX4_hand_73 sh_37 s25 ?_
  obtain ⟨M26, e27⟩ : ∃ z : mM, z = m_up (m_up (m_up M14 35 x1.toNat r13) 36 x1.toNat ((M14 36 x1.toNat) + x3)) 37 x1.toNat ((M14 37 x1.toNat) - x3) := ⟨_, rfl⟩
  rw [← e27]
  replace h := h M26 e27
  refine x_iconst dX4_hand_74 (by decide) ?_
  refine y_istore (ls' := [v_P 30, v_I x1, v_I x2, v_I x3, v_I 0]) dX4_hand_75 (by decide) rfl ?_
  refine y_forget 2 (ls' := [v_P 30, v_I x1, v_U, v_I x3, v_I 0]) rfl ?_
  refine y_forget 3 (ls' := [v_P 30, v_I x1, v_U, v_U, v_I 0]) rfl ?_
  exact h
theorem wp_X4_hand_77 {x1 x4 : Int} {M : mM} {Q : Int → mM → Prop} (h : (3 ≤ x4 → Q 0 M) ∧ (¬ 3 ≤ x4 → ∃ Qc1 : Int → mM → Prop, C_ kk_X4_weigh [v_P 30, v_I x4, v_I x1] M Qc1 ∧ ∀ (r2 : Int) (M3 : mM), m_ir r2 → m_okM M3 → Qc1 r2 M3 → (m_ir (x4 + 1)) ∧ X_ kk_X4_hand 77 [v_P 30, v_I x1, v_U, v_U, v_I (x4 + 1)] [] M3 Q)) : X_ kk_X4_hand 77 [v_P 30, v_I x1, v_U, v_U, v_I x4] [] M Q := by
  refine x_iload dX4_hand_77 rfl ?_
  refine x_iconst dX4_hand_79 (by decide) ?_
  refine x_ic_ge (tgt := 96) dX4_hand_80 (by decide) (fun hc => ?_) (fun hc => ?_)
  · replace h := h.1 hc
    refine x_ret dX4_hand_96 rfl (fun _ => h)
  · replace h := h.2 hc
    refine x_aload_n dX4_hand_83 rfl rfl ?_
    refine x_iload dX4_hand_84 rfl ?_
    refine x_iload_n dX4_hand_86 rfl rfl ?_
    obtain ⟨Qc1, hc4, h⟩ := h
    refine x_callV (as := [v_I x4, v_I x1]) (st := []) (Qc := Qc1) dX4_hand_87 mt_X4_weigh ml_X4_127 ⟨by decide, by decide⟩ sh_30 rfl (fun _ _ => Nat.le_of_ble_eq_true rfl) hc4 (fun r2 M3 hr5 hM6 hq7 => ?_)
    replace h := h r2 M3 hr5 hM6 hq7
    change X_ kk_X4_hand 90 [v_P 30, v_I x1, v_U, v_U, v_I x4] [] M3 Q
    obtain ⟨s8, h⟩ := h
    refine y_iinc (ls' := [v_P 30, v_I x1, v_U, v_U, v_I (x4 + 1)]) dX4_hand_90 rfl s8 (by decide) rfl ?_
    refine x_goto (tgt := 77) dX4_hand_93 (by decide) ?_
    exact h
theorem wp_X4_lookFrom_0 {x1 x2 : Int} {M : mM} {Q : Int → mM → Prop} (h : X_ kk_X4_lookFrom 2 [v_P 30, v_I x1, v_I x2, v_I 0] [] M Q) : X_ kk_X4_lookFrom 0 [v_P 30, v_I x1, v_I x2, v_U] [] M Q := by
  refine x_iconst dX4_lookFrom_0 (by decide) ?_
  refine y_istore_n (ls' := [v_P 30, v_I x1, v_I x2, v_I 0]) dX4_lookFrom_1 rfl (by decide) rfl ?_
  exact h
theorem wp_X4_lookFrom_2 {x1 x2 x3 : Int} {M : mM} {Q : Int → mM → Prop} (h : (3 ≤ x3 → Q 0 M) ∧ (¬ 3 ≤ x3 → (0 ≤ x3 ∧ x3 < 3) ∧ (x1 ≤ x3 → (0 ≤ x3 ∧ x3 < 3) ∧ (m_ir (x3 + 1)) ∧ X_ kk_X4_lookFrom 2 [v_P 30, v_I x1, v_I x2, v_I (x3 + 1)] [] (m_up M 42 x3.toNat (max (M 42 x3.toNat) x2)) Q) ∧ (¬ x1 ≤ x3 → (m_ir (x2 + 1)) ∧ (0 ≤ x3 ∧ x3 < 3) ∧ (m_ir (x3 + 1)) ∧ X_ kk_X4_lookFrom 2 [v_P 30, v_I x1, v_I x2, v_I (x3 + 1)] [] (m_up M 42 x3.toNat (max (M 42 x3.toNat) (x2 + 1))) Q))) : X_ kk_X4_lookFrom 2 [v_P 30, v_I x1, v_I x2, v_I x3] [] M Q := by
  refine x_iload_n dX4_lookFrom_2 rfl rfl ?_
  refine x_iconst dX4_lookFrom_3 (by decide) ?_
  refine x_ic_ge (tgt := 40) dX4_lookFrom_4 (by decide) (fun hc => ?_) (fun hc => ?_)
  · replace h := h.1 hc
    refine x_ret dX4_lookFrom_40 rfl (fun _ => h)
  · replace h := h.2 hc
    refine x_aload_n dX4_lookFrom_7 rfl rfl ?_
    refine y_getP dX4_lookFrom_8 sh_30 cf_X4 fl_X4_45 (by decide) (by decide) gg_30_12 ?_
    refine x_iload_n dX4_lookFrom_11 rfl rfl ?_
    refine x_aload_n dX4_lookFrom_12 rfl rfl ?_
    refine y_getP dX4_lookFrom_13 sh_30 cf_X4 fl_X4_45 (by decide) (by decide) gg_30_12 ?_
    refine x_iload_n dX4_lookFrom_16 rfl rfl ?_
    obtain ⟨s1, h⟩ := h
    refine x_iald dX4_lookFrom_17 sh_42 s1 ?_
    refine x_iload_n dX4_lookFrom_18 rfl rfl ?_
    refine x_iload_n dX4_lookFrom_19 rfl rfl ?_
    refine x_ic_ge (tgt := 29) dX4_lookFrom_20 (by decide) (fun hc => ?_) (fun hc => ?_)
    · replace h := h.1 hc
      refine x_iload_n dX4_lookFrom_29 rfl rfl ?_
      refine x_max (st := [v_I x3, v_P 42]) dX4_lookFrom_30 ml_X4_144 ⟨by decide, by decide⟩ (fun _ _ => Nat.le_of_ble_eq_true rfl) ?_
      change X_ kk_X4_lookFrom 33 [v_P 30, v_I x1, v_I x2, v_I x3] [v_I (max (M 42 x3.toNat) x2), v_I x3, v_P 42] M Q
      obtain ⟨s2, h⟩ := h
      refine x_iast dX4_lookFrom_33 sh_42 s2 ?_
      obtain ⟨s3, h⟩ := h
      refine y_iinc (ls' := [v_P 30, v_I x1, v_I x2, v_I (x3 + 1)]) dX4_lookFrom_34 rfl s3 (by decide) rfl ?_
      refine x_goto (tgt := 2) dX4_lookFrom_37 (by decide) ?_
      exact h
    · replace h := h.2 hc
      refine x_iload_n dX4_lookFrom_23 rfl rfl ?_
      refine x_iconst dX4_lookFrom_24 (by decide) ?_
      obtain ⟨s4, h⟩ := h
      refine x_iadd dX4_lookFrom_25 s4 ?_
      refine x_goto (tgt := 30) dX4_lookFrom_26 (by decide) ?_
      refine x_max (st := [v_I x3, v_P 42]) dX4_lookFrom_30 ml_X4_144 ⟨by decide, by decide⟩ (fun _ _ => Nat.le_of_ble_eq_true rfl) ?_
      change X_ kk_X4_lookFrom 33 [v_P 30, v_I x1, v_I x2, v_I x3] [v_I (max (M 42 x3.toNat) (x2 + 1)), v_I x3, v_P 42] M Q
      obtain ⟨s5, h⟩ := h
      refine x_iast dX4_lookFrom_33 sh_42 s5 ?_
      obtain ⟨s6, h⟩ := h
      refine y_iinc (ls' := [v_P 30, v_I x1, v_I x2, v_I (x3 + 1)]) dX4_lookFrom_34 rfl s6 (by decide) rfl ?_
      refine x_goto (tgt := 2) dX4_lookFrom_37 (by decide) ?_
      exact h
