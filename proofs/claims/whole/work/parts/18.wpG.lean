theorem wp_X10_lot_0 {x1 x2 x3 : Int} {M : mM} {Q : Int → mM → Prop} (h : (x1 < 0 ∨ 4 < x1 → Q (-2) M) ∧ (¬ (x1 < 0 ∨ 4 < x1) → (x2 < 0 ∨ 2 < x2 → Q (-2) M) ∧ (¬ (x2 < 0 ∨ 2 < x2) → (x3 < 0 ∨ 200 < x3 → Q (-2) M) ∧ (¬ (x3 < 0 ∨ 200 < x3) → ((M 1 0) < 8 → ∃ Qc1 : Int → mM → Prop, C_ kk_X10_forget [v_P 0] M Qc1 ∧ ∀ (r2 : Int) (M3 : mM), m_ir r2 → m_okM M3 → Qc1 r2 M3 → ∃ Qc8 : Int → mM → Prop, C_ kk_X6_addLot [v_P 1, v_I x1, v_I x2, v_I x3] M3 Qc8 ∧ ∀ (r9 : Int) (M10 : mM), m_ir r9 → m_okM M10 → Qc8 r9 M10 → Q r9 M10) ∧ (¬ (M 1 0) < 8 → Q (-4) M))))) : X_ kk_X10_lot 0 [v_P 0, v_I x1, v_I x2, v_I x3] [] M Q := by
  refine x_iload_n dX10_lot_0 rfl rfl ?_
  refine x_iconst dX10_lot_1 (by decide) ?_
  refine x_iconst dX10_lot_2 (by decide) ?_
  refine x_isNot (st := []) dX10_lot_3 ml_X10_76 ⟨by decide, by decide⟩ (fun _ _ => Nat.le_of_ble_eq_true rfl) (fun hc => ?_) (fun hc => ?_)
  · change X_ kk_X10_lot 6 [v_P 0, v_I x1, v_I x2, v_I x3] [v_I 1] M Q
    replace h := h.1 hc
    refine x_if_ne (tgt := 29) dX10_lot_6 (by decide) (fun _ => ?_) (fun hc => absurd hc (by decide))
    refine x_bipush dX10_lot_29 (by decide) (by decide) ?_
    refine x_iret dX10_lot_31 rfl (Or.inl rfl) (fun _ _ => h)
  · change X_ kk_X10_lot 6 [v_P 0, v_I x1, v_I x2, v_I x3] [v_I 0] M Q
    replace h := h.2 hc
    refine x_if_ne (tgt := 29) dX10_lot_6 (by decide) (fun hc => absurd hc (by decide)) (fun _ => ?_)
    refine x_iload_n dX10_lot_9 rfl rfl ?_
    refine x_iconst dX10_lot_10 (by decide) ?_
    refine x_iconst dX10_lot_11 (by decide) ?_
    refine x_isNot (st := []) dX10_lot_12 ml_X10_76 ⟨by decide, by decide⟩ (fun _ _ => Nat.le_of_ble_eq_true rfl) (fun hc => ?_) (fun hc => ?_)
    · change X_ kk_X10_lot 15 [v_P 0, v_I x1, v_I x2, v_I x3] [v_I 1] M Q
      replace h := h.1 hc
      refine x_if_ne (tgt := 29) dX10_lot_15 (by decide) (fun _ => ?_) (fun hc => absurd hc (by decide))
      refine x_bipush dX10_lot_29 (by decide) (by decide) ?_
      refine x_iret dX10_lot_31 rfl (Or.inl rfl) (fun _ _ => h)
    · change X_ kk_X10_lot 15 [v_P 0, v_I x1, v_I x2, v_I x3] [v_I 0] M Q
      replace h := h.2 hc
      refine x_if_ne (tgt := 29) dX10_lot_15 (by decide) (fun hc => absurd hc (by decide)) (fun _ => ?_)
      refine x_iload_n dX10_lot_18 rfl rfl ?_
      refine x_iconst dX10_lot_19 (by decide) ?_
      refine x_sipush dX10_lot_20 (by decide) (by decide) ?_
      refine x_isNot (st := []) dX10_lot_23 ml_X10_76 ⟨by decide, by decide⟩ (fun _ _ => Nat.le_of_ble_eq_true rfl) (fun hc => ?_) (fun hc => ?_)
      · change X_ kk_X10_lot 26 [v_P 0, v_I x1, v_I x2, v_I x3] [v_I 1] M Q
        replace h := h.1 hc
        refine x_if_eq (tgt := 32) dX10_lot_26 (by decide) (fun hc => absurd hc (by decide)) (fun _ => ?_)
        refine x_bipush dX10_lot_29 (by decide) (by decide) ?_
        refine x_iret dX10_lot_31 rfl (Or.inl rfl) (fun _ _ => h)
      · change X_ kk_X10_lot 26 [v_P 0, v_I x1, v_I x2, v_I x3] [v_I 0] M Q
        replace h := h.2 hc
        refine x_if_eq (tgt := 32) dX10_lot_26 (by decide) (fun _ => ?_) (fun hc => absurd hc (by decide))
        refine x_aload_n dX10_lot_32 rfl rfl ?_
        refine y_getP dX10_lot_33 sh_0 cf_X10 fl_X10_10 (by decide) (by decide) gg_0_0 ?_
        refine x_getI dX10_lot_36 sh_1 cf_X6 fl_X10_80 (by decide) (by decide) ?_
        refine x_bipush dX10_lot_39 (by decide) (by decide) ?_
        refine x_ic_lt (tgt := 47) dX10_lot_41 (by decide) (fun hc => ?_) (fun hc => ?_)
        · replace h := h.1 hc
          refine x_aload_n dX10_lot_47 rfl rfl ?_
          obtain ⟨Qc1, hc4, h⟩ := h
          refine x_callV (as := []) (st := []) (Qc := Qc1) dX10_lot_48 mt_X10_forget ml_X10_84 ⟨by decide, by decide⟩ sh_0 rfl (fun _ _ => Nat.le_of_ble_eq_true rfl) hc4 (fun r2 M3 hr5 hM6 hq7 => ?_)
          replace h := h r2 M3 hr5 hM6 hq7
          change X_ kk_X10_lot 51 [v_P 0, v_I x1, v_I x2, v_I x3] [] M3 Q
          refine x_aload_n dX10_lot_51 rfl rfl ?_
          refine y_getP dX10_lot_52 sh_0 cf_X10 fl_X10_10 (by decide) (by decide) gg_0_0 ?_
          refine x_iload_n dX10_lot_55 rfl rfl ?_
          refine x_iload_n dX10_lot_56 rfl rfl ?_
          refine x_iload_n dX10_lot_57 rfl rfl ?_
          obtain ⟨Qc8, hc11, h⟩ := h
          refine x_callV (as := [v_I x1, v_I x2, v_I x3]) (st := []) (Qc := Qc8) dX10_lot_58 mt_X6_addLot ml_X10_87 ⟨by decide, by decide⟩ sh_1 rfl (fun _ _ => Nat.le_of_ble_eq_true rfl) hc11 (fun r9 M10 hr12 hM13 hq14 => ?_)
          replace h := h r9 M10 hr12 hM13 hq14
          change X_ kk_X10_lot 61 [v_P 0, v_I x1, v_I x2, v_I x3] [v_I r9] M10 Q
          refine x_iret dX10_lot_61 rfl (Or.inl rfl) (fun _ _ => h)
        · replace h := h.2 hc
          refine x_bipush dX10_lot_44 (by decide) (by decide) ?_
          refine x_iret dX10_lot_46 rfl (Or.inl rfl) (fun _ _ => h)
theorem wp_X10_buyer_0 {M : mM} {Q : Int → mM → Prop} (h : ((M 1 6) < 6 → ∃ Qc1 : Int → mM → Prop, C_ kk_X10_forget [v_P 0] M Qc1 ∧ ∀ (r2 : Int) (M3 : mM), m_ir r2 → m_okM M3 → Qc1 r2 M3 → (m_ir ((M3 1 6) + 1)) ∧ (m_ir (((M3 1 6) + 1) - 1)) ∧ Q (((M3 1 6) + 1) - 1) (m_up M3 1 6 ((M3 1 6) + 1))) ∧ (¬ (M 1 6) < 6 → Q (-4) M)) : X_ kk_X10_buyer 0 [v_P 0] [] M Q := by
  refine x_aload_n dX10_buyer_0 rfl rfl ?_
  refine y_getP dX10_buyer_1 sh_0 cf_X10 fl_X10_10 (by decide) (by decide) gg_0_0 ?_
  refine x_getI dX10_buyer_4 sh_1 cf_X6 fl_X10_91 (by decide) (by decide) ?_
  refine x_bipush dX10_buyer_7 (by decide) (by decide) ?_
  refine x_ic_lt (tgt := 15) dX10_buyer_9 (by decide) (fun hc => ?_) (fun hc => ?_)
  · replace h := h.1 hc
    refine x_aload_n dX10_buyer_15 rfl rfl ?_
    obtain ⟨Qc1, hc4, h⟩ := h
    refine x_callV (as := []) (st := []) (Qc := Qc1) dX10_buyer_16 mt_X10_forget ml_X10_84 ⟨by decide, by decide⟩ sh_0 rfl (fun _ _ => Nat.le_of_ble_eq_true rfl) hc4 (fun r2 M3 hr5 hM6 hq7 => ?_)
    replace h := h r2 M3 hr5 hM6 hq7
    change X_ kk_X10_buyer 19 [v_P 0] [] M3 Q
    refine x_aload_n dX10_buyer_19 rfl rfl ?_
    refine y_getP dX10_buyer_20 sh_0 cf_X10 fl_X10_10 (by decide) (by decide) gg_0_0 ?_
    refine x_dup dX10_buyer_23 (fun _ _ => rfl) ?_
    refine x_getI dX10_buyer_24 sh_1 cf_X6 fl_X10_91 (by decide) (by decide) ?_
    refine x_iconst dX10_buyer_27 (by decide) ?_
    obtain ⟨s8, h⟩ := h
    refine x_iadd dX10_buyer_28 s8 ?_
    refine x_putI dX10_buyer_29 sh_1 cf_X6 fl_X10_91 (by decide) rfl (by decide) (Or.inl rfl) ?_
    refine x_aload_n dX10_buyer_32 rfl rfl ?_
    refine y_getP dX10_buyer_33 sh_0 cf_X10 fl_X10_10 (by decide) (by decide) gg_0_0 ?_
    refine y_getI (v := ((M3 1 6) + 1)) dX10_buyer_36 sh_1 cf_X6 fl_X10_91 (by decide) (by decide) (m_up_same _ _ _ _) ?_
    refine x_iconst dX10_buyer_39 (by decide) ?_
    obtain ⟨s9, h⟩ := h
    refine x_isub dX10_buyer_40 s9 ?_
    refine x_iret dX10_buyer_41 rfl (Or.inl rfl) (fun _ _ => h)
  · replace h := h.2 hc
    refine x_bipush dX10_buyer_12 (by decide) (by decide) ?_
    refine x_iret dX10_buyer_14 rfl (Or.inl rfl) (fun _ _ => h)
theorem wp_X10_set_0 {x1 x2 x3 : Int} {M : mM} {Q : Int → mM → Prop} (h : (0 ≤ x1 ∧ x1 < M 1 6 → (x2 < 0 ∨ 2 < x2 → Q (-2) M) ∧ (¬ (x2 < 0 ∨ 2 < x2) → ∃ Qc1 : Int → mM → Prop, C_ kk_X1_most [v_I x2] M Qc1 ∧ ∀ (r2 : Int) (M3 : mM), m_ir r2 → m_okM M3 → Qc1 r2 M3 → (x3 < 0 ∨ r2 < x3 → Q (-2) M3) ∧ (¬ (x3 < 0 ∨ r2 < x3) → ∃ Qc8 : Int → mM → Prop, C_ kk_X10_forget [v_P 0] M3 Qc8 ∧ ∀ (r9 : Int) (M10 : mM), m_ir r9 → m_okM M10 → Qc8 r9 M10 → ((0 : Int) ≤ x1 ∧ x1 < (6 : Int)) ∧ ∃ Qc17 : Int → mM → Prop, C_ kk_X1_put [v_P (8 + 3 * x1.toNat), v_I x2, v_I x3] M10 Qc17 ∧ ∀ (r18 : Int) (M19 : mM), m_ir r18 → m_okM M19 → Qc17 r18 M19 → Q r18 M19))) ∧ (¬ (0 ≤ x1 ∧ x1 < M 1 6) → Q (-1) M)) : X_ kk_X10_set 0 [v_P 0, v_I x1, v_I x2, v_I x3] [] M Q := by
  refine x_aload_n dX10_set_0 rfl rfl ?_
  refine y_getP dX10_set_1 sh_0 cf_X10 fl_X10_10 (by decide) (by decide) gg_0_0 ?_
  refine x_iload_n dX10_set_4 rfl rfl ?_
  refine x_hasBuyer (st := []) dX10_set_5 ml_X10_94 ⟨by decide, by decide⟩ (fun _ _ => Nat.le_of_ble_eq_true rfl) (fun hc => ?_) (fun hc => ?_)
  · change X_ kk_X10_set 8 [v_P 0, v_I x1, v_I x2, v_I x3] [v_I 1] M Q
    replace h := h.1 hc
    refine x_if_ne (tgt := 13) dX10_set_8 (by decide) (fun _ => ?_) (fun hc => absurd hc (by decide))
    refine x_iload_n dX10_set_13 rfl rfl ?_
    refine x_iconst dX10_set_14 (by decide) ?_
    refine x_iconst dX10_set_15 (by decide) ?_
    refine x_isNot (st := []) dX10_set_16 ml_X10_76 ⟨by decide, by decide⟩ (fun _ _ => Nat.le_of_ble_eq_true rfl) (fun hc => ?_) (fun hc => ?_)
    · change X_ kk_X10_set 19 [v_P 0, v_I x1, v_I x2, v_I x3] [v_I 1] M Q
      replace h := h.1 hc
      refine x_if_ne (tgt := 34) dX10_set_19 (by decide) (fun _ => ?_) (fun hc => absurd hc (by decide))
      refine x_bipush dX10_set_34 (by decide) (by decide) ?_
      refine x_iret dX10_set_36 rfl (Or.inl rfl) (fun _ _ => h)
    · change X_ kk_X10_set 19 [v_P 0, v_I x1, v_I x2, v_I x3] [v_I 0] M Q
      replace h := h.2 hc
      refine x_if_ne (tgt := 34) dX10_set_19 (by decide) (fun hc => absurd hc (by decide)) (fun _ => ?_)
      refine x_iload_n dX10_set_22 rfl rfl ?_
      refine x_iconst dX10_set_23 (by decide) ?_
      refine x_iload_n dX10_set_24 rfl rfl ?_
      obtain ⟨Qc1, hc4, h⟩ := h
      refine x_callS (as := [v_I x2]) (st := [v_I 0, v_I x3]) (Qc := Qc1) dX10_set_25 mt_X1_most ml_X10_98 ⟨by decide, by decide⟩ (fun _ _ => Nat.le_of_ble_eq_true rfl) hc4 (fun r2 M3 hr5 hM6 hq7 => ?_)
      replace h := h r2 M3 hr5 hM6 hq7
      change X_ kk_X10_set 28 [v_P 0, v_I x1, v_I x2, v_I x3] [v_I r2, v_I 0, v_I x3] M3 Q
      refine x_isNot (st := []) dX10_set_28 ml_X10_76 ⟨by decide, by decide⟩ (fun _ _ => Nat.le_of_ble_eq_true rfl) (fun hc => ?_) (fun hc => ?_)
      · change X_ kk_X10_set 31 [v_P 0, v_I x1, v_I x2, v_I x3] [v_I 1] M3 Q
        replace h := h.1 hc
        refine x_if_eq (tgt := 37) dX10_set_31 (by decide) (fun hc => absurd hc (by decide)) (fun _ => ?_)
        refine x_bipush dX10_set_34 (by decide) (by decide) ?_
        refine x_iret dX10_set_36 rfl (Or.inl rfl) (fun _ _ => h)
      · change X_ kk_X10_set 31 [v_P 0, v_I x1, v_I x2, v_I x3] [v_I 0] M3 Q
        replace h := h.2 hc
        refine x_if_eq (tgt := 37) dX10_set_31 (by decide) (fun _ => ?_) (fun hc => absurd hc (by decide))
        refine x_aload_n dX10_set_37 rfl rfl ?_
        obtain ⟨Qc8, hc11, h⟩ := h
        refine x_callV (as := []) (st := []) (Qc := Qc8) dX10_set_38 mt_X10_forget ml_X10_84 ⟨by decide, by decide⟩ sh_0 rfl (fun _ _ => Nat.le_of_ble_eq_true rfl) hc11 (fun r9 M10 hr12 hM13 hq14 => ?_)
        replace h := h r9 M10 hr12 hM13 hq14
        change X_ kk_X10_set 41 [v_P 0, v_I x1, v_I x2, v_I x3] [] M10 Q
        refine x_aload_n dX10_set_41 rfl rfl ?_
        refine y_getP dX10_set_42 sh_0 cf_X10 fl_X10_10 (by decide) (by decide) gg_0_0 ?_
        refine y_getP dX10_set_45 sh_1 cf_X6 fl_X10_104 (by decide) (by decide) gg_1_7 ?_
        refine x_iload_n dX10_set_48 rfl rfl ?_
        obtain ⟨s15, h⟩ := h
        refine y_aaldB dX10_set_49 s15 ?_
        have g16 := isB_at (j := x1.toNat) (by clear h; omega)
        refine x_iload_n dX10_set_50 rfl rfl ?_
        refine x_iload_n dX10_set_51 rfl rfl ?_
        obtain ⟨Qc17, hc20, h⟩ := h
        refine x_callV (as := [v_I x2, v_I x3]) (st := []) (Qc := Qc17) dX10_set_52 mt_X1_put ml_X10_108 ⟨by decide, by decide⟩ (g16).1 rfl (fun _ _ => Nat.le_of_ble_eq_true rfl) hc20 (fun r18 M19 hr21 hM22 hq23 => ?_)
        replace h := h r18 M19 hr21 hM22 hq23
        change X_ kk_X10_set 55 [v_P 0, v_I x1, v_I x2, v_I x3] [v_I r18] M19 Q
        refine x_iret dX10_set_55 rfl (Or.inl rfl) (fun _ _ => h)
  · change X_ kk_X10_set 8 [v_P 0, v_I x1, v_I x2, v_I x3] [v_I 0] M Q
    replace h := h.2 hc
    refine x_if_ne (tgt := 13) dX10_set_8 (by decide) (fun hc => absurd hc (by decide)) (fun _ => ?_)
    refine x_iconst dX10_set_11 (by decide) ?_
    refine x_iret dX10_set_12 rfl (Or.inl rfl) (fun _ _ => h)
theorem wp_X10_say_0 {x1 : Int} {M : mM} {Q : Int → mM → Prop} (h : (x1 < 33 ∨ 126 < x1 → Q (-2) M) ∧ (¬ (x1 < 33 ∨ 126 < x1) → ((M 26 1) < 50 → (0 ≤ (M 26 1) ∧ (M 26 1) < 50) ∧ (m_ir ((M 26 1) + 1)) ∧ Q ((M 26 1) + 1) (m_up (m_up M 27 ((M 26 1).toNat) x1) 26 1 ((M 26 1) + 1))) ∧ (¬ (M 26 1) < 50 → Q (-4) M))) : X_ kk_X10_say 0 [v_P 0, v_I x1] [] M Q := by
  refine x_iload_n dX10_say_0 rfl rfl ?_
  refine x_bipush dX10_say_1 (by decide) (by decide) ?_
  refine x_bipush dX10_say_3 (by decide) (by decide) ?_
  refine x_isNot (st := []) dX10_say_5 ml_X10_76 ⟨by decide, by decide⟩ (fun _ _ => Nat.le_of_ble_eq_true rfl) (fun hc => ?_) (fun hc => ?_)
  · change X_ kk_X10_say 8 [v_P 0, v_I x1] [v_I 1] M Q
    replace h := h.1 hc
    refine x_if_eq (tgt := 14) dX10_say_8 (by decide) (fun hc => absurd hc (by decide)) (fun _ => ?_)
    refine x_bipush dX10_say_11 (by decide) (by decide) ?_
    refine x_iret dX10_say_13 rfl (Or.inl rfl) (fun _ _ => h)
  · change X_ kk_X10_say 8 [v_P 0, v_I x1] [v_I 0] M Q
    replace h := h.2 hc
    refine x_if_eq (tgt := 14) dX10_say_8 (by decide) (fun _ => ?_) (fun hc => absurd hc (by decide))
    refine x_aload_n dX10_say_14 rfl rfl ?_
    refine y_getP dX10_say_15 sh_0 cf_X10 fl_X10_19 (by decide) (by decide) gg_0_1 ?_
    refine x_getI dX10_say_18 sh_26 cf_X9 fl_X10_112 (by decide) (by decide) ?_
    refine x_bipush dX10_say_21 (by decide) (by decide) ?_
    refine x_ic_lt (tgt := 29) dX10_say_23 (by decide) (fun hc => ?_) (fun hc => ?_)
    · replace h := h.1 hc
      refine x_aload_n dX10_say_29 rfl rfl ?_
      refine y_getP dX10_say_30 sh_0 cf_X10 fl_X10_19 (by decide) (by decide) gg_0_1 ?_
      refine y_getP dX10_say_33 sh_26 cf_X9 fl_X10_113 (by decide) (by decide) gg_26_0 ?_
      refine x_aload_n dX10_say_36 rfl rfl ?_
      refine y_getP dX10_say_37 sh_0 cf_X10 fl_X10_19 (by decide) (by decide) gg_0_1 ?_
      refine x_getI dX10_say_40 sh_26 cf_X9 fl_X10_112 (by decide) (by decide) ?_
      refine x_iload_n dX10_say_43 rfl rfl ?_
      obtain ⟨s1, h⟩ := h
      refine x_iast dX10_say_44 sh_27 s1 ?_
      refine x_aload_n dX10_say_45 rfl rfl ?_
      refine y_getP dX10_say_46 sh_0 cf_X10 fl_X10_19 (by decide) (by decide) gg_0_1 ?_
      refine x_dup dX10_say_49 (fun _ _ => rfl) ?_
      refine y_getI (v := (M 26 1)) dX10_say_50 sh_26 cf_X9 fl_X10_112 (by decide) (by decide) (m_up_ne (Or.inl (by decide))) ?_
      refine x_iconst dX10_say_53 (by decide) ?_
      obtain ⟨s2, h⟩ := h
      refine x_iadd dX10_say_54 s2 ?_
      refine x_putI dX10_say_55 sh_26 cf_X9 fl_X10_112 (by decide) rfl (by decide) (Or.inl rfl) ?_
      refine x_aload_n dX10_say_58 rfl rfl ?_
      refine y_getP dX10_say_59 sh_0 cf_X10 fl_X10_19 (by decide) (by decide) gg_0_1 ?_
      refine y_getI (v := ((M 26 1) + 1)) dX10_say_62 sh_26 cf_X9 fl_X10_112 (by decide) (by decide) (m_up_same _ _ _ _) ?_
      refine x_iret dX10_say_65 rfl (Or.inl rfl) (fun _ _ => h)
    · replace h := h.2 hc
      refine x_bipush dX10_say_26 (by decide) (by decide) ?_
      refine x_iret dX10_say_28 rfl (Or.inl rfl) (fun _ _ => h)
theorem wp_X10_wipe_0 {M : mM} {Q : Int → mM → Prop} (h : Q (M 26 1) (m_up M 26 1 0)) : X_ kk_X10_wipe 0 [v_P 0, v_U] [] M Q := by
  refine x_aload_n dX10_wipe_0 rfl rfl ?_
  refine y_getP dX10_wipe_1 sh_0 cf_X10 fl_X10_19 (by decide) (by decide) gg_0_1 ?_
  refine x_getI dX10_wipe_4 sh_26 cf_X9 fl_X10_112 (by decide) (by decide) ?_
  refine y_istore_n (ls' := [v_P 0, v_I (M 26 1)]) dX10_wipe_7 rfl (by decide) rfl ?_
  refine x_aload_n dX10_wipe_8 rfl rfl ?_
  refine y_getP dX10_wipe_9 sh_0 cf_X10 fl_X10_19 (by decide) (by decide) gg_0_1 ?_
  refine x_iconst dX10_wipe_12 (by decide) ?_
  refine x_putI dX10_wipe_13 sh_26 cf_X9 fl_X10_112 (by decide) rfl (by decide) (Or.inl rfl) ?_
  refine x_iload_n dX10_wipe_16 rfl rfl ?_
  refine x_iret dX10_wipe_17 rfl (Or.inl rfl) (fun _ _ => h)
theorem wp_X10_fault_0 {M : mM} {Q : Int → mM → Prop} (h : ∃ Qc1 : Int → mM → Prop, C_ kk_X9_firstWrong [v_P 26] M Qc1 ∧ ∀ (r2 : Int) (M3 : mM), m_ir r2 → m_okM M3 → Qc1 r2 M3 → Q r2 M3) : X_ kk_X10_fault 0 [v_P 0] [] M Q := by
  refine x_aload_n dX10_fault_0 rfl rfl ?_
  refine y_getP dX10_fault_1 sh_0 cf_X10 fl_X10_19 (by decide) (by decide) gg_0_1 ?_
  obtain ⟨Qc1, hc4, h⟩ := h
  refine x_callV (as := []) (st := []) (Qc := Qc1) dX10_fault_4 mt_X9_firstWrong ml_X10_117 ⟨by decide, by decide⟩ sh_26 rfl (fun _ _ => Nat.le_of_ble_eq_true rfl) hc4 (fun r2 M3 hr5 hM6 hq7 => ?_)
  replace h := h r2 M3 hr5 hM6 hq7
  change X_ kk_X10_fault 7 [v_P 0] [v_I r2] M3 Q
  refine x_iret dX10_fault_7 rfl (Or.inl rfl) (fun _ _ => h)
theorem wp_X10_wish_0 {x1 : Int} {M : mM} {Q : Int → mM → Prop} (h : (0 ≤ x1 ∧ x1 < M 1 6 → ∃ Qc1 : Int → mM → Prop, C_ kk_X9_firstWrong [v_P 26] M Qc1 ∧ ∀ (r2 : Int) (M3 : mM), m_ir r2 → m_okM M3 → Qc1 r2 M3 → (r2 = (-6) → ∃ Qc8 : Int → mM → Prop, C_ kk_X10_forget [v_P 0] M3 Qc8 ∧ ∀ (r9 : Int) (M10 : mM), m_ir r9 → m_okM M10 → Qc8 r9 M10 → ((0 : Int) ≤ x1 ∧ x1 < (6 : Int)) ∧ ∃ Qc17 : Int → mM → Prop, C_ kk_X1_take [v_P (8 + 3 * x1.toNat), v_P 26] M10 Qc17 ∧ ∀ (r18 : Int) (M19 : mM), m_ir r18 → m_okM M19 → Qc17 r18 M19 → ((0 : Int) ≤ x1 ∧ x1 < (6 : Int)) ∧ Q (M19 (8 + 3 * x1.toNat) 3) (m_up M19 26 1 0)) ∧ (¬ r2 = (-6) → Q (-5) M3)) ∧ (¬ (0 ≤ x1 ∧ x1 < M 1 6) → Q (-1) M)) : X_ kk_X10_wish 0 [v_P 0, v_I x1] [] M Q := by
  refine x_aload_n dX10_wish_0 rfl rfl ?_
  refine y_getP dX10_wish_1 sh_0 cf_X10 fl_X10_10 (by decide) (by decide) gg_0_0 ?_
  refine x_iload_n dX10_wish_4 rfl rfl ?_
  refine x_hasBuyer (st := []) dX10_wish_5 ml_X10_94 ⟨by decide, by decide⟩ (fun _ _ => Nat.le_of_ble_eq_true rfl) (fun hc => ?_) (fun hc => ?_)
  · change X_ kk_X10_wish 8 [v_P 0, v_I x1] [v_I 1] M Q
    replace h := h.1 hc
    refine x_if_ne (tgt := 13) dX10_wish_8 (by decide) (fun _ => ?_) (fun hc => absurd hc (by decide))
    refine x_aload_n dX10_wish_13 rfl rfl ?_
    refine y_getP dX10_wish_14 sh_0 cf_X10 fl_X10_19 (by decide) (by decide) gg_0_1 ?_
    obtain ⟨Qc1, hc4, h⟩ := h
    refine x_callV (as := []) (st := []) (Qc := Qc1) dX10_wish_17 mt_X9_firstWrong ml_X10_117 ⟨by decide, by decide⟩ sh_26 rfl (fun _ _ => Nat.le_of_ble_eq_true rfl) hc4 (fun r2 M3 hr5 hM6 hq7 => ?_)
    replace h := h r2 M3 hr5 hM6 hq7
    change X_ kk_X10_wish 20 [v_P 0, v_I x1] [v_I r2] M3 Q
    refine x_bipush dX10_wish_20 (by decide) (by decide) ?_
    refine x_ic_eq (tgt := 28) dX10_wish_22 (by decide) (fun hc => ?_) (fun hc => ?_)
    · replace h := h.1 hc
      refine x_aload_n dX10_wish_28 rfl rfl ?_
      obtain ⟨Qc8, hc11, h⟩ := h
      refine x_callV (as := []) (st := []) (Qc := Qc8) dX10_wish_29 mt_X10_forget ml_X10_84 ⟨by decide, by decide⟩ sh_0 rfl (fun _ _ => Nat.le_of_ble_eq_true rfl) hc11 (fun r9 M10 hr12 hM13 hq14 => ?_)
      replace h := h r9 M10 hr12 hM13 hq14
      change X_ kk_X10_wish 32 [v_P 0, v_I x1] [] M10 Q
      refine x_aload_n dX10_wish_32 rfl rfl ?_
      refine y_getP dX10_wish_33 sh_0 cf_X10 fl_X10_10 (by decide) (by decide) gg_0_0 ?_
      refine y_getP dX10_wish_36 sh_1 cf_X6 fl_X10_104 (by decide) (by decide) gg_1_7 ?_
      refine x_iload_n dX10_wish_39 rfl rfl ?_
      obtain ⟨s15, h⟩ := h
      refine y_aaldB dX10_wish_40 s15 ?_
      have g16 := isB_at (j := x1.toNat) (by clear h; omega)
      refine x_aload_n dX10_wish_41 rfl rfl ?_
      refine y_getP dX10_wish_42 sh_0 cf_X10 fl_X10_19 (by decide) (by decide) gg_0_1 ?_
      obtain ⟨Qc17, hc20, h⟩ := h
      refine x_callV (as := [v_P 26]) (st := []) (Qc := Qc17) dX10_wish_45 mt_X1_take ml_X10_121 ⟨by decide, by decide⟩ (g16).1 rfl (fun _ _ => Nat.le_of_ble_eq_true rfl) hc20 (fun r18 M19 hr21 hM22 hq23 => ?_)
      replace h := h r18 M19 hr21 hM22 hq23
      change X_ kk_X10_wish 48 [v_P 0, v_I x1] [] M19 Q
      refine x_aload_n dX10_wish_48 rfl rfl ?_
      refine y_getP dX10_wish_49 sh_0 cf_X10 fl_X10_19 (by decide) (by decide) gg_0_1 ?_
      refine x_iconst dX10_wish_52 (by decide) ?_
      refine x_putI dX10_wish_53 sh_26 cf_X9 fl_X10_112 (by decide) rfl (by decide) (Or.inl rfl) ?_
      refine x_aload_n dX10_wish_56 rfl rfl ?_
      refine y_getP dX10_wish_57 sh_0 cf_X10 fl_X10_10 (by decide) (by decide) gg_0_0 ?_
      refine y_getP dX10_wish_60 sh_1 cf_X6 fl_X10_104 (by decide) (by decide) gg_1_7 ?_
      refine x_iload_n dX10_wish_63 rfl rfl ?_
      obtain ⟨s24, h⟩ := h
      refine y_aaldB dX10_wish_64 s24 ?_
      have g25 := isB_at (j := x1.toNat) (by clear h; omega)
      refine y_getI (v := (M19 (8 + 3 * x1.toNat) 3)) dX10_wish_65 (g25).1 cf_X1 fl_X10_125 (by decide) (by decide) (m_up_ne (Or.inl (by clear h; omega))) ?_
      refine x_iret dX10_wish_68 rfl (Or.inl rfl) (fun _ _ => h)
    · replace h := h.2 hc
      refine x_bipush dX10_wish_25 (by decide) (by decide) ?_
      refine x_iret dX10_wish_27 rfl (Or.inl rfl) (fun _ _ => h)
  · change X_ kk_X10_wish 8 [v_P 0, v_I x1] [v_I 0] M Q
    replace h := h.2 hc
    refine x_if_ne (tgt := 13) dX10_wish_8 (by decide) (fun hc => absurd hc (by decide)) (fun _ => ?_)
    refine x_iconst dX10_wish_11 (by decide) ?_
    refine x_iret dX10_wish_12 rfl (Or.inl rfl) (fun _ _ => h)
theorem wp_X10_alternative_0 {x1 x2 x3 : Int} {M : mM} {Q : Int → mM → Prop} (h : (0 ≤ x1 ∧ x1 < M 1 6 → ((0 : Int) ≤ x1 ∧ x1 < (6 : Int)) ∧ (m_ir ((M (8 + 3 * x1.toNat) 3) - 1)) ∧ (x2 < 0 ∨ ((M (8 + 3 * x1.toNat) 3) - 1) < x2 → Q (-1) M) ∧ (¬ (x2 < 0 ∨ ((M (8 + 3 * x1.toNat) 3) - 1) < x2) → (x3 < 0 ∨ 5 < x3 → Q (-2) M) ∧ (¬ (x3 < 0 ∨ 5 < x3) → ((0 : Int) ≤ x1 ∧ x1 < (6 : Int)) ∧ (¬ x3 = 0 → (0 ≤ x2 ∧ x2 < 6) ∧ (m_ir (x3 - 1)) ∧ ∃ Qc8 : Int → mM → Prop, C_ kk_X3_of [v_I (M ((8 + 3 * x1.toNat) + 2) x2.toNat), v_I (x3 - 1)] M Qc8 ∧ ∀ (r9 : Int) (M10 : mM), m_ir r9 → m_okM M10 → Qc8 r9 M10 → Q r9 M10) ∧ (x3 = 0 → (0 ≤ x2 ∧ x2 < 6) ∧ Q (M ((8 + 3 * x1.toNat) + 1) x2.toNat) M)))) ∧ (¬ (0 ≤ x1 ∧ x1 < M 1 6) → Q (-1) M)) : X_ kk_X10_alternative 0 [v_P 0, v_I x1, v_I x2, v_I x3, v_U] [] M Q := by
  refine x_aload_n dX10_alternative_0 rfl rfl ?_
  refine y_getP dX10_alternative_1 sh_0 cf_X10 fl_X10_10 (by decide) (by decide) gg_0_0 ?_
  refine x_iload_n dX10_alternative_4 rfl rfl ?_
  refine x_hasBuyer (st := []) dX10_alternative_5 ml_X10_94 ⟨by decide, by decide⟩ (fun _ _ => Nat.le_of_ble_eq_true rfl) (fun hc => ?_) (fun hc => ?_)
  · change X_ kk_X10_alternative 8 [v_P 0, v_I x1, v_I x2, v_I x3, v_U] [v_I 1] M Q
    replace h := h.1 hc
    refine x_if_eq (tgt := 33) dX10_alternative_8 (by decide) (fun hc => absurd hc (by decide)) (fun _ => ?_)
    refine x_iload_n dX10_alternative_11 rfl rfl ?_
    refine x_iconst dX10_alternative_12 (by decide) ?_
    refine x_aload_n dX10_alternative_13 rfl rfl ?_
    refine y_getP dX10_alternative_14 sh_0 cf_X10 fl_X10_10 (by decide) (by decide) gg_0_0 ?_
    refine y_getP dX10_alternative_17 sh_1 cf_X6 fl_X10_104 (by decide) (by decide) gg_1_7 ?_
    refine x_iload_n dX10_alternative_20 rfl rfl ?_
    obtain ⟨s1, h⟩ := h
    refine y_aaldB dX10_alternative_21 s1 ?_
    have g2 := isB_at (j := x1.toNat) (by clear h; omega)
    refine x_getI dX10_alternative_22 (g2).1 cf_X1 fl_X10_125 (by decide) (by decide) ?_
    refine x_iconst dX10_alternative_25 (by decide) ?_
    obtain ⟨s3, h⟩ := h
    refine x_isub dX10_alternative_26 s3 ?_
    refine x_isNot (st := []) dX10_alternative_27 ml_X10_76 ⟨by decide, by decide⟩ (fun _ _ => Nat.le_of_ble_eq_true rfl) (fun hc => ?_) (fun hc => ?_)
    · change X_ kk_X10_alternative 30 [v_P 0, v_I x1, v_I x2, v_I x3, v_U] [v_I 1] M Q
      replace h := h.1 hc
      refine x_if_eq (tgt := 35) dX10_alternative_30 (by decide) (fun hc => absurd hc (by decide)) (fun _ => ?_)
      refine x_iconst dX10_alternative_33 (by decide) ?_
      refine x_iret dX10_alternative_34 rfl (Or.inl rfl) (fun _ _ => h)
    · change X_ kk_X10_alternative 30 [v_P 0, v_I x1, v_I x2, v_I x3, v_U] [v_I 0] M Q
      replace h := h.2 hc
      refine x_if_eq (tgt := 35) dX10_alternative_30 (by decide) (fun _ => ?_) (fun hc => absurd hc (by decide))
      refine x_iload_n dX10_alternative_35 rfl rfl ?_
      refine x_iconst dX10_alternative_36 (by decide) ?_
      refine x_iconst dX10_alternative_37 (by decide) ?_
      refine x_isNot (st := []) dX10_alternative_38 ml_X10_76 ⟨by decide, by decide⟩ (fun _ _ => Nat.le_of_ble_eq_true rfl) (fun hc => ?_) (fun hc => ?_)
      · change X_ kk_X10_alternative 41 [v_P 0, v_I x1, v_I x2, v_I x3, v_U] [v_I 1] M Q
        replace h := h.1 hc
        refine x_if_eq (tgt := 47) dX10_alternative_41 (by decide) (fun hc => absurd hc (by decide)) (fun _ => ?_)
        refine x_bipush dX10_alternative_44 (by decide) (by decide) ?_
        refine x_iret dX10_alternative_46 rfl (Or.inl rfl) (fun _ _ => h)
      · change X_ kk_X10_alternative 41 [v_P 0, v_I x1, v_I x2, v_I x3, v_U] [v_I 0] M Q
        replace h := h.2 hc
        refine x_if_eq (tgt := 47) dX10_alternative_41 (by decide) (fun _ => ?_) (fun hc => absurd hc (by decide))
        refine x_aload_n dX10_alternative_47 rfl rfl ?_
        refine y_getP dX10_alternative_48 sh_0 cf_X10 fl_X10_10 (by decide) (by decide) gg_0_0 ?_
        refine y_getP dX10_alternative_51 sh_1 cf_X6 fl_X10_104 (by decide) (by decide) gg_1_7 ?_
        refine x_iload_n dX10_alternative_54 rfl rfl ?_
        obtain ⟨s4, h⟩ := h
        refine y_aaldB dX10_alternative_55 s4 ?_
        have g5 := isB_at (j := x1.toNat) (by clear h; omega)
        refine y_astore (ls' := [v_P 0, v_I x1, v_I x2, v_I x3, v_P (8 + 3 * x1.toNat)]) dX10_alternative_56 (by decide) rfl ?_
        refine x_iload_n dX10_alternative_58 rfl rfl ?_
        refine x_if_ne (tgt := 72) dX10_alternative_59 (by decide) (fun hc => ?_) (fun hc => ?_)
        · replace h := h.1 hc
          refine x_aload dX10_alternative_72 rfl ?_
          refine y_getP dX10_alternative_74 (g5).1 cf_X1 fl_X10_131 (by decide) (by decide) (g5).2.2.1 ?_
          refine x_iload_n dX10_alternative_77 rfl rfl ?_
          obtain ⟨s6, h⟩ := h
          refine x_iald dX10_alternative_78 (g5).2.2.2.2 s6 ?_
          refine x_iload_n dX10_alternative_79 rfl rfl ?_
          refine x_iconst dX10_alternative_80 (by decide) ?_
          obtain ⟨s7, h⟩ := h
          refine x_isub dX10_alternative_81 s7 ?_
          obtain ⟨Qc8, hc11, h⟩ := h
          refine x_callS (as := [v_I (M ((8 + 3 * x1.toNat) + 2) x2.toNat), v_I (x3 - 1)]) (st := []) (Qc := Qc8) dX10_alternative_82 mt_X3_of ml_X10_134 ⟨by decide, by decide⟩ (fun _ _ => Nat.le_of_ble_eq_true rfl) hc11 (fun r9 M10 hr12 hM13 hq14 => ?_)
          replace h := h r9 M10 hr12 hM13 hq14
          change X_ kk_X10_alternative 85 [v_P 0, v_I x1, v_I x2, v_I x3, v_P (8 + 3 * x1.toNat)] [v_I r9] M10 Q
          refine x_iret dX10_alternative_85 rfl (Or.inl rfl) (fun _ _ => h)
        · replace h := h.2 hc
          refine x_aload dX10_alternative_62 rfl ?_
          refine y_getP dX10_alternative_64 (g5).1 cf_X1 fl_X10_128 (by decide) (by decide) (g5).2.1 ?_
          refine x_iload_n dX10_alternative_67 rfl rfl ?_
          obtain ⟨s15, h⟩ := h
          refine x_iald dX10_alternative_68 (g5).2.2.2.1 s15 ?_
          refine x_goto (tgt := 85) dX10_alternative_69 (by decide) ?_
          refine x_iret dX10_alternative_85 rfl (Or.inl rfl) (fun _ _ => h)
  · change X_ kk_X10_alternative 8 [v_P 0, v_I x1, v_I x2, v_I x3, v_U] [v_I 0] M Q
    replace h := h.2 hc
    refine x_if_eq (tgt := 33) dX10_alternative_8 (by decide) (fun _ => ?_) (fun hc => absurd hc (by decide))
    refine x_iconst dX10_alternative_33 (by decide) ?_
    refine x_iret dX10_alternative_34 rfl (Or.inl rfl) (fun _ _ => h)
theorem wp_X10_leave_0 {x1 x2 : Int} {M : mM} {Q : Int → mM → Prop} (h : (0 ≤ x1 ∧ x1 < M 1 6 → ((0 : Int) ≤ x1 ∧ x1 < (6 : Int)) ∧ (m_ir ((m_shl 1 (M (8 + 3 * x1.toNat) 3)) - 1)) ∧ (x2 < 0 ∨ ((m_shl 1 (M (8 + 3 * x1.toNat) 3)) - 1) < x2 → Q (-2) M) ∧ (¬ (x2 < 0 ∨ ((m_shl 1 (M (8 + 3 * x1.toNat) 3)) - 1) < x2) → ∃ Qc4 : Int → mM → Prop, C_ kk_X10_forget [v_P 0] M Qc4 ∧ ∀ (r5 : Int) (M6 : mM), m_ir r5 → m_okM M6 → Qc4 r5 M6 → Q (M6 (8 + 3 * x1.toNat) 6) (m_up M6 (8 + 3 * x1.toNat) 6 x2))) ∧ (¬ (0 ≤ x1 ∧ x1 < M 1 6) → Q (-1) M)) : X_ kk_X10_leave 0 [v_P 0, v_I x1, v_I x2, v_U, v_U] [] M Q := by
  refine x_aload_n dX10_leave_0 rfl rfl ?_
  refine y_getP dX10_leave_1 sh_0 cf_X10 fl_X10_10 (by decide) (by decide) gg_0_0 ?_
  refine x_iload_n dX10_leave_4 rfl rfl ?_
  refine x_hasBuyer (st := []) dX10_leave_5 ml_X10_94 ⟨by decide, by decide⟩ (fun _ _ => Nat.le_of_ble_eq_true rfl) (fun hc => ?_) (fun hc => ?_)
  · change X_ kk_X10_leave 8 [v_P 0, v_I x1, v_I x2, v_U, v_U] [v_I 1] M Q
    replace h := h.1 hc
    refine x_if_ne (tgt := 13) dX10_leave_8 (by decide) (fun _ => ?_) (fun hc => absurd hc (by decide))
    refine x_aload_n dX10_leave_13 rfl rfl ?_
    refine y_getP dX10_leave_14 sh_0 cf_X10 fl_X10_10 (by decide) (by decide) gg_0_0 ?_
    refine y_getP dX10_leave_17 sh_1 cf_X6 fl_X10_104 (by decide) (by decide) gg_1_7 ?_
    refine x_iload_n dX10_leave_20 rfl rfl ?_
    obtain ⟨s1, h⟩ := h
    refine y_aaldB dX10_leave_21 s1 ?_
    have g2 := isB_at (j := x1.toNat) (by clear h; omega)
    refine y_astore_n (ls' := [v_P 0, v_I x1, v_I x2, v_P (8 + 3 * x1.toNat), v_U]) dX10_leave_22 rfl (by decide) rfl ?_
    refine x_iload_n dX10_leave_23 rfl rfl ?_
    refine x_iconst dX10_leave_24 (by decide) ?_
    refine x_iconst dX10_leave_25 (by decide) ?_
    refine x_aload_n dX10_leave_26 rfl rfl ?_
    refine x_getI dX10_leave_27 (g2).1 cf_X1 fl_X10_125 (by decide) (by decide) ?_
    refine x_ishl dX10_leave_30 ?_
    refine x_iconst dX10_leave_31 (by decide) ?_
    obtain ⟨s3, h⟩ := h
    refine x_isub dX10_leave_32 s3 ?_
    refine x_isNot (st := []) dX10_leave_33 ml_X10_76 ⟨by decide, by decide⟩ (fun _ _ => Nat.le_of_ble_eq_true rfl) (fun hc => ?_) (fun hc => ?_)
    · change X_ kk_X10_leave 36 [v_P 0, v_I x1, v_I x2, v_P (8 + 3 * x1.toNat), v_U] [v_I 1] M Q
      replace h := h.1 hc
      refine x_if_eq (tgt := 42) dX10_leave_36 (by decide) (fun hc => absurd hc (by decide)) (fun _ => ?_)
      refine x_bipush dX10_leave_39 (by decide) (by decide) ?_
      refine x_iret dX10_leave_41 rfl (Or.inl rfl) (fun _ _ => h)
    · change X_ kk_X10_leave 36 [v_P 0, v_I x1, v_I x2, v_P (8 + 3 * x1.toNat), v_U] [v_I 0] M Q
      replace h := h.2 hc
      refine x_if_eq (tgt := 42) dX10_leave_36 (by decide) (fun _ => ?_) (fun hc => absurd hc (by decide))
      refine x_aload_n dX10_leave_42 rfl rfl ?_
      obtain ⟨Qc4, hc7, h⟩ := h
      refine x_callV (as := []) (st := []) (Qc := Qc4) dX10_leave_43 mt_X10_forget ml_X10_84 ⟨by decide, by decide⟩ sh_0 rfl (fun _ _ => Nat.le_of_ble_eq_true rfl) hc7 (fun r5 M6 hr8 hM9 hq10 => ?_)
      replace h := h r5 M6 hr8 hM9 hq10
      change X_ kk_X10_leave 46 [v_P 0, v_I x1, v_I x2, v_P (8 + 3 * x1.toNat), v_U] [] M6 Q
      refine x_aload_n dX10_leave_46 rfl rfl ?_
      refine x_getI dX10_leave_47 (g2).1 cf_X1 fl_X10_139 (by decide) (by decide) ?_
      refine y_istore (ls' := [v_P 0, v_I x1, v_I x2, v_P (8 + 3 * x1.toNat), v_I (M6 (8 + 3 * x1.toNat) 6)]) dX10_leave_50 (by decide) rfl ?_
      refine x_aload_n dX10_leave_52 rfl rfl ?_
      refine x_iload_n dX10_leave_53 rfl rfl ?_
      refine x_putI dX10_leave_54 (g2).1 cf_X1 fl_X10_139 (by decide) rfl (by decide) (Or.inl rfl) ?_
      refine x_iload dX10_leave_57 rfl ?_
      refine x_iret dX10_leave_59 rfl (Or.inl rfl) (fun _ _ => h)
  · change X_ kk_X10_leave 8 [v_P 0, v_I x1, v_I x2, v_U, v_U] [v_I 0] M Q
    replace h := h.2 hc
    refine x_if_ne (tgt := 13) dX10_leave_8 (by decide) (fun hc => absurd hc (by decide)) (fun _ => ?_)
    refine x_iconst dX10_leave_11 (by decide) ?_
    refine x_iret dX10_leave_12 rfl (Or.inl rfl) (fun _ _ => h)
theorem wp_X10_worth_0 {x1 x2 : Int} {M : mM} {Q : Int → mM → Prop} (h : (0 ≤ x1 ∧ x1 < M 1 6 → ∃ Qc1 : Int → mM → Prop, C_ kk_X6_allLots [v_P 1] M Qc1 ∧ ∀ (r2 : Int) (M3 : mM), m_ir r2 → m_okM M3 → Qc1 r2 M3 → (x2 < 0 ∨ r2 < x2 → Q (-2) M3) ∧ (¬ (x2 < 0 ∨ r2 < x2) → ((0 : Int) ≤ x1 ∧ x1 < (6 : Int)) ∧ ∃ Qc10 : Int → mM → Prop, C_ kk_X6_countsOf [v_P 1, v_I x2] M3 Qc10 ∧ ∀ (r11 : Int) (M12 : mM), m_ir r11 → m_okM M12 → Qc10 r11 M12 → ∃ Qc17 : Int → mM → Prop, C_ kk_X1_worthOf [v_P (8 + 3 * x1.toNat), v_I r11] M12 Qc17 ∧ ∀ (r18 : Int) (M19 : mM), m_ir r18 → m_okM M19 → Qc17 r18 M19 → Q r18 M19)) ∧ (¬ (0 ≤ x1 ∧ x1 < M 1 6) → Q (-1) M)) : X_ kk_X10_worth 0 [v_P 0, v_I x1, v_I x2] [] M Q := by
  refine x_aload_n dX10_worth_0 rfl rfl ?_
  refine y_getP dX10_worth_1 sh_0 cf_X10 fl_X10_10 (by decide) (by decide) gg_0_0 ?_
  refine x_iload_n dX10_worth_4 rfl rfl ?_
  refine x_hasBuyer (st := []) dX10_worth_5 ml_X10_94 ⟨by decide, by decide⟩ (fun _ _ => Nat.le_of_ble_eq_true rfl) (fun hc => ?_) (fun hc => ?_)
  · change X_ kk_X10_worth 8 [v_P 0, v_I x1, v_I x2] [v_I 1] M Q
    replace h := h.1 hc
    refine x_if_ne (tgt := 13) dX10_worth_8 (by decide) (fun _ => ?_) (fun hc => absurd hc (by decide))
    refine x_iload_n dX10_worth_13 rfl rfl ?_
    refine x_iconst dX10_worth_14 (by decide) ?_
    refine x_aload_n dX10_worth_15 rfl rfl ?_
    refine y_getP dX10_worth_16 sh_0 cf_X10 fl_X10_10 (by decide) (by decide) gg_0_0 ?_
    obtain ⟨Qc1, hc4, h⟩ := h
    refine x_callV (as := []) (st := [v_I 0, v_I x2]) (Qc := Qc1) dX10_worth_19 mt_X6_allLots ml_X10_142 ⟨by decide, by decide⟩ sh_1 rfl (fun _ _ => Nat.le_of_ble_eq_true rfl) hc4 (fun r2 M3 hr5 hM6 hq7 => ?_)
    replace h := h r2 M3 hr5 hM6 hq7
    change X_ kk_X10_worth 22 [v_P 0, v_I x1, v_I x2] [v_I r2, v_I 0, v_I x2] M3 Q
    refine x_isNot (st := []) dX10_worth_22 ml_X10_76 ⟨by decide, by decide⟩ (fun _ _ => Nat.le_of_ble_eq_true rfl) (fun hc => ?_) (fun hc => ?_)
    · change X_ kk_X10_worth 25 [v_P 0, v_I x1, v_I x2] [v_I 1] M3 Q
      replace h := h.1 hc
      refine x_if_eq (tgt := 31) dX10_worth_25 (by decide) (fun hc => absurd hc (by decide)) (fun _ => ?_)
      refine x_bipush dX10_worth_28 (by decide) (by decide) ?_
      refine x_iret dX10_worth_30 rfl (Or.inl rfl) (fun _ _ => h)
    · change X_ kk_X10_worth 25 [v_P 0, v_I x1, v_I x2] [v_I 0] M3 Q
      replace h := h.2 hc
      refine x_if_eq (tgt := 31) dX10_worth_25 (by decide) (fun _ => ?_) (fun hc => absurd hc (by decide))
      refine x_aload_n dX10_worth_31 rfl rfl ?_
      refine y_getP dX10_worth_32 sh_0 cf_X10 fl_X10_10 (by decide) (by decide) gg_0_0 ?_
      refine y_getP dX10_worth_35 sh_1 cf_X6 fl_X10_104 (by decide) (by decide) gg_1_7 ?_
      refine x_iload_n dX10_worth_38 rfl rfl ?_
      obtain ⟨s8, h⟩ := h
      refine y_aaldB dX10_worth_39 s8 ?_
      have g9 := isB_at (j := x1.toNat) (by clear h; omega)
      refine x_aload_n dX10_worth_40 rfl rfl ?_
      refine y_getP dX10_worth_41 sh_0 cf_X10 fl_X10_10 (by decide) (by decide) gg_0_0 ?_
      refine x_iload_n dX10_worth_44 rfl rfl ?_
      obtain ⟨Qc10, hc13, h⟩ := h
      refine x_callV (as := [v_I x2]) (st := [v_P (8 + 3 * x1.toNat)]) (Qc := Qc10) dX10_worth_45 mt_X6_countsOf ml_X10_145 ⟨by decide, by decide⟩ sh_1 rfl (fun _ _ => Nat.le_of_ble_eq_true rfl) hc13 (fun r11 M12 hr14 hM15 hq16 => ?_)
      replace h := h r11 M12 hr14 hM15 hq16
      change X_ kk_X10_worth 48 [v_P 0, v_I x1, v_I x2] [v_I r11, v_P (8 + 3 * x1.toNat)] M12 Q
      obtain ⟨Qc17, hc20, h⟩ := h
      refine x_callV (as := [v_I r11]) (st := []) (Qc := Qc17) dX10_worth_48 mt_X1_worthOf ml_X10_148 ⟨by decide, by decide⟩ (g9).1 rfl (fun _ _ => Nat.le_of_ble_eq_true rfl) hc20 (fun r18 M19 hr21 hM22 hq23 => ?_)
      replace h := h r18 M19 hr21 hM22 hq23
      change X_ kk_X10_worth 51 [v_P 0, v_I x1, v_I x2] [v_I r18] M19 Q
      refine x_iret dX10_worth_51 rfl (Or.inl rfl) (fun _ _ => h)
  · change X_ kk_X10_worth 8 [v_P 0, v_I x1, v_I x2] [v_I 0] M Q
    replace h := h.2 hc
    refine x_if_ne (tgt := 13) dX10_worth_8 (by decide) (fun hc => absurd hc (by decide)) (fun _ => ?_)
    refine x_iconst dX10_worth_11 (by decide) ?_
    refine x_iret dX10_worth_12 rfl (Or.inl rfl) (fun _ _ => h)
theorem wp_X10_why_0 {x1 x2 : Int} {M : mM} {Q : Int → mM → Prop} (h : (0 ≤ x1 ∧ x1 < M 1 6 → ∃ Qc1 : Int → mM → Prop, C_ kk_X6_allLots [v_P 1] M Qc1 ∧ ∀ (r2 : Int) (M3 : mM), m_ir r2 → m_okM M3 → Qc1 r2 M3 → (x2 < 0 ∨ r2 < x2 → Q (-2) M3) ∧ (¬ (x2 < 0 ∨ r2 < x2) → ((0 : Int) ≤ x1 ∧ x1 < (6 : Int)) ∧ ∃ Qc10 : Int → mM → Prop, C_ kk_X6_countsOf [v_P 1, v_I x2] M3 Qc10 ∧ ∀ (r11 : Int) (M12 : mM), m_ir r11 → m_okM M12 → Qc10 r11 M12 → ∃ Qc17 : Int → mM → Prop, C_ kk_X1_worthOf [v_P (8 + 3 * x1.toNat), v_I r11] M12 Qc17 ∧ ∀ (r18 : Int) (M19 : mM), m_ir r18 → m_okM M19 → Qc17 r18 M19 → ∃ Qc24 : Int → mM → Prop, C_ kk_X1_firstMet [v_P (8 + 3 * x1.toNat), v_I r11, v_I r18] M19 Qc24 ∧ ∀ (r25 : Int) (M26 : mM), m_ir r25 → m_okM M26 → Qc24 r25 M26 → Q r25 M26)) ∧ (¬ (0 ≤ x1 ∧ x1 < M 1 6) → Q (-1) M)) : X_ kk_X10_why 0 [v_P 0, v_I x1, v_I x2, v_U, v_U] [] M Q := by
  refine x_aload_n dX10_why_0 rfl rfl ?_
  refine y_getP dX10_why_1 sh_0 cf_X10 fl_X10_10 (by decide) (by decide) gg_0_0 ?_
  refine x_iload_n dX10_why_4 rfl rfl ?_
  refine x_hasBuyer (st := []) dX10_why_5 ml_X10_94 ⟨by decide, by decide⟩ (fun _ _ => Nat.le_of_ble_eq_true rfl) (fun hc => ?_) (fun hc => ?_)
  · change X_ kk_X10_why 8 [v_P 0, v_I x1, v_I x2, v_U, v_U] [v_I 1] M Q
    replace h := h.1 hc
    refine x_if_ne (tgt := 13) dX10_why_8 (by decide) (fun _ => ?_) (fun hc => absurd hc (by decide))
    refine x_iload_n dX10_why_13 rfl rfl ?_
    refine x_iconst dX10_why_14 (by decide) ?_
    refine x_aload_n dX10_why_15 rfl rfl ?_
    refine y_getP dX10_why_16 sh_0 cf_X10 fl_X10_10 (by decide) (by decide) gg_0_0 ?_
    obtain ⟨Qc1, hc4, h⟩ := h
    refine x_callV (as := []) (st := [v_I 0, v_I x2]) (Qc := Qc1) dX10_why_19 mt_X6_allLots ml_X10_142 ⟨by decide, by decide⟩ sh_1 rfl (fun _ _ => Nat.le_of_ble_eq_true rfl) hc4 (fun r2 M3 hr5 hM6 hq7 => ?_)
    replace h := h r2 M3 hr5 hM6 hq7
    change X_ kk_X10_why 22 [v_P 0, v_I x1, v_I x2, v_U, v_U] [v_I r2, v_I 0, v_I x2] M3 Q
    refine x_isNot (st := []) dX10_why_22 ml_X10_76 ⟨by decide, by decide⟩ (fun _ _ => Nat.le_of_ble_eq_true rfl) (fun hc => ?_) (fun hc => ?_)
    · change X_ kk_X10_why 25 [v_P 0, v_I x1, v_I x2, v_U, v_U] [v_I 1] M3 Q
      replace h := h.1 hc
      refine x_if_eq (tgt := 31) dX10_why_25 (by decide) (fun hc => absurd hc (by decide)) (fun _ => ?_)
      refine x_bipush dX10_why_28 (by decide) (by decide) ?_
      refine x_iret dX10_why_30 rfl (Or.inl rfl) (fun _ _ => h)
    · change X_ kk_X10_why 25 [v_P 0, v_I x1, v_I x2, v_U, v_U] [v_I 0] M3 Q
      replace h := h.2 hc
      refine x_if_eq (tgt := 31) dX10_why_25 (by decide) (fun _ => ?_) (fun hc => absurd hc (by decide))
      refine x_aload_n dX10_why_31 rfl rfl ?_
      refine y_getP dX10_why_32 sh_0 cf_X10 fl_X10_10 (by decide) (by decide) gg_0_0 ?_
      refine y_getP dX10_why_35 sh_1 cf_X6 fl_X10_104 (by decide) (by decide) gg_1_7 ?_
      refine x_iload_n dX10_why_38 rfl rfl ?_
      obtain ⟨s8, h⟩ := h
      refine y_aaldB dX10_why_39 s8 ?_
      have g9 := isB_at (j := x1.toNat) (by clear h; omega)
      refine y_astore_n (ls' := [v_P 0, v_I x1, v_I x2, v_P (8 + 3 * x1.toNat), v_U]) dX10_why_40 rfl (by decide) rfl ?_
      refine x_aload_n dX10_why_41 rfl rfl ?_
      refine y_getP dX10_why_42 sh_0 cf_X10 fl_X10_10 (by decide) (by decide) gg_0_0 ?_
      refine x_iload_n dX10_why_45 rfl rfl ?_
      obtain ⟨Qc10, hc13, h⟩ := h
      refine x_callV (as := [v_I x2]) (st := []) (Qc := Qc10) dX10_why_46 mt_X6_countsOf ml_X10_145 ⟨by decide, by decide⟩ sh_1 rfl (fun _ _ => Nat.le_of_ble_eq_true rfl) hc13 (fun r11 M12 hr14 hM15 hq16 => ?_)
      replace h := h r11 M12 hr14 hM15 hq16
      change X_ kk_X10_why 49 [v_P 0, v_I x1, v_I x2, v_P (8 + 3 * x1.toNat), v_U] [v_I r11] M12 Q
      refine y_istore (ls' := [v_P 0, v_I x1, v_I x2, v_P (8 + 3 * x1.toNat), v_I r11]) dX10_why_49 (by decide) rfl ?_
      refine x_aload_n dX10_why_51 rfl rfl ?_
      refine x_iload dX10_why_52 rfl ?_
      refine x_aload_n dX10_why_54 rfl rfl ?_
      refine x_iload dX10_why_55 rfl ?_
      obtain ⟨Qc17, hc20, h⟩ := h
      refine x_callV (as := [v_I r11]) (st := [v_I r11, v_P (8 + 3 * x1.toNat)]) (Qc := Qc17) dX10_why_57 mt_X1_worthOf ml_X10_148 ⟨by decide, by decide⟩ (g9).1 rfl (fun _ _ => Nat.le_of_ble_eq_true rfl) hc20 (fun r18 M19 hr21 hM22 hq23 => ?_)
      replace h := h r18 M19 hr21 hM22 hq23
      change X_ kk_X10_why 60 [v_P 0, v_I x1, v_I x2, v_P (8 + 3 * x1.toNat), v_I r11] [v_I r18, v_I r11, v_P (8 + 3 * x1.toNat)] M19 Q
      obtain ⟨Qc24, hc27, h⟩ := h
      refine x_callV (as := [v_I r11, v_I r18]) (st := []) (Qc := Qc24) dX10_why_60 mt_X1_firstMet ml_X10_151 ⟨by decide, by decide⟩ (g9).1 rfl (fun _ _ => Nat.le_of_ble_eq_true rfl) hc27 (fun r25 M26 hr28 hM29 hq30 => ?_)
      replace h := h r25 M26 hr28 hM29 hq30
      change X_ kk_X10_why 63 [v_P 0, v_I x1, v_I x2, v_P (8 + 3 * x1.toNat), v_I r11] [v_I r25] M26 Q
      refine x_iret dX10_why_63 rfl (Or.inl rfl) (fun _ _ => h)
  · change X_ kk_X10_why 8 [v_P 0, v_I x1, v_I x2, v_U, v_U] [v_I 0] M Q
    replace h := h.2 hc
    refine x_if_ne (tgt := 13) dX10_why_8 (by decide) (fun hc => absurd hc (by decide)) (fun _ => ?_)
    refine x_iconst dX10_why_11 (by decide) ?_
    refine x_iret dX10_why_12 rfl (Or.inl rfl) (fun _ _ => h)
theorem wp_X10_top_0 {x1 : Int} {M : mM} {Q : Int → mM → Prop} (h : (x1 < 1 ∨ 200 < x1 → Q (-2) M) ∧ (¬ (x1 < 1 ∨ 200 < x1) → ∃ Qc1 : Int → mM → Prop, C_ kk_X10_forget [v_P 0] M Qc1 ∧ ∀ (r2 : Int) (M3 : mM), m_ir r2 → m_okM M3 → Qc1 r2 M3 → Q (M3 1 8) (m_up M3 1 8 x1))) : X_ kk_X10_top 0 [v_P 0, v_I x1, v_U] [] M Q := by
  refine x_iload_n dX10_top_0 rfl rfl ?_
  refine x_iconst dX10_top_1 (by decide) ?_
  refine x_sipush dX10_top_2 (by decide) (by decide) ?_
  refine x_isNot (st := []) dX10_top_5 ml_X10_76 ⟨by decide, by decide⟩ (fun _ _ => Nat.le_of_ble_eq_true rfl) (fun hc => ?_) (fun hc => ?_)
  · change X_ kk_X10_top 8 [v_P 0, v_I x1, v_U] [v_I 1] M Q
    replace h := h.1 hc
    refine x_if_eq (tgt := 14) dX10_top_8 (by decide) (fun hc => absurd hc (by decide)) (fun _ => ?_)
    refine x_bipush dX10_top_11 (by decide) (by decide) ?_
    refine x_iret dX10_top_13 rfl (Or.inl rfl) (fun _ _ => h)
  · change X_ kk_X10_top 8 [v_P 0, v_I x1, v_U] [v_I 0] M Q
    replace h := h.2 hc
    refine x_if_eq (tgt := 14) dX10_top_8 (by decide) (fun _ => ?_) (fun hc => absurd hc (by decide))
    refine x_aload_n dX10_top_14 rfl rfl ?_
    obtain ⟨Qc1, hc4, h⟩ := h
    refine x_callV (as := []) (st := []) (Qc := Qc1) dX10_top_15 mt_X10_forget ml_X10_84 ⟨by decide, by decide⟩ sh_0 rfl (fun _ _ => Nat.le_of_ble_eq_true rfl) hc4 (fun r2 M3 hr5 hM6 hq7 => ?_)
    replace h := h r2 M3 hr5 hM6 hq7
    change X_ kk_X10_top 18 [v_P 0, v_I x1, v_U] [] M3 Q
    refine x_aload_n dX10_top_18 rfl rfl ?_
    refine y_getP dX10_top_19 sh_0 cf_X10 fl_X10_10 (by decide) (by decide) gg_0_0 ?_
    refine x_getI dX10_top_22 sh_1 cf_X6 fl_X10_154 (by decide) (by decide) ?_
    refine y_istore_n (ls' := [v_P 0, v_I x1, v_I (M3 1 8)]) dX10_top_25 rfl (by decide) rfl ?_
    refine x_aload_n dX10_top_26 rfl rfl ?_
    refine y_getP dX10_top_27 sh_0 cf_X10 fl_X10_10 (by decide) (by decide) gg_0_0 ?_
    refine x_iload_n dX10_top_30 rfl rfl ?_
    refine x_putI dX10_top_31 sh_1 cf_X6 fl_X10_154 (by decide) rfl (by decide) (Or.inl rfl) ?_
    refine x_iload_n dX10_top_34 rfl rfl ?_
    refine x_iret dX10_top_35 rfl (Or.inl rfl) (fun _ _ => h)
theorem wp_X10_swap_0 {x1 x2 : Int} {M : mM} {Q : Int → mM → Prop} (h : (0 ≤ x1 ∧ x1 < M 1 0 → (0 ≤ x2 ∧ x2 < M 1 0 → ∃ Qc1 : Int → mM → Prop, C_ kk_X6_changePlaces [v_P 1, v_I x1, v_I x2] M Qc1 ∧ ∀ (r2 : Int) (M3 : mM), m_ir r2 → m_okM M3 → Qc1 r2 M3 → Q 1 M3) ∧ (¬ (0 ≤ x2 ∧ x2 < M 1 0) → Q (-1) M)) ∧ (¬ (0 ≤ x1 ∧ x1 < M 1 0) → Q (-1) M)) : X_ kk_X10_swap 0 [v_P 0, v_I x1, v_I x2] [] M Q := by
  refine x_aload_n dX10_swap_0 rfl rfl ?_
  refine y_getP dX10_swap_1 sh_0 cf_X10 fl_X10_10 (by decide) (by decide) gg_0_0 ?_
  refine x_iload_n dX10_swap_4 rfl rfl ?_
  refine x_hasLot (st := []) dX10_swap_5 ml_X10_157 ⟨by decide, by decide⟩ (fun _ _ => Nat.le_of_ble_eq_true rfl) (fun hc => ?_) (fun hc => ?_)
  · change X_ kk_X10_swap 8 [v_P 0, v_I x1, v_I x2] [v_I 1] M Q
    replace h := h.1 hc
    refine x_if_eq (tgt := 22) dX10_swap_8 (by decide) (fun hc => absurd hc (by decide)) (fun _ => ?_)
    refine x_aload_n dX10_swap_11 rfl rfl ?_
    refine y_getP dX10_swap_12 sh_0 cf_X10 fl_X10_10 (by decide) (by decide) gg_0_0 ?_
    refine x_iload_n dX10_swap_15 rfl rfl ?_
    refine x_hasLot (st := []) dX10_swap_16 ml_X10_157 ⟨by decide, by decide⟩ (fun _ _ => Nat.le_of_ble_eq_true rfl) (fun hc => ?_) (fun hc => ?_)
    · change X_ kk_X10_swap 19 [v_P 0, v_I x1, v_I x2] [v_I 1] M Q
      replace h := h.1 hc
      refine x_if_ne (tgt := 24) dX10_swap_19 (by decide) (fun _ => ?_) (fun hc => absurd hc (by decide))
      refine x_aload_n dX10_swap_24 rfl rfl ?_
      refine y_getP dX10_swap_25 sh_0 cf_X10 fl_X10_10 (by decide) (by decide) gg_0_0 ?_
      refine x_iload_n dX10_swap_28 rfl rfl ?_
      refine x_iload_n dX10_swap_29 rfl rfl ?_
      obtain ⟨Qc1, hc4, h⟩ := h
      refine x_callV (as := [v_I x1, v_I x2]) (st := []) (Qc := Qc1) dX10_swap_30 mt_X6_changePlaces ml_X10_160 ⟨by decide, by decide⟩ sh_1 rfl (fun _ _ => Nat.le_of_ble_eq_true rfl) hc4 (fun r2 M3 hr5 hM6 hq7 => ?_)
      replace h := h r2 M3 hr5 hM6 hq7
      change X_ kk_X10_swap 33 [v_P 0, v_I x1, v_I x2] [] M3 Q
      refine x_iconst dX10_swap_33 (by decide) ?_
      refine x_iret dX10_swap_34 rfl (Or.inl rfl) (fun _ _ => h)
    · change X_ kk_X10_swap 19 [v_P 0, v_I x1, v_I x2] [v_I 0] M Q
      replace h := h.2 hc
      refine x_if_ne (tgt := 24) dX10_swap_19 (by decide) (fun hc => absurd hc (by decide)) (fun _ => ?_)
      refine x_iconst dX10_swap_22 (by decide) ?_
      refine x_iret dX10_swap_23 rfl (Or.inl rfl) (fun _ _ => h)
  · change X_ kk_X10_swap 8 [v_P 0, v_I x1, v_I x2] [v_I 0] M Q
    replace h := h.2 hc
    refine x_if_eq (tgt := 22) dX10_swap_8 (by decide) (fun _ => ?_) (fun hc => absurd hc (by decide))
    refine x_iconst dX10_swap_22 (by decide) ?_
    refine x_iret dX10_swap_23 rfl (Or.inl rfl) (fun _ _ => h)
theorem wp_X10_order_0 {x1 : Int} {M : mM} {Q : Int → mM → Prop} (h : (0 ≤ x1 ∧ x1 < M 1 0 → (0 ≤ x1 ∧ x1 < 8) ∧ Q (M 5 x1.toNat) M) ∧ (¬ (0 ≤ x1 ∧ x1 < M 1 0) → Q (-6) M)) : X_ kk_X10_order 0 [v_P 0, v_I x1] [] M Q := by
  refine x_aload_n dX10_order_0 rfl rfl ?_
  refine y_getP dX10_order_1 sh_0 cf_X10 fl_X10_10 (by decide) (by decide) gg_0_0 ?_
  refine x_iload_n dX10_order_4 rfl rfl ?_
  refine x_hasLot (st := []) dX10_order_5 ml_X10_157 ⟨by decide, by decide⟩ (fun _ _ => Nat.le_of_ble_eq_true rfl) (fun hc => ?_) (fun hc => ?_)
  · change X_ kk_X10_order 8 [v_P 0, v_I x1] [v_I 1] M Q
    replace h := h.1 hc
    refine x_if_eq (tgt := 23) dX10_order_8 (by decide) (fun hc => absurd hc (by decide)) (fun _ => ?_)
    refine x_aload_n dX10_order_11 rfl rfl ?_
    refine y_getP dX10_order_12 sh_0 cf_X10 fl_X10_10 (by decide) (by decide) gg_0_0 ?_
    refine y_getP dX10_order_15 sh_1 cf_X6 fl_X10_164 (by decide) (by decide) gg_1_4 ?_
    refine x_iload_n dX10_order_18 rfl rfl ?_
    obtain ⟨s1, h⟩ := h
    refine x_iald dX10_order_19 sh_5 s1 ?_
    refine x_goto (tgt := 25) dX10_order_20 (by decide) ?_
    refine x_iret dX10_order_25 rfl (Or.inl rfl) (fun _ _ => h)
  · change X_ kk_X10_order 8 [v_P 0, v_I x1] [v_I 0] M Q
    replace h := h.2 hc
    refine x_if_eq (tgt := 23) dX10_order_8 (by decide) (fun _ => ?_) (fun hc => absurd hc (by decide))
    refine x_bipush dX10_order_23 (by decide) (by decide) ?_
    refine x_iret dX10_order_25 rfl (Or.inl rfl) (fun _ _ => h)
theorem wp_X10_sold_0 {x1 x2 : Int} {M : mM} {Q : Int → mM → Prop} (h : (0 ≤ x1 ∧ x1 < M 1 0 → (x2 < 0 ∨ 2 < x2 → Q (-2) M) ∧ (¬ (x2 < 0 ∨ 2 < x2) → ∃ Qc1 : Int → mM → Prop, C_ kk_X4_runAsItIs [v_P 30] M Qc1 ∧ ∀ (r2 : Int) (M3 : mM), m_ir r2 → m_okM M3 → Qc1 r2 M3 → (¬ x2 = 0 → (¬ x2 = 1 → (0 ≤ x1 ∧ x1 < 8) ∧ Q (M3 33 x1.toNat) M3) ∧ (x2 = 1 → (0 ≤ x1 ∧ x1 < 8) ∧ Q (M3 32 x1.toNat) M3)) ∧ (x2 = 0 → (0 ≤ x1 ∧ x1 < 8) ∧ Q (M3 31 x1.toNat) M3))) ∧ (¬ (0 ≤ x1 ∧ x1 < M 1 0) → Q (-1) M)) : X_ kk_X10_sold 0 [v_P 0, v_I x1, v_I x2] [] M Q := by
  refine x_aload_n dX10_sold_0 rfl rfl ?_
  refine y_getP dX10_sold_1 sh_0 cf_X10 fl_X10_10 (by decide) (by decide) gg_0_0 ?_
  refine x_iload_n dX10_sold_4 rfl rfl ?_
  refine x_hasLot (st := []) dX10_sold_5 ml_X10_157 ⟨by decide, by decide⟩ (fun _ _ => Nat.le_of_ble_eq_true rfl) (fun hc => ?_) (fun hc => ?_)
  · change X_ kk_X10_sold 8 [v_P 0, v_I x1, v_I x2] [v_I 1] M Q
    replace h := h.1 hc
    refine x_if_ne (tgt := 13) dX10_sold_8 (by decide) (fun _ => ?_) (fun hc => absurd hc (by decide))
    refine x_iload_n dX10_sold_13 rfl rfl ?_
    refine x_iconst dX10_sold_14 (by decide) ?_
    refine x_iconst dX10_sold_15 (by decide) ?_
    refine x_isNot (st := []) dX10_sold_16 ml_X10_76 ⟨by decide, by decide⟩ (fun _ _ => Nat.le_of_ble_eq_true rfl) (fun hc => ?_) (fun hc => ?_)
    · change X_ kk_X10_sold 19 [v_P 0, v_I x1, v_I x2] [v_I 1] M Q
      replace h := h.1 hc
      refine x_if_eq (tgt := 25) dX10_sold_19 (by decide) (fun hc => absurd hc (by decide)) (fun _ => ?_)
      refine x_bipush dX10_sold_22 (by decide) (by decide) ?_
      refine x_iret dX10_sold_24 rfl (Or.inl rfl) (fun _ _ => h)
    · change X_ kk_X10_sold 19 [v_P 0, v_I x1, v_I x2] [v_I 0] M Q
      replace h := h.2 hc
      refine x_if_eq (tgt := 25) dX10_sold_19 (by decide) (fun _ => ?_) (fun hc => absurd hc (by decide))
      refine x_aload_n dX10_sold_25 rfl rfl ?_
      refine y_getP dX10_sold_26 sh_0 cf_X10 fl_X10_28 (by decide) (by decide) gg_0_2 ?_
      obtain ⟨Qc1, hc4, h⟩ := h
      refine x_callV (as := []) (st := []) (Qc := Qc1) dX10_sold_29 mt_X4_runAsItIs ml_X10_167 ⟨by decide, by decide⟩ sh_30 rfl (fun _ _ => Nat.le_of_ble_eq_true rfl) hc4 (fun r2 M3 hr5 hM6 hq7 => ?_)
      replace h := h r2 M3 hr5 hM6 hq7
      change X_ kk_X10_sold 32 [v_P 0, v_I x1, v_I x2] [] M3 Q
      refine x_iload_n dX10_sold_32 rfl rfl ?_
      refine x_if_ne (tgt := 46) dX10_sold_33 (by decide) (fun hc => ?_) (fun hc => ?_)
      · replace h := h.1 hc
        refine x_iload_n dX10_sold_46 rfl rfl ?_
        refine x_iconst dX10_sold_47 (by decide) ?_
        refine x_ic_ne (tgt := 63) dX10_sold_48 (by decide) (fun hc => ?_) (fun hc => ?_)
        · replace h := h.1 hc
          refine x_aload_n dX10_sold_63 rfl rfl ?_
          refine y_getP dX10_sold_64 sh_0 cf_X10 fl_X10_28 (by decide) (by decide) gg_0_2 ?_
          refine y_getP dX10_sold_67 sh_30 cf_X4 fl_X10_176 (by decide) (by decide) gg_30_3 ?_
          refine x_iload_n dX10_sold_70 rfl rfl ?_
          obtain ⟨s8, h⟩ := h
          refine x_iald dX10_sold_71 sh_33 s8 ?_
          refine x_iret dX10_sold_72 rfl (Or.inl rfl) (fun _ _ => h)
        · replace h := h.2 hc
          refine x_aload_n dX10_sold_51 rfl rfl ?_
          refine y_getP dX10_sold_52 sh_0 cf_X10 fl_X10_28 (by decide) (by decide) gg_0_2 ?_
          refine y_getP dX10_sold_55 sh_30 cf_X4 fl_X10_173 (by decide) (by decide) gg_30_2 ?_
          refine x_iload_n dX10_sold_58 rfl rfl ?_
          obtain ⟨s9, h⟩ := h
          refine x_iald dX10_sold_59 sh_32 s9 ?_
          refine x_goto (tgt := 72) dX10_sold_60 (by decide) ?_
          refine x_iret dX10_sold_72 rfl (Or.inl rfl) (fun _ _ => h)
      · replace h := h.2 hc
        refine x_aload_n dX10_sold_36 rfl rfl ?_
        refine y_getP dX10_sold_37 sh_0 cf_X10 fl_X10_28 (by decide) (by decide) gg_0_2 ?_
        refine y_getP dX10_sold_40 sh_30 cf_X4 fl_X10_170 (by decide) (by decide) gg_30_1 ?_
        refine x_iload_n dX10_sold_43 rfl rfl ?_
        obtain ⟨s10, h⟩ := h
        refine x_iald dX10_sold_44 sh_31 s10 ?_
        refine x_iret dX10_sold_45 rfl (Or.inl rfl) (fun _ _ => h)
  · change X_ kk_X10_sold 8 [v_P 0, v_I x1, v_I x2] [v_I 0] M Q
    replace h := h.2 hc
    refine x_if_ne (tgt := 13) dX10_sold_8 (by decide) (fun hc => absurd hc (by decide)) (fun _ => ?_)
    refine x_iconst dX10_sold_11 (by decide) ?_
    refine x_iret dX10_sold_12 rfl (Or.inl rfl) (fun _ _ => h)
theorem wp_X10_day_0 {x1 x2 : Int} {M : mM} {Q : Int → mM → Prop} (h : (0 ≤ x1 ∧ x1 < M 1 6 → (x2 < 0 ∨ 3 < x2 → Q (-2) M) ∧ (¬ (x2 < 0 ∨ 3 < x2) → ∃ Qc1 : Int → mM → Prop, C_ kk_X4_runAsItIs [v_P 30] M Qc1 ∧ ∀ (r2 : Int) (M3 : mM), m_ir r2 → m_okM M3 → Qc1 r2 M3 → (x2 = 0 → (0 ≤ x1 ∧ x1 < 6) ∧ Q (M3 34 x1.toNat) M3) ∧ (x2 = 1 → (0 ≤ x1 ∧ x1 < 6) ∧ Q (M3 35 x1.toNat) M3) ∧ (x2 = 2 → (0 ≤ x1 ∧ x1 < 6) ∧ Q (M3 36 x1.toNat) M3) ∧ ((x2 < 0 ∨ 2 < x2) → (0 ≤ x1 ∧ x1 < 6) ∧ Q (M3 37 x1.toNat) M3))) ∧ (¬ (0 ≤ x1 ∧ x1 < M 1 6) → Q (-1) M)) : X_ kk_X10_day 0 [v_P 0, v_I x1, v_I x2] [] M Q := by
  refine x_aload_n dX10_day_0 rfl rfl ?_
  refine y_getP dX10_day_1 sh_0 cf_X10 fl_X10_10 (by decide) (by decide) gg_0_0 ?_
  refine x_iload_n dX10_day_4 rfl rfl ?_
  refine x_hasBuyer (st := []) dX10_day_5 ml_X10_94 ⟨by decide, by decide⟩ (fun _ _ => Nat.le_of_ble_eq_true rfl) (fun hc => ?_) (fun hc => ?_)
  · change X_ kk_X10_day 8 [v_P 0, v_I x1, v_I x2] [v_I 1] M Q
    replace h := h.1 hc
    refine x_if_ne (tgt := 13) dX10_day_8 (by decide) (fun _ => ?_) (fun hc => absurd hc (by decide))
    refine x_iload_n dX10_day_13 rfl rfl ?_
    refine x_iconst dX10_day_14 (by decide) ?_
    refine x_iconst dX10_day_15 (by decide) ?_
    refine x_isNot (st := []) dX10_day_16 ml_X10_76 ⟨by decide, by decide⟩ (fun _ _ => Nat.le_of_ble_eq_true rfl) (fun hc => ?_) (fun hc => ?_)
    · change X_ kk_X10_day 19 [v_P 0, v_I x1, v_I x2] [v_I 1] M Q
      replace h := h.1 hc
      refine x_if_eq (tgt := 25) dX10_day_19 (by decide) (fun hc => absurd hc (by decide)) (fun _ => ?_)
      refine x_bipush dX10_day_22 (by decide) (by decide) ?_
      refine x_iret dX10_day_24 rfl (Or.inl rfl) (fun _ _ => h)
    · change X_ kk_X10_day 19 [v_P 0, v_I x1, v_I x2] [v_I 0] M Q
      replace h := h.2 hc
      refine x_if_eq (tgt := 25) dX10_day_19 (by decide) (fun _ => ?_) (fun hc => absurd hc (by decide))
      refine x_aload_n dX10_day_25 rfl rfl ?_
      refine y_getP dX10_day_26 sh_0 cf_X10 fl_X10_28 (by decide) (by decide) gg_0_2 ?_
      obtain ⟨Qc1, hc4, h⟩ := h
      refine x_callV (as := []) (st := []) (Qc := Qc1) dX10_day_29 mt_X4_runAsItIs ml_X10_167 ⟨by decide, by decide⟩ sh_30 rfl (fun _ _ => Nat.le_of_ble_eq_true rfl) hc4 (fun r2 M3 hr5 hM6 hq7 => ?_)
      replace h := h r2 M3 hr5 hM6 hq7
      change X_ kk_X10_day 32 [v_P 0, v_I x1, v_I x2] [] M3 Q
      refine x_iload_n dX10_day_32 rfl rfl ?_
      by_cases hx : x2 = 0
      · refine x_tsIn (k := kk_X10_day) (pc := 33) (x := x2) (j := 0) (off := 27) (tgt := 60) dX10_day_33 hx ⟨by decide, by decide⟩ rfl (by decide) ?_
        replace h := h.1 hx
        refine x_aload_n dX10_day_60 rfl rfl ?_
        refine y_getP dX10_day_61 sh_0 cf_X10 fl_X10_28 (by decide) (by decide) gg_0_2 ?_
        refine y_getP dX10_day_64 sh_30 cf_X4 fl_X10_179 (by decide) (by decide) gg_30_4 ?_
        refine x_iload_n dX10_day_67 rfl rfl ?_
        obtain ⟨s8, h⟩ := h
        refine x_iald dX10_day_68 sh_34 s8 ?_
        refine x_iret dX10_day_69 rfl (Or.inl rfl) (fun _ _ => h)
      · replace h := h.2
        by_cases hx : x2 = 1
        · refine x_tsIn (k := kk_X10_day) (pc := 33) (x := x2) (j := 1) (off := 37) (tgt := 70) dX10_day_33 hx ⟨by decide, by decide⟩ rfl (by decide) ?_
          replace h := h.1 hx
          refine x_aload_n dX10_day_70 rfl rfl ?_
          refine y_getP dX10_day_71 sh_0 cf_X10 fl_X10_28 (by decide) (by decide) gg_0_2 ?_
          refine y_getP dX10_day_74 sh_30 cf_X4 fl_X10_182 (by decide) (by decide) gg_30_5 ?_
          refine x_iload_n dX10_day_77 rfl rfl ?_
          obtain ⟨s9, h⟩ := h
          refine x_iald dX10_day_78 sh_35 s9 ?_
          refine x_iret dX10_day_79 rfl (Or.inl rfl) (fun _ _ => h)
        · replace h := h.2
          by_cases hx : x2 = 2
          · refine x_tsIn (k := kk_X10_day) (pc := 33) (x := x2) (j := 2) (off := 47) (tgt := 80) dX10_day_33 hx ⟨by decide, by decide⟩ rfl (by decide) ?_
            replace h := h.1 hx
            refine x_aload_n dX10_day_80 rfl rfl ?_
            refine y_getP dX10_day_81 sh_0 cf_X10 fl_X10_28 (by decide) (by decide) gg_0_2 ?_
            refine y_getP dX10_day_84 sh_30 cf_X4 fl_X10_185 (by decide) (by decide) gg_30_6 ?_
            refine x_iload_n dX10_day_87 rfl rfl ?_
            obtain ⟨s10, h⟩ := h
            refine x_iald dX10_day_88 sh_36 s10 ?_
            refine x_iret dX10_day_89 rfl (Or.inl rfl) (fun _ _ => h)
          · replace h := h.2
            have ho : x2 < 0 ∨ 2 < x2 := by clear h; omega
            refine x_tsOut (k := kk_X10_day) (pc := 33) (x := x2) (tgt := 90) dX10_day_33 ho (by decide) ?_
            replace h := h ho
            refine x_aload_n dX10_day_90 rfl rfl ?_
            refine y_getP dX10_day_91 sh_0 cf_X10 fl_X10_28 (by decide) (by decide) gg_0_2 ?_
            refine y_getP dX10_day_94 sh_30 cf_X4 fl_X10_188 (by decide) (by decide) gg_30_7 ?_
            refine x_iload_n dX10_day_97 rfl rfl ?_
            obtain ⟨s11, h⟩ := h
            refine x_iald dX10_day_98 sh_37 s11 ?_
            refine x_iret dX10_day_99 rfl (Or.inl rfl) (fun _ _ => h)
  · change X_ kk_X10_day 8 [v_P 0, v_I x1, v_I x2] [v_I 0] M Q
    replace h := h.2 hc
    refine x_if_ne (tgt := 13) dX10_day_8 (by decide) (fun hc => absurd hc (by decide)) (fun _ => ?_)
    refine x_iconst dX10_day_11 (by decide) ?_
    refine x_iret dX10_day_12 rfl (Or.inl rfl) (fun _ _ => h)
theorem wp_X10_dealt_0 {x1 : Int} {M : mM} {Q : Int → mM → Prop} (h : (x1 = (-1) → ∃ Qc1 : Int → mM → Prop, C_ kk_X5_mostWorth [v_P 48] M Qc1 ∧ ∀ (r2 : Int) (M3 : mM), m_ir r2 → m_okM M3 → Qc1 r2 M3 → (¬ x1 = (-1) → ∃ Qc8 : Int → mM → Prop, C_ kk_X5_share [v_P 48] M3 Qc8 ∧ ∀ (r9 : Int) (M10 : mM), m_ir r9 → m_okM M10 → Qc8 r9 M10 → (0 ≤ x1 ∧ x1 < 6) ∧ Q (M10 49 x1.toNat) M10) ∧ (x1 = (-1) → Q r2 M3)) ∧ (¬ x1 = (-1) → (0 ≤ x1 ∧ x1 < M 1 6 → ∃ Qc16 : Int → mM → Prop, C_ kk_X5_mostWorth [v_P 48] M Qc16 ∧ ∀ (r17 : Int) (M18 : mM), m_ir r17 → m_okM M18 → Qc16 r17 M18 → (¬ x1 = (-1) → ∃ Qc23 : Int → mM → Prop, C_ kk_X5_share [v_P 48] M18 Qc23 ∧ ∀ (r24 : Int) (M25 : mM), m_ir r24 → m_okM M25 → Qc23 r24 M25 → (0 ≤ x1 ∧ x1 < 6) ∧ Q (M25 49 x1.toNat) M25) ∧ (x1 = (-1) → Q r17 M18)) ∧ (¬ (0 ≤ x1 ∧ x1 < M 1 6) → Q (-1) M))) : X_ kk_X10_dealt 0 [v_P 0, v_I x1, v_U] [] M Q := by
  refine x_iload_n dX10_dealt_0 rfl rfl ?_
  refine x_iconst dX10_dealt_1 (by decide) ?_
  refine x_ic_eq (tgt := 18) dX10_dealt_2 (by decide) (fun hc => ?_) (fun hc => ?_)
  · replace h := h.1 hc
    refine x_aload_n dX10_dealt_18 rfl rfl ?_
    refine y_getP dX10_dealt_19 sh_0 cf_X10 fl_X10_35 (by decide) (by decide) gg_0_3 ?_
    obtain ⟨Qc1, hc4, h⟩ := h
    refine x_callV (as := []) (st := []) (Qc := Qc1) dX10_dealt_22 mt_X5_mostWorth ml_X10_191 ⟨by decide, by decide⟩ sh_48 rfl (fun _ _ => Nat.le_of_ble_eq_true rfl) hc4 (fun r2 M3 hr5 hM6 hq7 => ?_)
    replace h := h r2 M3 hr5 hM6 hq7
    change X_ kk_X10_dealt 25 [v_P 0, v_I x1, v_U] [v_I r2] M3 Q
    refine y_istore_n (ls' := [v_P 0, v_I x1, v_I r2]) dX10_dealt_25 rfl (by decide) rfl ?_
    refine x_iload_n dX10_dealt_26 rfl rfl ?_
    refine x_iconst dX10_dealt_27 (by decide) ?_
    refine x_ic_ne (tgt := 33) dX10_dealt_28 (by decide) (fun hc => ?_) (fun hc => ?_)
    · replace h := h.1 hc
      refine x_aload_n dX10_dealt_33 rfl rfl ?_
      refine y_getP dX10_dealt_34 sh_0 cf_X10 fl_X10_35 (by decide) (by decide) gg_0_3 ?_
      obtain ⟨Qc8, hc11, h⟩ := h
      refine x_callV (as := []) (st := []) (Qc := Qc8) dX10_dealt_37 mt_X5_share ml_X10_194 ⟨by decide, by decide⟩ sh_48 rfl (fun _ _ => Nat.le_of_ble_eq_true rfl) hc11 (fun r9 M10 hr12 hM13 hq14 => ?_)
      replace h := h r9 M10 hr12 hM13 hq14
      change X_ kk_X10_dealt 40 [v_P 0, v_I x1, v_I r2] [] M10 Q
      refine x_aload_n dX10_dealt_40 rfl rfl ?_
      refine y_getP dX10_dealt_41 sh_0 cf_X10 fl_X10_35 (by decide) (by decide) gg_0_3 ?_
      refine y_getP dX10_dealt_44 sh_48 cf_X5 fl_X10_197 (by decide) (by decide) gg_48_1 ?_
      refine x_iload_n dX10_dealt_47 rfl rfl ?_
      obtain ⟨s15, h⟩ := h
      refine x_iald dX10_dealt_48 sh_49 s15 ?_
      refine x_iret dX10_dealt_49 rfl (Or.inl rfl) (fun _ _ => h)
    · replace h := h.2 hc
      refine x_iload_n dX10_dealt_31 rfl rfl ?_
      refine x_iret dX10_dealt_32 rfl (Or.inl rfl) (fun _ _ => h)
  · replace h := h.2 hc
    refine x_aload_n dX10_dealt_5 rfl rfl ?_
    refine y_getP dX10_dealt_6 sh_0 cf_X10 fl_X10_10 (by decide) (by decide) gg_0_0 ?_
    refine x_iload_n dX10_dealt_9 rfl rfl ?_
    refine x_hasBuyer (st := []) dX10_dealt_10 ml_X10_94 ⟨by decide, by decide⟩ (fun _ _ => Nat.le_of_ble_eq_true rfl) (fun hc => ?_) (fun hc => ?_)
    · change X_ kk_X10_dealt 13 [v_P 0, v_I x1, v_U] [v_I 1] M Q
      replace h := h.1 hc
      refine x_if_ne (tgt := 18) dX10_dealt_13 (by decide) (fun _ => ?_) (fun hc => absurd hc (by decide))
      refine x_aload_n dX10_dealt_18 rfl rfl ?_
      refine y_getP dX10_dealt_19 sh_0 cf_X10 fl_X10_35 (by decide) (by decide) gg_0_3 ?_
      obtain ⟨Qc16, hc19, h⟩ := h
      refine x_callV (as := []) (st := []) (Qc := Qc16) dX10_dealt_22 mt_X5_mostWorth ml_X10_191 ⟨by decide, by decide⟩ sh_48 rfl (fun _ _ => Nat.le_of_ble_eq_true rfl) hc19 (fun r17 M18 hr20 hM21 hq22 => ?_)
      replace h := h r17 M18 hr20 hM21 hq22
      change X_ kk_X10_dealt 25 [v_P 0, v_I x1, v_U] [v_I r17] M18 Q
      refine y_istore_n (ls' := [v_P 0, v_I x1, v_I r17]) dX10_dealt_25 rfl (by decide) rfl ?_
      refine x_iload_n dX10_dealt_26 rfl rfl ?_
      refine x_iconst dX10_dealt_27 (by decide) ?_
      refine x_ic_ne (tgt := 33) dX10_dealt_28 (by decide) (fun hc => ?_) (fun hc => ?_)
      · replace h := h.1 hc
        refine x_aload_n dX10_dealt_33 rfl rfl ?_
        refine y_getP dX10_dealt_34 sh_0 cf_X10 fl_X10_35 (by decide) (by decide) gg_0_3 ?_
        obtain ⟨Qc23, hc26, h⟩ := h
        refine x_callV (as := []) (st := []) (Qc := Qc23) dX10_dealt_37 mt_X5_share ml_X10_194 ⟨by decide, by decide⟩ sh_48 rfl (fun _ _ => Nat.le_of_ble_eq_true rfl) hc26 (fun r24 M25 hr27 hM28 hq29 => ?_)
        replace h := h r24 M25 hr27 hM28 hq29
        change X_ kk_X10_dealt 40 [v_P 0, v_I x1, v_I r17] [] M25 Q
        refine x_aload_n dX10_dealt_40 rfl rfl ?_
        refine y_getP dX10_dealt_41 sh_0 cf_X10 fl_X10_35 (by decide) (by decide) gg_0_3 ?_
        refine y_getP dX10_dealt_44 sh_48 cf_X5 fl_X10_197 (by decide) (by decide) gg_48_1 ?_
        refine x_iload_n dX10_dealt_47 rfl rfl ?_
        obtain ⟨s30, h⟩ := h
        refine x_iald dX10_dealt_48 sh_49 s30 ?_
        refine x_iret dX10_dealt_49 rfl (Or.inl rfl) (fun _ _ => h)
      · replace h := h.2 hc
        refine x_iload_n dX10_dealt_31 rfl rfl ?_
        refine x_iret dX10_dealt_32 rfl (Or.inl rfl) (fun _ _ => h)
    · change X_ kk_X10_dealt 13 [v_P 0, v_I x1, v_U] [v_I 0] M Q
      replace h := h.2 hc
      refine x_if_ne (tgt := 18) dX10_dealt_13 (by decide) (fun hc => absurd hc (by decide)) (fun _ => ?_)
      refine x_iconst dX10_dealt_16 (by decide) ?_
      refine x_iret dX10_dealt_17 rfl (Or.inl rfl) (fun _ _ => h)
theorem wp_X10_price_0 {x1 x2 : Int} {M : mM} {Q : Int → mM → Prop} (h : (0 ≤ x1 ∧ x1 < M 1 0 → (x2 < 0 ∨ 1000 < x2 → Q (-2) M) ∧ (¬ (x2 < 0 ∨ 1000 < x2) → (0 ≤ x1 ∧ x1 < 8) ∧ (0 ≤ x1 ∧ x1 < 8) ∧ Q (M 61 x1.toNat) (m_up M 61 x1.toNat x2))) ∧ (¬ (0 ≤ x1 ∧ x1 < M 1 0) → Q (-1) M)) : X_ kk_X10_price 0 [v_P 0, v_I x1, v_I x2, v_U] [] M Q := by
  refine x_aload_n dX10_price_0 rfl rfl ?_
  refine y_getP dX10_price_1 sh_0 cf_X10 fl_X10_10 (by decide) (by decide) gg_0_0 ?_
  refine x_iload_n dX10_price_4 rfl rfl ?_
  refine x_hasLot (st := []) dX10_price_5 ml_X10_157 ⟨by decide, by decide⟩ (fun _ _ => Nat.le_of_ble_eq_true rfl) (fun hc => ?_) (fun hc => ?_)
  · change X_ kk_X10_price 8 [v_P 0, v_I x1, v_I x2, v_U] [v_I 1] M Q
    replace h := h.1 hc
    refine x_if_ne (tgt := 13) dX10_price_8 (by decide) (fun _ => ?_) (fun hc => absurd hc (by decide))
    refine x_iload_n dX10_price_13 rfl rfl ?_
    refine x_iconst dX10_price_14 (by decide) ?_
    refine x_sipush dX10_price_15 (by decide) (by decide) ?_
    refine x_isNot (st := []) dX10_price_18 ml_X10_76 ⟨by decide, by decide⟩ (fun _ _ => Nat.le_of_ble_eq_true rfl) (fun hc => ?_) (fun hc => ?_)
    · change X_ kk_X10_price 21 [v_P 0, v_I x1, v_I x2, v_U] [v_I 1] M Q
      replace h := h.1 hc
      refine x_if_eq (tgt := 27) dX10_price_21 (by decide) (fun hc => absurd hc (by decide)) (fun _ => ?_)
      refine x_bipush dX10_price_24 (by decide) (by decide) ?_
      refine x_iret dX10_price_26 rfl (Or.inl rfl) (fun _ _ => h)
    · change X_ kk_X10_price 21 [v_P 0, v_I x1, v_I x2, v_U] [v_I 0] M Q
      replace h := h.2 hc
      refine x_if_eq (tgt := 27) dX10_price_21 (by decide) (fun _ => ?_) (fun hc => absurd hc (by decide))
      refine x_aload_n dX10_price_27 rfl rfl ?_
      refine y_getP dX10_price_28 sh_0 cf_X10 fl_X10_42 (by decide) (by decide) gg_0_4 ?_
      refine y_getP dX10_price_31 sh_60 cf_X8 fl_X10_200 (by decide) (by decide) gg_60_1 ?_
      refine x_iload_n dX10_price_34 rfl rfl ?_
      obtain ⟨s1, h⟩ := h
      refine x_iald dX10_price_35 sh_61 s1 ?_
      refine y_istore_n (ls' := [v_P 0, v_I x1, v_I x2, v_I (M 61 x1.toNat)]) dX10_price_36 rfl (by decide) rfl ?_
      refine x_aload_n dX10_price_37 rfl rfl ?_
      refine y_getP dX10_price_38 sh_0 cf_X10 fl_X10_42 (by decide) (by decide) gg_0_4 ?_
      refine y_getP dX10_price_41 sh_60 cf_X8 fl_X10_200 (by decide) (by decide) gg_60_1 ?_
      refine x_iload_n dX10_price_44 rfl rfl ?_
      refine x_iload_n dX10_price_45 rfl rfl ?_
      obtain ⟨s2, h⟩ := h
      refine x_iast dX10_price_46 sh_61 s2 ?_
      refine x_iload_n dX10_price_47 rfl rfl ?_
      refine x_iret dX10_price_48 rfl (Or.inl rfl) (fun _ _ => h)
  · change X_ kk_X10_price 8 [v_P 0, v_I x1, v_I x2, v_U] [v_I 0] M Q
    replace h := h.2 hc
    refine x_if_ne (tgt := 13) dX10_price_8 (by decide) (fun hc => absurd hc (by decide)) (fun _ => ?_)
    refine x_iconst dX10_price_11 (by decide) ?_
    refine x_iret dX10_price_12 rfl (Or.inl rfl) (fun _ _ => h)
theorem wp_X10_likes_0 {x1 x2 : Int} {M : mM} {Q : Int → mM → Prop} (h : (0 ≤ x1 ∧ x1 < M 1 6 → (x2 < 0 ∨ 1 < x2 → Q (-2) M) ∧ (¬ (x2 < 0 ∨ 1 < x2) → ∃ Qc1 : Int → mM → Prop, C_ kk_X8_look [v_P 60] M Qc1 ∧ ∀ (r2 : Int) (M3 : mM), m_ir r2 → m_okM M3 → Qc1 r2 M3 → (¬ x2 = 0 → (0 ≤ x1 ∧ x1 < 6) ∧ Q (M3 63 x1.toNat) M3) ∧ (x2 = 0 → (0 ≤ x1 ∧ x1 < 6) ∧ Q (M3 62 x1.toNat) M3))) ∧ (¬ (0 ≤ x1 ∧ x1 < M 1 6) → Q (-1) M)) : X_ kk_X10_likes 0 [v_P 0, v_I x1, v_I x2] [] M Q := by
  refine x_aload_n dX10_likes_0 rfl rfl ?_
  refine y_getP dX10_likes_1 sh_0 cf_X10 fl_X10_10 (by decide) (by decide) gg_0_0 ?_
  refine x_iload_n dX10_likes_4 rfl rfl ?_
  refine x_hasBuyer (st := []) dX10_likes_5 ml_X10_94 ⟨by decide, by decide⟩ (fun _ _ => Nat.le_of_ble_eq_true rfl) (fun hc => ?_) (fun hc => ?_)
  · change X_ kk_X10_likes 8 [v_P 0, v_I x1, v_I x2] [v_I 1] M Q
    replace h := h.1 hc
    refine x_if_ne (tgt := 13) dX10_likes_8 (by decide) (fun _ => ?_) (fun hc => absurd hc (by decide))
    refine x_iload_n dX10_likes_13 rfl rfl ?_
    refine x_iconst dX10_likes_14 (by decide) ?_
    refine x_iconst dX10_likes_15 (by decide) ?_
    refine x_isNot (st := []) dX10_likes_16 ml_X10_76 ⟨by decide, by decide⟩ (fun _ _ => Nat.le_of_ble_eq_true rfl) (fun hc => ?_) (fun hc => ?_)
    · change X_ kk_X10_likes 19 [v_P 0, v_I x1, v_I x2] [v_I 1] M Q
      replace h := h.1 hc
      refine x_if_eq (tgt := 25) dX10_likes_19 (by decide) (fun hc => absurd hc (by decide)) (fun _ => ?_)
      refine x_bipush dX10_likes_22 (by decide) (by decide) ?_
      refine x_iret dX10_likes_24 rfl (Or.inl rfl) (fun _ _ => h)
    · change X_ kk_X10_likes 19 [v_P 0, v_I x1, v_I x2] [v_I 0] M Q
      replace h := h.2 hc
      refine x_if_eq (tgt := 25) dX10_likes_19 (by decide) (fun _ => ?_) (fun hc => absurd hc (by decide))
      refine x_aload_n dX10_likes_25 rfl rfl ?_
      refine y_getP dX10_likes_26 sh_0 cf_X10 fl_X10_42 (by decide) (by decide) gg_0_4 ?_
      obtain ⟨Qc1, hc4, h⟩ := h
      refine x_callV (as := []) (st := []) (Qc := Qc1) dX10_likes_29 mt_X8_look ml_X10_201 ⟨by decide, by decide⟩ sh_60 rfl (fun _ _ => Nat.le_of_ble_eq_true rfl) hc4 (fun r2 M3 hr5 hM6 hq7 => ?_)
      replace h := h r2 M3 hr5 hM6 hq7
      change X_ kk_X10_likes 32 [v_P 0, v_I x1, v_I x2] [] M3 Q
      refine x_iload_n dX10_likes_32 rfl rfl ?_
      refine x_if_ne (tgt := 48) dX10_likes_33 (by decide) (fun hc => ?_) (fun hc => ?_)
      · replace h := h.1 hc
        refine x_aload_n dX10_likes_48 rfl rfl ?_
        refine y_getP dX10_likes_49 sh_0 cf_X10 fl_X10_42 (by decide) (by decide) gg_0_4 ?_
        refine y_getP dX10_likes_52 sh_60 cf_X8 fl_X10_205 (by decide) (by decide) gg_60_3 ?_
        refine x_iload_n dX10_likes_55 rfl rfl ?_
        obtain ⟨s8, h⟩ := h
        refine x_iald dX10_likes_56 sh_63 s8 ?_
        refine x_iret dX10_likes_57 rfl (Or.inl rfl) (fun _ _ => h)
      · replace h := h.2 hc
        refine x_aload_n dX10_likes_36 rfl rfl ?_
        refine y_getP dX10_likes_37 sh_0 cf_X10 fl_X10_42 (by decide) (by decide) gg_0_4 ?_
        refine y_getP dX10_likes_40 sh_60 cf_X8 fl_X10_204 (by decide) (by decide) gg_60_2 ?_
        refine x_iload_n dX10_likes_43 rfl rfl ?_
        obtain ⟨s9, h⟩ := h
        refine x_iald dX10_likes_44 sh_62 s9 ?_
        refine x_goto (tgt := 57) dX10_likes_45 (by decide) ?_
        refine x_iret dX10_likes_57 rfl (Or.inl rfl) (fun _ _ => h)
  · change X_ kk_X10_likes 8 [v_P 0, v_I x1, v_I x2] [v_I 0] M Q
    replace h := h.2 hc
    refine x_if_ne (tgt := 13) dX10_likes_8 (by decide) (fun hc => absurd hc (by decide)) (fun _ => ?_)
    refine x_iconst dX10_likes_11 (by decide) ?_
    refine x_iret dX10_likes_12 rfl (Or.inl rfl) (fun _ _ => h)
theorem wp_X10_missing_0 {M : mM} {Q : Int → mM → Prop} (h : ∃ Qc1 : Int → mM → Prop, C_ kk_X8_look [v_P 60] M Qc1 ∧ ∀ (r2 : Int) (M3 : mM), m_ir r2 → m_okM M3 → Qc1 r2 M3 → ∃ Qc8 : Int → mM → Prop, C_ kk_X5_mostWorth [v_P 48] M3 Qc8 ∧ ∀ (r9 : Int) (M10 : mM), m_ir r9 → m_okM M10 → Qc8 r9 M10 → ∃ Qc15 : Int → mM → Prop, C_ kk_X8_lack [v_P 60, v_I r9] M10 Qc15 ∧ ∀ (r16 : Int) (M17 : mM), m_ir r16 → m_okM M17 → Qc15 r16 M17 → Q r16 M17) : X_ kk_X10_missing 0 [v_P 0] [] M Q := by
  refine x_aload_n dX10_missing_0 rfl rfl ?_
  refine y_getP dX10_missing_1 sh_0 cf_X10 fl_X10_42 (by decide) (by decide) gg_0_4 ?_
  obtain ⟨Qc1, hc4, h⟩ := h
  refine x_callV (as := []) (st := []) (Qc := Qc1) dX10_missing_4 mt_X8_look ml_X10_201 ⟨by decide, by decide⟩ sh_60 rfl (fun _ _ => Nat.le_of_ble_eq_true rfl) hc4 (fun r2 M3 hr5 hM6 hq7 => ?_)
  replace h := h r2 M3 hr5 hM6 hq7
  change X_ kk_X10_missing 7 [v_P 0] [] M3 Q
  refine x_aload_n dX10_missing_7 rfl rfl ?_
  refine y_getP dX10_missing_8 sh_0 cf_X10 fl_X10_42 (by decide) (by decide) gg_0_4 ?_
  refine x_aload_n dX10_missing_11 rfl rfl ?_
  refine y_getP dX10_missing_12 sh_0 cf_X10 fl_X10_35 (by decide) (by decide) gg_0_3 ?_
  obtain ⟨Qc8, hc11, h⟩ := h
  refine x_callV (as := []) (st := [v_P 60]) (Qc := Qc8) dX10_missing_15 mt_X5_mostWorth ml_X10_191 ⟨by decide, by decide⟩ sh_48 rfl (fun _ _ => Nat.le_of_ble_eq_true rfl) hc11 (fun r9 M10 hr12 hM13 hq14 => ?_)
  replace h := h r9 M10 hr12 hM13 hq14
  change X_ kk_X10_missing 18 [v_P 0] [v_I r9, v_P 60] M10 Q
  obtain ⟨Qc15, hc18, h⟩ := h
  refine x_callV (as := [v_I r9]) (st := []) (Qc := Qc15) dX10_missing_18 mt_X8_lack ml_X10_208 ⟨by decide, by decide⟩ sh_60 rfl (fun _ _ => Nat.le_of_ble_eq_true rfl) hc18 (fun r16 M17 hr19 hM20 hq21 => ?_)
  replace h := h r16 M17 hr19 hM20 hq21
  change X_ kk_X10_missing 21 [v_P 0] [v_I r16] M17 Q
  refine x_iret dX10_missing_21 rfl (Or.inl rfl) (fun _ _ => h)
theorem wp_X10_raised_0 {x1 : Int} {M : mM} {Q : Int → mM → Prop} (h : (x1 < 10 ∨ 17 < x1 → (x1 < 0 ∨ 1 < x1 → (x1 < 10 ∨ 17 < x1 → Q (-2) M) ∧ (¬ (x1 < 10 ∨ 17 < x1) → ∃ Qc1 : Int → mM → Prop, C_ kk_X5_mostWorth [v_P 48] M Qc1 ∧ ∀ (r2 : Int) (M3 : mM), m_ir r2 → m_okM M3 → Qc1 r2 M3 → ∃ Qc8 : Int → mM → Prop, C_ kk_X8_raise [v_P 65, v_I r2] M3 Qc8 ∧ ∀ (r9 : Int) (M10 : mM), m_ir r9 → m_okM M10 → Qc8 r9 M10 → (¬ x1 = 0 → (¬ x1 = 1 → (m_ir (x1 - 10)) ∧ (0 ≤ (x1 - 10) ∧ (x1 - 10) < 8) ∧ Q (M10 66 ((x1 - 10).toNat)) M10) ∧ (x1 = 1 → Q (M10 65 5) M10)) ∧ (x1 = 0 → Q (M10 65 4) M10))) ∧ (¬ (x1 < 0 ∨ 1 < x1) → ∃ Qc17 : Int → mM → Prop, C_ kk_X5_mostWorth [v_P 48] M Qc17 ∧ ∀ (r18 : Int) (M19 : mM), m_ir r18 → m_okM M19 → Qc17 r18 M19 → ∃ Qc24 : Int → mM → Prop, C_ kk_X8_raise [v_P 65, v_I r18] M19 Qc24 ∧ ∀ (r25 : Int) (M26 : mM), m_ir r25 → m_okM M26 → Qc24 r25 M26 → (¬ x1 = 0 → (¬ x1 = 1 → (m_ir (x1 - 10)) ∧ (0 ≤ (x1 - 10) ∧ (x1 - 10) < 8) ∧ Q (M26 66 ((x1 - 10).toNat)) M26) ∧ (x1 = 1 → Q (M26 65 5) M26)) ∧ (x1 = 0 → Q (M26 65 4) M26))) ∧ (¬ (x1 < 10 ∨ 17 < x1) → (m_ir (x1 - 10)) ∧ (0 ≤ (x1 - 10) ∧ (x1 - 10) < M 1 0 → (x1 < 0 ∨ 1 < x1 → (x1 < 10 ∨ 17 < x1 → Q (-2) M) ∧ (¬ (x1 < 10 ∨ 17 < x1) → ∃ Qc34 : Int → mM → Prop, C_ kk_X5_mostWorth [v_P 48] M Qc34 ∧ ∀ (r35 : Int) (M36 : mM), m_ir r35 → m_okM M36 → Qc34 r35 M36 → ∃ Qc41 : Int → mM → Prop, C_ kk_X8_raise [v_P 65, v_I r35] M36 Qc41 ∧ ∀ (r42 : Int) (M43 : mM), m_ir r42 → m_okM M43 → Qc41 r42 M43 → (¬ x1 = 0 → (¬ x1 = 1 → (m_ir (x1 - 10)) ∧ (0 ≤ (x1 - 10) ∧ (x1 - 10) < 8) ∧ Q (M43 66 ((x1 - 10).toNat)) M43) ∧ (x1 = 1 → Q (M43 65 5) M43)) ∧ (x1 = 0 → Q (M43 65 4) M43))) ∧ (¬ (x1 < 0 ∨ 1 < x1) → ∃ Qc50 : Int → mM → Prop, C_ kk_X5_mostWorth [v_P 48] M Qc50 ∧ ∀ (r51 : Int) (M52 : mM), m_ir r51 → m_okM M52 → Qc50 r51 M52 → ∃ Qc57 : Int → mM → Prop, C_ kk_X8_raise [v_P 65, v_I r51] M52 Qc57 ∧ ∀ (r58 : Int) (M59 : mM), m_ir r58 → m_okM M59 → Qc57 r58 M59 → (¬ x1 = 0 → (¬ x1 = 1 → (m_ir (x1 - 10)) ∧ (0 ≤ (x1 - 10) ∧ (x1 - 10) < 8) ∧ Q (M59 66 ((x1 - 10).toNat)) M59) ∧ (x1 = 1 → Q (M59 65 5) M59)) ∧ (x1 = 0 → Q (M59 65 4) M59))) ∧ (¬ (0 ≤ (x1 - 10) ∧ (x1 - 10) < M 1 0) → Q (-1) M))) : X_ kk_X10_raised 0 [v_P 0, v_I x1] [] M Q := by
  refine x_iload_n dX10_raised_0 rfl rfl ?_
  refine x_bipush dX10_raised_1 (by decide) (by decide) ?_
  refine x_bipush dX10_raised_3 (by decide) (by decide) ?_
  refine x_isNot (st := []) dX10_raised_5 ml_X10_76 ⟨by decide, by decide⟩ (fun _ _ => Nat.le_of_ble_eq_true rfl) (fun hc => ?_) (fun hc => ?_)
  · change X_ kk_X10_raised 8 [v_P 0, v_I x1] [v_I 1] M Q
    replace h := h.1 hc
    refine x_if_ne (tgt := 27) dX10_raised_8 (by decide) (fun _ => ?_) (fun hc => absurd hc (by decide))
    refine x_iload_n dX10_raised_27 rfl rfl ?_
    refine x_iconst dX10_raised_28 (by decide) ?_
    refine x_iconst dX10_raised_29 (by decide) ?_
    refine x_isNot (st := []) dX10_raised_30 ml_X10_76 ⟨by decide, by decide⟩ (fun _ _ => Nat.le_of_ble_eq_true rfl) (fun hc => ?_) (fun hc => ?_)
    · change X_ kk_X10_raised 33 [v_P 0, v_I x1] [v_I 1] M Q
      replace h := h.1 hc
      refine x_if_eq (tgt := 50) dX10_raised_33 (by decide) (fun hc => absurd hc (by decide)) (fun _ => ?_)
      refine x_iload_n dX10_raised_36 rfl rfl ?_
      refine x_bipush dX10_raised_37 (by decide) (by decide) ?_
      refine x_bipush dX10_raised_39 (by decide) (by decide) ?_
      refine x_isNot (st := []) dX10_raised_41 ml_X10_76 ⟨by decide, by decide⟩ (fun _ _ => Nat.le_of_ble_eq_true rfl) (fun hc => ?_) (fun hc => ?_)
      · change X_ kk_X10_raised 44 [v_P 0, v_I x1] [v_I 1] M Q
        replace h := h.1 hc
        refine x_if_eq (tgt := 50) dX10_raised_44 (by decide) (fun hc => absurd hc (by decide)) (fun _ => ?_)
        refine x_bipush dX10_raised_47 (by decide) (by decide) ?_
        refine x_iret dX10_raised_49 rfl (Or.inl rfl) (fun _ _ => h)
      · change X_ kk_X10_raised 44 [v_P 0, v_I x1] [v_I 0] M Q
        replace h := h.2 hc
        refine x_if_eq (tgt := 50) dX10_raised_44 (by decide) (fun _ => ?_) (fun hc => absurd hc (by decide))
        refine x_aload_n dX10_raised_50 rfl rfl ?_
        refine y_getP dX10_raised_51 sh_0 cf_X10 fl_X10_46 (by decide) (by decide) gg_0_5 ?_
        refine x_aload_n dX10_raised_54 rfl rfl ?_
        refine y_getP dX10_raised_55 sh_0 cf_X10 fl_X10_35 (by decide) (by decide) gg_0_3 ?_
        obtain ⟨Qc1, hc4, h⟩ := h
        refine x_callV (as := []) (st := [v_P 65]) (Qc := Qc1) dX10_raised_58 mt_X5_mostWorth ml_X10_191 ⟨by decide, by decide⟩ sh_48 rfl (fun _ _ => Nat.le_of_ble_eq_true rfl) hc4 (fun r2 M3 hr5 hM6 hq7 => ?_)
        replace h := h r2 M3 hr5 hM6 hq7
        change X_ kk_X10_raised 61 [v_P 0, v_I x1] [v_I r2, v_P 65] M3 Q
        obtain ⟨Qc8, hc11, h⟩ := h
        refine x_callV (as := [v_I r2]) (st := []) (Qc := Qc8) dX10_raised_61 mt_X8_raise ml_X10_211 ⟨by decide, by decide⟩ sh_65 rfl (fun _ _ => Nat.le_of_ble_eq_true rfl) hc11 (fun r9 M10 hr12 hM13 hq14 => ?_)
        replace h := h r9 M10 hr12 hM13 hq14
        change X_ kk_X10_raised 64 [v_P 0, v_I x1] [] M10 Q
        refine x_iload_n dX10_raised_64 rfl rfl ?_
        refine x_if_ne (tgt := 76) dX10_raised_65 (by decide) (fun hc => ?_) (fun hc => ?_)
        · replace h := h.1 hc
          refine x_iload_n dX10_raised_76 rfl rfl ?_
          refine x_iconst dX10_raised_77 (by decide) ?_
          refine x_ic_ne (tgt := 91) dX10_raised_78 (by decide) (fun hc => ?_) (fun hc => ?_)
          · replace h := h.1 hc
            refine x_aload_n dX10_raised_91 rfl rfl ?_
            refine y_getP dX10_raised_92 sh_0 cf_X10 fl_X10_46 (by decide) (by decide) gg_0_5 ?_
            refine y_getP dX10_raised_95 sh_65 cf_X8 fl_X10_200 (by decide) (by decide) gg_65_1 ?_
            refine x_iload_n dX10_raised_98 rfl rfl ?_
            refine x_bipush dX10_raised_99 (by decide) (by decide) ?_
            obtain ⟨s15, h⟩ := h
            refine x_isub dX10_raised_101 s15 ?_
            obtain ⟨s16, h⟩ := h
            refine x_iald dX10_raised_102 sh_66 s16 ?_
            refine x_iret dX10_raised_103 rfl (Or.inl rfl) (fun _ _ => h)
          · replace h := h.2 hc
            refine x_aload_n dX10_raised_81 rfl rfl ?_
            refine y_getP dX10_raised_82 sh_0 cf_X10 fl_X10_46 (by decide) (by decide) gg_0_5 ?_
            refine x_getI dX10_raised_85 sh_65 cf_X8 fl_X10_218 (by decide) (by decide) ?_
            refine x_goto (tgt := 103) dX10_raised_88 (by decide) ?_
            refine x_iret dX10_raised_103 rfl (Or.inl rfl) (fun _ _ => h)
        · replace h := h.2 hc
          refine x_aload_n dX10_raised_68 rfl rfl ?_
          refine y_getP dX10_raised_69 sh_0 cf_X10 fl_X10_46 (by decide) (by decide) gg_0_5 ?_
          refine x_getI dX10_raised_72 sh_65 cf_X8 fl_X10_215 (by decide) (by decide) ?_
          refine x_iret dX10_raised_75 rfl (Or.inl rfl) (fun _ _ => h)
    · change X_ kk_X10_raised 33 [v_P 0, v_I x1] [v_I 0] M Q
      replace h := h.2 hc
      refine x_if_eq (tgt := 50) dX10_raised_33 (by decide) (fun _ => ?_) (fun hc => absurd hc (by decide))
      refine x_aload_n dX10_raised_50 rfl rfl ?_
      refine y_getP dX10_raised_51 sh_0 cf_X10 fl_X10_46 (by decide) (by decide) gg_0_5 ?_
      refine x_aload_n dX10_raised_54 rfl rfl ?_
      refine y_getP dX10_raised_55 sh_0 cf_X10 fl_X10_35 (by decide) (by decide) gg_0_3 ?_
      obtain ⟨Qc17, hc20, h⟩ := h
      refine x_callV (as := []) (st := [v_P 65]) (Qc := Qc17) dX10_raised_58 mt_X5_mostWorth ml_X10_191 ⟨by decide, by decide⟩ sh_48 rfl (fun _ _ => Nat.le_of_ble_eq_true rfl) hc20 (fun r18 M19 hr21 hM22 hq23 => ?_)
      replace h := h r18 M19 hr21 hM22 hq23
      change X_ kk_X10_raised 61 [v_P 0, v_I x1] [v_I r18, v_P 65] M19 Q
      obtain ⟨Qc24, hc27, h⟩ := h
      refine x_callV (as := [v_I r18]) (st := []) (Qc := Qc24) dX10_raised_61 mt_X8_raise ml_X10_211 ⟨by decide, by decide⟩ sh_65 rfl (fun _ _ => Nat.le_of_ble_eq_true rfl) hc27 (fun r25 M26 hr28 hM29 hq30 => ?_)
      replace h := h r25 M26 hr28 hM29 hq30
      change X_ kk_X10_raised 64 [v_P 0, v_I x1] [] M26 Q
      refine x_iload_n dX10_raised_64 rfl rfl ?_
      refine x_if_ne (tgt := 76) dX10_raised_65 (by decide) (fun hc => ?_) (fun hc => ?_)
      · replace h := h.1 hc
        refine x_iload_n dX10_raised_76 rfl rfl ?_
        refine x_iconst dX10_raised_77 (by decide) ?_
        refine x_ic_ne (tgt := 91) dX10_raised_78 (by decide) (fun hc => ?_) (fun hc => ?_)
        · replace h := h.1 hc
          refine x_aload_n dX10_raised_91 rfl rfl ?_
          refine y_getP dX10_raised_92 sh_0 cf_X10 fl_X10_46 (by decide) (by decide) gg_0_5 ?_
          refine y_getP dX10_raised_95 sh_65 cf_X8 fl_X10_200 (by decide) (by decide) gg_65_1 ?_
          refine x_iload_n dX10_raised_98 rfl rfl ?_
          refine x_bipush dX10_raised_99 (by decide) (by decide) ?_
          obtain ⟨s31, h⟩ := h
          refine x_isub dX10_raised_101 s31 ?_
          obtain ⟨s32, h⟩ := h
          refine x_iald dX10_raised_102 sh_66 s32 ?_
          refine x_iret dX10_raised_103 rfl (Or.inl rfl) (fun _ _ => h)
        · replace h := h.2 hc
          refine x_aload_n dX10_raised_81 rfl rfl ?_
          refine y_getP dX10_raised_82 sh_0 cf_X10 fl_X10_46 (by decide) (by decide) gg_0_5 ?_
          refine x_getI dX10_raised_85 sh_65 cf_X8 fl_X10_218 (by decide) (by decide) ?_
          refine x_goto (tgt := 103) dX10_raised_88 (by decide) ?_
          refine x_iret dX10_raised_103 rfl (Or.inl rfl) (fun _ _ => h)
      · replace h := h.2 hc
        refine x_aload_n dX10_raised_68 rfl rfl ?_
        refine y_getP dX10_raised_69 sh_0 cf_X10 fl_X10_46 (by decide) (by decide) gg_0_5 ?_
        refine x_getI dX10_raised_72 sh_65 cf_X8 fl_X10_215 (by decide) (by decide) ?_
        refine x_iret dX10_raised_75 rfl (Or.inl rfl) (fun _ _ => h)
  · change X_ kk_X10_raised 8 [v_P 0, v_I x1] [v_I 0] M Q
    replace h := h.2 hc
    refine x_if_ne (tgt := 27) dX10_raised_8 (by decide) (fun hc => absurd hc (by decide)) (fun _ => ?_)
    refine x_aload_n dX10_raised_11 rfl rfl ?_
    refine y_getP dX10_raised_12 sh_0 cf_X10 fl_X10_10 (by decide) (by decide) gg_0_0 ?_
    refine x_iload_n dX10_raised_15 rfl rfl ?_
    refine x_bipush dX10_raised_16 (by decide) (by decide) ?_
    obtain ⟨s33, h⟩ := h
    refine x_isub dX10_raised_18 s33 ?_
    refine x_hasLot (st := []) dX10_raised_19 ml_X10_157 ⟨by decide, by decide⟩ (fun _ _ => Nat.le_of_ble_eq_true rfl) (fun hc => ?_) (fun hc => ?_)
    · change X_ kk_X10_raised 22 [v_P 0, v_I x1] [v_I 1] M Q
      replace h := h.1 hc
      refine x_if_ne (tgt := 27) dX10_raised_22 (by decide) (fun _ => ?_) (fun hc => absurd hc (by decide))
      refine x_iload_n dX10_raised_27 rfl rfl ?_
      refine x_iconst dX10_raised_28 (by decide) ?_
      refine x_iconst dX10_raised_29 (by decide) ?_
      refine x_isNot (st := []) dX10_raised_30 ml_X10_76 ⟨by decide, by decide⟩ (fun _ _ => Nat.le_of_ble_eq_true rfl) (fun hc => ?_) (fun hc => ?_)
      · change X_ kk_X10_raised 33 [v_P 0, v_I x1] [v_I 1] M Q
        replace h := h.1 hc
        refine x_if_eq (tgt := 50) dX10_raised_33 (by decide) (fun hc => absurd hc (by decide)) (fun _ => ?_)
        refine x_iload_n dX10_raised_36 rfl rfl ?_
        refine x_bipush dX10_raised_37 (by decide) (by decide) ?_
        refine x_bipush dX10_raised_39 (by decide) (by decide) ?_
        refine x_isNot (st := []) dX10_raised_41 ml_X10_76 ⟨by decide, by decide⟩ (fun _ _ => Nat.le_of_ble_eq_true rfl) (fun hc => ?_) (fun hc => ?_)
        · change X_ kk_X10_raised 44 [v_P 0, v_I x1] [v_I 1] M Q
          replace h := h.1 hc
          refine x_if_eq (tgt := 50) dX10_raised_44 (by decide) (fun hc => absurd hc (by decide)) (fun _ => ?_)
          refine x_bipush dX10_raised_47 (by decide) (by decide) ?_
          refine x_iret dX10_raised_49 rfl (Or.inl rfl) (fun _ _ => h)
        · change X_ kk_X10_raised 44 [v_P 0, v_I x1] [v_I 0] M Q
          replace h := h.2 hc
          refine x_if_eq (tgt := 50) dX10_raised_44 (by decide) (fun _ => ?_) (fun hc => absurd hc (by decide))
          refine x_aload_n dX10_raised_50 rfl rfl ?_
          refine y_getP dX10_raised_51 sh_0 cf_X10 fl_X10_46 (by decide) (by decide) gg_0_5 ?_
          refine x_aload_n dX10_raised_54 rfl rfl ?_
          refine y_getP dX10_raised_55 sh_0 cf_X10 fl_X10_35 (by decide) (by decide) gg_0_3 ?_
          obtain ⟨Qc34, hc37, h⟩ := h
          refine x_callV (as := []) (st := [v_P 65]) (Qc := Qc34) dX10_raised_58 mt_X5_mostWorth ml_X10_191 ⟨by decide, by decide⟩ sh_48 rfl (fun _ _ => Nat.le_of_ble_eq_true rfl) hc37 (fun r35 M36 hr38 hM39 hq40 => ?_)
          replace h := h r35 M36 hr38 hM39 hq40
          change X_ kk_X10_raised 61 [v_P 0, v_I x1] [v_I r35, v_P 65] M36 Q
          obtain ⟨Qc41, hc44, h⟩ := h
          refine x_callV (as := [v_I r35]) (st := []) (Qc := Qc41) dX10_raised_61 mt_X8_raise ml_X10_211 ⟨by decide, by decide⟩ sh_65 rfl (fun _ _ => Nat.le_of_ble_eq_true rfl) hc44 (fun r42 M43 hr45 hM46 hq47 => ?_)
          replace h := h r42 M43 hr45 hM46 hq47
          change X_ kk_X10_raised 64 [v_P 0, v_I x1] [] M43 Q
          refine x_iload_n dX10_raised_64 rfl rfl ?_
          refine x_if_ne (tgt := 76) dX10_raised_65 (by decide) (fun hc => ?_) (fun hc => ?_)
          · replace h := h.1 hc
            refine x_iload_n dX10_raised_76 rfl rfl ?_
            refine x_iconst dX10_raised_77 (by decide) ?_
            refine x_ic_ne (tgt := 91) dX10_raised_78 (by decide) (fun hc => ?_) (fun hc => ?_)
            · replace h := h.1 hc
              refine x_aload_n dX10_raised_91 rfl rfl ?_
              refine y_getP dX10_raised_92 sh_0 cf_X10 fl_X10_46 (by decide) (by decide) gg_0_5 ?_
              refine y_getP dX10_raised_95 sh_65 cf_X8 fl_X10_200 (by decide) (by decide) gg_65_1 ?_
              refine x_iload_n dX10_raised_98 rfl rfl ?_
              refine x_bipush dX10_raised_99 (by decide) (by decide) ?_
              obtain ⟨s48, h⟩ := h
              refine x_isub dX10_raised_101 s48 ?_
              obtain ⟨s49, h⟩ := h
              refine x_iald dX10_raised_102 sh_66 s49 ?_
              refine x_iret dX10_raised_103 rfl (Or.inl rfl) (fun _ _ => h)
            · replace h := h.2 hc
              refine x_aload_n dX10_raised_81 rfl rfl ?_
              refine y_getP dX10_raised_82 sh_0 cf_X10 fl_X10_46 (by decide) (by decide) gg_0_5 ?_
              refine x_getI dX10_raised_85 sh_65 cf_X8 fl_X10_218 (by decide) (by decide) ?_
              refine x_goto (tgt := 103) dX10_raised_88 (by decide) ?_
              refine x_iret dX10_raised_103 rfl (Or.inl rfl) (fun _ _ => h)
          · replace h := h.2 hc
            refine x_aload_n dX10_raised_68 rfl rfl ?_
            refine y_getP dX10_raised_69 sh_0 cf_X10 fl_X10_46 (by decide) (by decide) gg_0_5 ?_
            refine x_getI dX10_raised_72 sh_65 cf_X8 fl_X10_215 (by decide) (by decide) ?_
            refine x_iret dX10_raised_75 rfl (Or.inl rfl) (fun _ _ => h)
      · change X_ kk_X10_raised 33 [v_P 0, v_I x1] [v_I 0] M Q
        replace h := h.2 hc
        refine x_if_eq (tgt := 50) dX10_raised_33 (by decide) (fun _ => ?_) (fun hc => absurd hc (by decide))
        refine x_aload_n dX10_raised_50 rfl rfl ?_
        refine y_getP dX10_raised_51 sh_0 cf_X10 fl_X10_46 (by decide) (by decide) gg_0_5 ?_
        refine x_aload_n dX10_raised_54 rfl rfl ?_
        refine y_getP dX10_raised_55 sh_0 cf_X10 fl_X10_35 (by decide) (by decide) gg_0_3 ?_
        obtain ⟨Qc50, hc53, h⟩ := h
        refine x_callV (as := []) (st := [v_P 65]) (Qc := Qc50) dX10_raised_58 mt_X5_mostWorth ml_X10_191 ⟨by decide, by decide⟩ sh_48 rfl (fun _ _ => Nat.le_of_ble_eq_true rfl) hc53 (fun r51 M52 hr54 hM55 hq56 => ?_)
        replace h := h r51 M52 hr54 hM55 hq56
        change X_ kk_X10_raised 61 [v_P 0, v_I x1] [v_I r51, v_P 65] M52 Q
        obtain ⟨Qc57, hc60, h⟩ := h
        refine x_callV (as := [v_I r51]) (st := []) (Qc := Qc57) dX10_raised_61 mt_X8_raise ml_X10_211 ⟨by decide, by decide⟩ sh_65 rfl (fun _ _ => Nat.le_of_ble_eq_true rfl) hc60 (fun r58 M59 hr61 hM62 hq63 => ?_)
        replace h := h r58 M59 hr61 hM62 hq63
        change X_ kk_X10_raised 64 [v_P 0, v_I x1] [] M59 Q
        refine x_iload_n dX10_raised_64 rfl rfl ?_
        refine x_if_ne (tgt := 76) dX10_raised_65 (by decide) (fun hc => ?_) (fun hc => ?_)
        · replace h := h.1 hc
          refine x_iload_n dX10_raised_76 rfl rfl ?_
          refine x_iconst dX10_raised_77 (by decide) ?_
          refine x_ic_ne (tgt := 91) dX10_raised_78 (by decide) (fun hc => ?_) (fun hc => ?_)
          · replace h := h.1 hc
            refine x_aload_n dX10_raised_91 rfl rfl ?_
            refine y_getP dX10_raised_92 sh_0 cf_X10 fl_X10_46 (by decide) (by decide) gg_0_5 ?_
            refine y_getP dX10_raised_95 sh_65 cf_X8 fl_X10_200 (by decide) (by decide) gg_65_1 ?_
            refine x_iload_n dX10_raised_98 rfl rfl ?_
            refine x_bipush dX10_raised_99 (by decide) (by decide) ?_
            obtain ⟨s64, h⟩ := h
            refine x_isub dX10_raised_101 s64 ?_
            obtain ⟨s65, h⟩ := h
            refine x_iald dX10_raised_102 sh_66 s65 ?_
            refine x_iret dX10_raised_103 rfl (Or.inl rfl) (fun _ _ => h)
          · replace h := h.2 hc
            refine x_aload_n dX10_raised_81 rfl rfl ?_
            refine y_getP dX10_raised_82 sh_0 cf_X10 fl_X10_46 (by decide) (by decide) gg_0_5 ?_
            refine x_getI dX10_raised_85 sh_65 cf_X8 fl_X10_218 (by decide) (by decide) ?_
            refine x_goto (tgt := 103) dX10_raised_88 (by decide) ?_
            refine x_iret dX10_raised_103 rfl (Or.inl rfl) (fun _ _ => h)
        · replace h := h.2 hc
          refine x_aload_n dX10_raised_68 rfl rfl ?_
          refine y_getP dX10_raised_69 sh_0 cf_X10 fl_X10_46 (by decide) (by decide) gg_0_5 ?_
          refine x_getI dX10_raised_72 sh_65 cf_X8 fl_X10_215 (by decide) (by decide) ?_
          refine x_iret dX10_raised_75 rfl (Or.inl rfl) (fun _ _ => h)
    · change X_ kk_X10_raised 22 [v_P 0, v_I x1] [v_I 0] M Q
      replace h := h.2 hc
      refine x_if_ne (tgt := 27) dX10_raised_22 (by decide) (fun hc => absurd hc (by decide)) (fun _ => ?_)
      refine x_iconst dX10_raised_25 (by decide) ?_
      refine x_iret dX10_raised_26 rfl (Or.inl rfl) (fun _ _ => h)
theorem wp_X10_orders_0 {x1 : Int} {M : mM} {Q : Int → mM → Prop} (h : (x1 < 0 ∨ 1 < x1 → (x1 < 10 ∨ 15 < x1 → (x1 < 20 ∨ 25 < x1 → Q (-2) M) ∧ (¬ (x1 < 20 ∨ 25 < x1) → ((M 1 0) ≤ 6 → ∃ Qc1 : Int → mM → Prop, C_ kk_X2_compare [v_P 70] M Qc1 ∧ ∀ (r2 : Int) (M3 : mM), m_ir r2 → m_okM M3 → Qc1 r2 M3 → (10 ≤ x1 → (20 ≤ x1 → (m_ir (x1 - 20)) ∧ ((x1 - 20) < (M3 1 0) → (20 ≤ x1 → (0 ≤ (x1 - 20) ∧ (x1 - 20) < 6) ∧ Q (M3 72 ((x1 - 20).toNat)) M3) ∧ (¬ 20 ≤ x1 → (0 ≤ (x1 - 20) ∧ (x1 - 20) < 6) ∧ Q (M3 71 ((x1 - 20).toNat)) M3)) ∧ (¬ (x1 - 20) < (M3 1 0) → Q (-6) M3)) ∧ (¬ 20 ≤ x1 → (m_ir (x1 - 10)) ∧ ((x1 - 10) < (M3 1 0) → (20 ≤ x1 → (0 ≤ (x1 - 10) ∧ (x1 - 10) < 6) ∧ Q (M3 72 ((x1 - 10).toNat)) M3) ∧ (¬ 20 ≤ x1 → (0 ≤ (x1 - 10) ∧ (x1 - 10) < 6) ∧ Q (M3 71 ((x1 - 10).toNat)) M3)) ∧ (¬ (x1 - 10) < (M3 1 0) → Q (-6) M3))) ∧ (¬ 10 ≤ x1 → (¬ x1 = 0 → Q (M3 70 6) M3) ∧ (x1 = 0 → Q (M3 70 5) M3))) ∧ (¬ (M 1 0) ≤ 6 → Q (-3) M))) ∧ (¬ (x1 < 10 ∨ 15 < x1) → ((M 1 0) ≤ 6 → ∃ Qc14 : Int → mM → Prop, C_ kk_X2_compare [v_P 70] M Qc14 ∧ ∀ (r15 : Int) (M16 : mM), m_ir r15 → m_okM M16 → Qc14 r15 M16 → (10 ≤ x1 → (20 ≤ x1 → (m_ir (x1 - 20)) ∧ ((x1 - 20) < (M16 1 0) → (20 ≤ x1 → (0 ≤ (x1 - 20) ∧ (x1 - 20) < 6) ∧ Q (M16 72 ((x1 - 20).toNat)) M16) ∧ (¬ 20 ≤ x1 → (0 ≤ (x1 - 20) ∧ (x1 - 20) < 6) ∧ Q (M16 71 ((x1 - 20).toNat)) M16)) ∧ (¬ (x1 - 20) < (M16 1 0) → Q (-6) M16)) ∧ (¬ 20 ≤ x1 → (m_ir (x1 - 10)) ∧ ((x1 - 10) < (M16 1 0) → (20 ≤ x1 → (0 ≤ (x1 - 10) ∧ (x1 - 10) < 6) ∧ Q (M16 72 ((x1 - 10).toNat)) M16) ∧ (¬ 20 ≤ x1 → (0 ≤ (x1 - 10) ∧ (x1 - 10) < 6) ∧ Q (M16 71 ((x1 - 10).toNat)) M16)) ∧ (¬ (x1 - 10) < (M16 1 0) → Q (-6) M16))) ∧ (¬ 10 ≤ x1 → (¬ x1 = 0 → Q (M16 70 6) M16) ∧ (x1 = 0 → Q (M16 70 5) M16))) ∧ (¬ (M 1 0) ≤ 6 → Q (-3) M))) ∧ (¬ (x1 < 0 ∨ 1 < x1) → ((M 1 0) ≤ 6 → ∃ Qc27 : Int → mM → Prop, C_ kk_X2_compare [v_P 70] M Qc27 ∧ ∀ (r28 : Int) (M29 : mM), m_ir r28 → m_okM M29 → Qc27 r28 M29 → (10 ≤ x1 → (20 ≤ x1 → (m_ir (x1 - 20)) ∧ ((x1 - 20) < (M29 1 0) → (20 ≤ x1 → (0 ≤ (x1 - 20) ∧ (x1 - 20) < 6) ∧ Q (M29 72 ((x1 - 20).toNat)) M29) ∧ (¬ 20 ≤ x1 → (0 ≤ (x1 - 20) ∧ (x1 - 20) < 6) ∧ Q (M29 71 ((x1 - 20).toNat)) M29)) ∧ (¬ (x1 - 20) < (M29 1 0) → Q (-6) M29)) ∧ (¬ 20 ≤ x1 → (m_ir (x1 - 10)) ∧ ((x1 - 10) < (M29 1 0) → (20 ≤ x1 → (0 ≤ (x1 - 10) ∧ (x1 - 10) < 6) ∧ Q (M29 72 ((x1 - 10).toNat)) M29) ∧ (¬ 20 ≤ x1 → (0 ≤ (x1 - 10) ∧ (x1 - 10) < 6) ∧ Q (M29 71 ((x1 - 10).toNat)) M29)) ∧ (¬ (x1 - 10) < (M29 1 0) → Q (-6) M29))) ∧ (¬ 10 ≤ x1 → (¬ x1 = 0 → Q (M29 70 6) M29) ∧ (x1 = 0 → Q (M29 70 5) M29))) ∧ (¬ (M 1 0) ≤ 6 → Q (-3) M))) : X_ kk_X10_orders 0 [v_P 0, v_I x1, v_U] [] M Q := by
  refine x_iload_n dX10_orders_0 rfl rfl ?_
  refine x_iconst dX10_orders_1 (by decide) ?_
  refine x_iconst dX10_orders_2 (by decide) ?_
  refine x_isNot (st := []) dX10_orders_3 ml_X10_76 ⟨by decide, by decide⟩ (fun _ _ => Nat.le_of_ble_eq_true rfl) (fun hc => ?_) (fun hc => ?_)
  · change X_ kk_X10_orders 6 [v_P 0, v_I x1, v_U] [v_I 1] M Q
    replace h := h.1 hc
    refine x_if_eq (tgt := 34) dX10_orders_6 (by decide) (fun hc => absurd hc (by decide)) (fun _ => ?_)
    refine x_iload_n dX10_orders_9 rfl rfl ?_
    refine x_bipush dX10_orders_10 (by decide) (by decide) ?_
    refine x_bipush dX10_orders_12 (by decide) (by decide) ?_
    refine x_isNot (st := []) dX10_orders_14 ml_X10_76 ⟨by decide, by decide⟩ (fun _ _ => Nat.le_of_ble_eq_true rfl) (fun hc => ?_) (fun hc => ?_)
    · change X_ kk_X10_orders 17 [v_P 0, v_I x1, v_U] [v_I 1] M Q
      replace h := h.1 hc
      refine x_if_eq (tgt := 34) dX10_orders_17 (by decide) (fun hc => absurd hc (by decide)) (fun _ => ?_)
      refine x_iload_n dX10_orders_20 rfl rfl ?_
      refine x_bipush dX10_orders_21 (by decide) (by decide) ?_
      refine x_bipush dX10_orders_23 (by decide) (by decide) ?_
      refine x_isNot (st := []) dX10_orders_25 ml_X10_76 ⟨by decide, by decide⟩ (fun _ _ => Nat.le_of_ble_eq_true rfl) (fun hc => ?_) (fun hc => ?_)
      · change X_ kk_X10_orders 28 [v_P 0, v_I x1, v_U] [v_I 1] M Q
        replace h := h.1 hc
        refine x_if_eq (tgt := 34) dX10_orders_28 (by decide) (fun hc => absurd hc (by decide)) (fun _ => ?_)
        refine x_bipush dX10_orders_31 (by decide) (by decide) ?_
        refine x_iret dX10_orders_33 rfl (Or.inl rfl) (fun _ _ => h)
      · change X_ kk_X10_orders 28 [v_P 0, v_I x1, v_U] [v_I 0] M Q
        replace h := h.2 hc
        refine x_if_eq (tgt := 34) dX10_orders_28 (by decide) (fun _ => ?_) (fun hc => absurd hc (by decide))
        refine x_aload_n dX10_orders_34 rfl rfl ?_
        refine y_getP dX10_orders_35 sh_0 cf_X10 fl_X10_10 (by decide) (by decide) gg_0_0 ?_
        refine x_getI dX10_orders_38 sh_1 cf_X6 fl_X10_80 (by decide) (by decide) ?_
        refine x_bipush dX10_orders_41 (by decide) (by decide) ?_
        refine x_ic_le (tgt := 49) dX10_orders_43 (by decide) (fun hc => ?_) (fun hc => ?_)
        · replace h := h.1 hc
          refine x_aload_n dX10_orders_49 rfl rfl ?_
          refine y_getP dX10_orders_50 sh_0 cf_X10 fl_X10_54 (by decide) (by decide) gg_0_6 ?_
          obtain ⟨Qc1, hc4, h⟩ := h
          refine x_callV (as := []) (st := []) (Qc := Qc1) dX10_orders_53 mt_X2_compare ml_X10_221 ⟨by decide, by decide⟩ sh_70 rfl (fun _ _ => Nat.le_of_ble_eq_true rfl) hc4 (fun r2 M3 hr5 hM6 hq7 => ?_)
          replace h := h r2 M3 hr5 hM6 hq7
          change X_ kk_X10_orders 56 [v_P 0, v_I x1, v_U] [] M3 Q
          refine x_iload_n dX10_orders_56 rfl rfl ?_
          refine x_bipush dX10_orders_57 (by decide) (by decide) ?_
          refine x_ic_ge (tgt := 84) dX10_orders_59 (by decide) (fun hc => ?_) (fun hc => ?_)
          · replace h := h.1 hc
            refine x_iload_n dX10_orders_84 rfl rfl ?_
            refine x_bipush dX10_orders_85 (by decide) (by decide) ?_
            refine x_ic_ge (tgt := 97) dX10_orders_87 (by decide) (fun hc => ?_) (fun hc => ?_)
            · replace h := h.1 hc
              refine x_iload_n dX10_orders_97 rfl rfl ?_
              refine x_bipush dX10_orders_98 (by decide) (by decide) ?_
              obtain ⟨s8, h⟩ := h
              refine x_isub dX10_orders_100 s8 ?_
              refine y_istore_n (ls' := [v_P 0, v_I x1, v_I (x1 - 20)]) dX10_orders_101 rfl (by decide) rfl ?_
              refine x_iload_n dX10_orders_102 rfl rfl ?_
              refine x_aload_n dX10_orders_103 rfl rfl ?_
              refine y_getP dX10_orders_104 sh_0 cf_X10 fl_X10_10 (by decide) (by decide) gg_0_0 ?_
              refine x_getI dX10_orders_107 sh_1 cf_X6 fl_X10_80 (by decide) (by decide) ?_
              refine x_ic_lt (tgt := 116) dX10_orders_110 (by decide) (fun hc => ?_) (fun hc => ?_)
              · replace h := h.1 hc
                refine x_iload_n dX10_orders_116 rfl rfl ?_
                refine x_bipush dX10_orders_117 (by decide) (by decide) ?_
                refine x_ic_ge (tgt := 134) dX10_orders_119 (by decide) (fun hc => ?_) (fun hc => ?_)
                · replace h := h.1 hc
                  refine x_aload_n dX10_orders_134 rfl rfl ?_
                  refine y_getP dX10_orders_135 sh_0 cf_X10 fl_X10_54 (by decide) (by decide) gg_0_6 ?_
                  refine y_getP dX10_orders_138 sh_70 cf_X2 fl_X10_232 (by decide) (by decide) gg_70_3 ?_
                  refine x_iload_n dX10_orders_141 rfl rfl ?_
                  obtain ⟨s9, h⟩ := h
                  refine x_iald dX10_orders_142 sh_72 s9 ?_
                  refine x_iret dX10_orders_143 rfl (Or.inl rfl) (fun _ _ => h)
                · replace h := h.2 hc
                  refine x_aload_n dX10_orders_122 rfl rfl ?_
                  refine y_getP dX10_orders_123 sh_0 cf_X10 fl_X10_54 (by decide) (by decide) gg_0_6 ?_
                  refine y_getP dX10_orders_126 sh_70 cf_X2 fl_X10_229 (by decide) (by decide) gg_70_2 ?_
                  refine x_iload_n dX10_orders_129 rfl rfl ?_
                  obtain ⟨s10, h⟩ := h
                  refine x_iald dX10_orders_130 sh_71 s10 ?_
                  refine x_goto (tgt := 143) dX10_orders_131 (by decide) ?_
                  refine x_iret dX10_orders_143 rfl (Or.inl rfl) (fun _ _ => h)
              · replace h := h.2 hc
                refine x_bipush dX10_orders_113 (by decide) (by decide) ?_
                refine x_iret dX10_orders_115 rfl (Or.inl rfl) (fun _ _ => h)
            · replace h := h.2 hc
              refine x_iload_n dX10_orders_90 rfl rfl ?_
              refine x_bipush dX10_orders_91 (by decide) (by decide) ?_
              obtain ⟨s11, h⟩ := h
              refine x_isub dX10_orders_93 s11 ?_
              refine x_goto (tgt := 101) dX10_orders_94 (by decide) ?_
              refine y_istore_n (ls' := [v_P 0, v_I x1, v_I (x1 - 10)]) dX10_orders_101 rfl (by decide) rfl ?_
              refine x_iload_n dX10_orders_102 rfl rfl ?_
              refine x_aload_n dX10_orders_103 rfl rfl ?_
              refine y_getP dX10_orders_104 sh_0 cf_X10 fl_X10_10 (by decide) (by decide) gg_0_0 ?_
              refine x_getI dX10_orders_107 sh_1 cf_X6 fl_X10_80 (by decide) (by decide) ?_
              refine x_ic_lt (tgt := 116) dX10_orders_110 (by decide) (fun hc => ?_) (fun hc => ?_)
              · replace h := h.1 hc
                refine x_iload_n dX10_orders_116 rfl rfl ?_
                refine x_bipush dX10_orders_117 (by decide) (by decide) ?_
                refine x_ic_ge (tgt := 134) dX10_orders_119 (by decide) (fun hc => ?_) (fun hc => ?_)
                · replace h := h.1 hc
                  refine x_aload_n dX10_orders_134 rfl rfl ?_
                  refine y_getP dX10_orders_135 sh_0 cf_X10 fl_X10_54 (by decide) (by decide) gg_0_6 ?_
                  refine y_getP dX10_orders_138 sh_70 cf_X2 fl_X10_232 (by decide) (by decide) gg_70_3 ?_
                  refine x_iload_n dX10_orders_141 rfl rfl ?_
                  obtain ⟨s12, h⟩ := h
                  refine x_iald dX10_orders_142 sh_72 s12 ?_
                  refine x_iret dX10_orders_143 rfl (Or.inl rfl) (fun _ _ => h)
                · replace h := h.2 hc
                  refine x_aload_n dX10_orders_122 rfl rfl ?_
                  refine y_getP dX10_orders_123 sh_0 cf_X10 fl_X10_54 (by decide) (by decide) gg_0_6 ?_
                  refine y_getP dX10_orders_126 sh_70 cf_X2 fl_X10_229 (by decide) (by decide) gg_70_2 ?_
                  refine x_iload_n dX10_orders_129 rfl rfl ?_
                  obtain ⟨s13, h⟩ := h
                  refine x_iald dX10_orders_130 sh_71 s13 ?_
                  refine x_goto (tgt := 143) dX10_orders_131 (by decide) ?_
                  refine x_iret dX10_orders_143 rfl (Or.inl rfl) (fun _ _ => h)
              · replace h := h.2 hc
                refine x_bipush dX10_orders_113 (by decide) (by decide) ?_
                refine x_iret dX10_orders_115 rfl (Or.inl rfl) (fun _ _ => h)
          · replace h := h.2 hc
            refine x_iload_n dX10_orders_62 rfl rfl ?_
            refine x_if_ne (tgt := 76) dX10_orders_63 (by decide) (fun hc => ?_) (fun hc => ?_)
            · replace h := h.1 hc
              refine x_aload_n dX10_orders_76 rfl rfl ?_
              refine y_getP dX10_orders_77 sh_0 cf_X10 fl_X10_54 (by decide) (by decide) gg_0_6 ?_
              refine x_getI dX10_orders_80 sh_70 cf_X2 fl_X10_226 (by decide) (by decide) ?_
              refine x_iret dX10_orders_83 rfl (Or.inl rfl) (fun _ _ => h)
            · replace h := h.2 hc
              refine x_aload_n dX10_orders_66 rfl rfl ?_
              refine y_getP dX10_orders_67 sh_0 cf_X10 fl_X10_54 (by decide) (by decide) gg_0_6 ?_
              refine x_getI dX10_orders_70 sh_70 cf_X2 fl_X10_224 (by decide) (by decide) ?_
              refine x_goto (tgt := 83) dX10_orders_73 (by decide) ?_
              refine x_iret dX10_orders_83 rfl (Or.inl rfl) (fun _ _ => h)
        · replace h := h.2 hc
          refine x_bipush dX10_orders_46 (by decide) (by decide) ?_
          refine x_iret dX10_orders_48 rfl (Or.inl rfl) (fun _ _ => h)
    · change X_ kk_X10_orders 17 [v_P 0, v_I x1, v_U] [v_I 0] M Q
      replace h := h.2 hc
      refine x_if_eq (tgt := 34) dX10_orders_17 (by decide) (fun _ => ?_) (fun hc => absurd hc (by decide))
      refine x_aload_n dX10_orders_34 rfl rfl ?_
      refine y_getP dX10_orders_35 sh_0 cf_X10 fl_X10_10 (by decide) (by decide) gg_0_0 ?_
      refine x_getI dX10_orders_38 sh_1 cf_X6 fl_X10_80 (by decide) (by decide) ?_
      refine x_bipush dX10_orders_41 (by decide) (by decide) ?_
      refine x_ic_le (tgt := 49) dX10_orders_43 (by decide) (fun hc => ?_) (fun hc => ?_)
      · replace h := h.1 hc
        refine x_aload_n dX10_orders_49 rfl rfl ?_
        refine y_getP dX10_orders_50 sh_0 cf_X10 fl_X10_54 (by decide) (by decide) gg_0_6 ?_
        obtain ⟨Qc14, hc17, h⟩ := h
        refine x_callV (as := []) (st := []) (Qc := Qc14) dX10_orders_53 mt_X2_compare ml_X10_221 ⟨by decide, by decide⟩ sh_70 rfl (fun _ _ => Nat.le_of_ble_eq_true rfl) hc17 (fun r15 M16 hr18 hM19 hq20 => ?_)
        replace h := h r15 M16 hr18 hM19 hq20
        change X_ kk_X10_orders 56 [v_P 0, v_I x1, v_U] [] M16 Q
        refine x_iload_n dX10_orders_56 rfl rfl ?_
        refine x_bipush dX10_orders_57 (by decide) (by decide) ?_
        refine x_ic_ge (tgt := 84) dX10_orders_59 (by decide) (fun hc => ?_) (fun hc => ?_)
        · replace h := h.1 hc
          refine x_iload_n dX10_orders_84 rfl rfl ?_
          refine x_bipush dX10_orders_85 (by decide) (by decide) ?_
          refine x_ic_ge (tgt := 97) dX10_orders_87 (by decide) (fun hc => ?_) (fun hc => ?_)
          · replace h := h.1 hc
            refine x_iload_n dX10_orders_97 rfl rfl ?_
            refine x_bipush dX10_orders_98 (by decide) (by decide) ?_
            obtain ⟨s21, h⟩ := h
            refine x_isub dX10_orders_100 s21 ?_
            refine y_istore_n (ls' := [v_P 0, v_I x1, v_I (x1 - 20)]) dX10_orders_101 rfl (by decide) rfl ?_
            refine x_iload_n dX10_orders_102 rfl rfl ?_
            refine x_aload_n dX10_orders_103 rfl rfl ?_
            refine y_getP dX10_orders_104 sh_0 cf_X10 fl_X10_10 (by decide) (by decide) gg_0_0 ?_
            refine x_getI dX10_orders_107 sh_1 cf_X6 fl_X10_80 (by decide) (by decide) ?_
            refine x_ic_lt (tgt := 116) dX10_orders_110 (by decide) (fun hc => ?_) (fun hc => ?_)
            · replace h := h.1 hc
              refine x_iload_n dX10_orders_116 rfl rfl ?_
              refine x_bipush dX10_orders_117 (by decide) (by decide) ?_
              refine x_ic_ge (tgt := 134) dX10_orders_119 (by decide) (fun hc => ?_) (fun hc => ?_)
              · replace h := h.1 hc
                refine x_aload_n dX10_orders_134 rfl rfl ?_
                refine y_getP dX10_orders_135 sh_0 cf_X10 fl_X10_54 (by decide) (by decide) gg_0_6 ?_
                refine y_getP dX10_orders_138 sh_70 cf_X2 fl_X10_232 (by decide) (by decide) gg_70_3 ?_
                refine x_iload_n dX10_orders_141 rfl rfl ?_
                obtain ⟨s22, h⟩ := h
                refine x_iald dX10_orders_142 sh_72 s22 ?_
                refine x_iret dX10_orders_143 rfl (Or.inl rfl) (fun _ _ => h)
              · replace h := h.2 hc
                refine x_aload_n dX10_orders_122 rfl rfl ?_
                refine y_getP dX10_orders_123 sh_0 cf_X10 fl_X10_54 (by decide) (by decide) gg_0_6 ?_
                refine y_getP dX10_orders_126 sh_70 cf_X2 fl_X10_229 (by decide) (by decide) gg_70_2 ?_
                refine x_iload_n dX10_orders_129 rfl rfl ?_
                obtain ⟨s23, h⟩ := h
                refine x_iald dX10_orders_130 sh_71 s23 ?_
                refine x_goto (tgt := 143) dX10_orders_131 (by decide) ?_
                refine x_iret dX10_orders_143 rfl (Or.inl rfl) (fun _ _ => h)
            · replace h := h.2 hc
              refine x_bipush dX10_orders_113 (by decide) (by decide) ?_
              refine x_iret dX10_orders_115 rfl (Or.inl rfl) (fun _ _ => h)
          · replace h := h.2 hc
            refine x_iload_n dX10_orders_90 rfl rfl ?_
            refine x_bipush dX10_orders_91 (by decide) (by decide) ?_
            obtain ⟨s24, h⟩ := h
            refine x_isub dX10_orders_93 s24 ?_
            refine x_goto (tgt := 101) dX10_orders_94 (by decide) ?_
            refine y_istore_n (ls' := [v_P 0, v_I x1, v_I (x1 - 10)]) dX10_orders_101 rfl (by decide) rfl ?_
            refine x_iload_n dX10_orders_102 rfl rfl ?_
            refine x_aload_n dX10_orders_103 rfl rfl ?_
            refine y_getP dX10_orders_104 sh_0 cf_X10 fl_X10_10 (by decide) (by decide) gg_0_0 ?_
            refine x_getI dX10_orders_107 sh_1 cf_X6 fl_X10_80 (by decide) (by decide) ?_
            refine x_ic_lt (tgt := 116) dX10_orders_110 (by decide) (fun hc => ?_) (fun hc => ?_)
            · replace h := h.1 hc
              refine x_iload_n dX10_orders_116 rfl rfl ?_
              refine x_bipush dX10_orders_117 (by decide) (by decide) ?_
              refine x_ic_ge (tgt := 134) dX10_orders_119 (by decide) (fun hc => ?_) (fun hc => ?_)
              · replace h := h.1 hc
                refine x_aload_n dX10_orders_134 rfl rfl ?_
                refine y_getP dX10_orders_135 sh_0 cf_X10 fl_X10_54 (by decide) (by decide) gg_0_6 ?_
                refine y_getP dX10_orders_138 sh_70 cf_X2 fl_X10_232 (by decide) (by decide) gg_70_3 ?_
                refine x_iload_n dX10_orders_141 rfl rfl ?_
                obtain ⟨s25, h⟩ := h
                refine x_iald dX10_orders_142 sh_72 s25 ?_
                refine x_iret dX10_orders_143 rfl (Or.inl rfl) (fun _ _ => h)
              · replace h := h.2 hc
                refine x_aload_n dX10_orders_122 rfl rfl ?_
                refine y_getP dX10_orders_123 sh_0 cf_X10 fl_X10_54 (by decide) (by decide) gg_0_6 ?_
                refine y_getP dX10_orders_126 sh_70 cf_X2 fl_X10_229 (by decide) (by decide) gg_70_2 ?_
                refine x_iload_n dX10_orders_129 rfl rfl ?_
                obtain ⟨s26, h⟩ := h
                refine x_iald dX10_orders_130 sh_71 s26 ?_
                refine x_goto (tgt := 143) dX10_orders_131 (by decide) ?_
                refine x_iret dX10_orders_143 rfl (Or.inl rfl) (fun _ _ => h)
            · replace h := h.2 hc
              refine x_bipush dX10_orders_113 (by decide) (by decide) ?_
              refine x_iret dX10_orders_115 rfl (Or.inl rfl) (fun _ _ => h)
        · replace h := h.2 hc
          refine x_iload_n dX10_orders_62 rfl rfl ?_
          refine x_if_ne (tgt := 76) dX10_orders_63 (by decide) (fun hc => ?_) (fun hc => ?_)
          · replace h := h.1 hc
            refine x_aload_n dX10_orders_76 rfl rfl ?_
            refine y_getP dX10_orders_77 sh_0 cf_X10 fl_X10_54 (by decide) (by decide) gg_0_6 ?_
            refine x_getI dX10_orders_80 sh_70 cf_X2 fl_X10_226 (by decide) (by decide) ?_
            refine x_iret dX10_orders_83 rfl (Or.inl rfl) (fun _ _ => h)
          · replace h := h.2 hc
            refine x_aload_n dX10_orders_66 rfl rfl ?_
            refine y_getP dX10_orders_67 sh_0 cf_X10 fl_X10_54 (by decide) (by decide) gg_0_6 ?_
            refine x_getI dX10_orders_70 sh_70 cf_X2 fl_X10_224 (by decide) (by decide) ?_
            refine x_goto (tgt := 83) dX10_orders_73 (by decide) ?_
            refine x_iret dX10_orders_83 rfl (Or.inl rfl) (fun _ _ => h)
      · replace h := h.2 hc
        refine x_bipush dX10_orders_46 (by decide) (by decide) ?_
        refine x_iret dX10_orders_48 rfl (Or.inl rfl) (fun _ _ => h)
  · change X_ kk_X10_orders 6 [v_P 0, v_I x1, v_U] [v_I 0] M Q
    replace h := h.2 hc
    refine x_if_eq (tgt := 34) dX10_orders_6 (by decide) (fun _ => ?_) (fun hc => absurd hc (by decide))
    refine x_aload_n dX10_orders_34 rfl rfl ?_
    refine y_getP dX10_orders_35 sh_0 cf_X10 fl_X10_10 (by decide) (by decide) gg_0_0 ?_
    refine x_getI dX10_orders_38 sh_1 cf_X6 fl_X10_80 (by decide) (by decide) ?_
    refine x_bipush dX10_orders_41 (by decide) (by decide) ?_
    refine x_ic_le (tgt := 49) dX10_orders_43 (by decide) (fun hc => ?_) (fun hc => ?_)
    · replace h := h.1 hc
      refine x_aload_n dX10_orders_49 rfl rfl ?_
      refine y_getP dX10_orders_50 sh_0 cf_X10 fl_X10_54 (by decide) (by decide) gg_0_6 ?_
      obtain ⟨Qc27, hc30, h⟩ := h
      refine x_callV (as := []) (st := []) (Qc := Qc27) dX10_orders_53 mt_X2_compare ml_X10_221 ⟨by decide, by decide⟩ sh_70 rfl (fun _ _ => Nat.le_of_ble_eq_true rfl) hc30 (fun r28 M29 hr31 hM32 hq33 => ?_)
      replace h := h r28 M29 hr31 hM32 hq33
      change X_ kk_X10_orders 56 [v_P 0, v_I x1, v_U] [] M29 Q
      refine x_iload_n dX10_orders_56 rfl rfl ?_
      refine x_bipush dX10_orders_57 (by decide) (by decide) ?_
      refine x_ic_ge (tgt := 84) dX10_orders_59 (by decide) (fun hc => ?_) (fun hc => ?_)
      · replace h := h.1 hc
        refine x_iload_n dX10_orders_84 rfl rfl ?_
        refine x_bipush dX10_orders_85 (by decide) (by decide) ?_
        refine x_ic_ge (tgt := 97) dX10_orders_87 (by decide) (fun hc => ?_) (fun hc => ?_)
        · replace h := h.1 hc
          refine x_iload_n dX10_orders_97 rfl rfl ?_
          refine x_bipush dX10_orders_98 (by decide) (by decide) ?_
          obtain ⟨s34, h⟩ := h
          refine x_isub dX10_orders_100 s34 ?_
          refine y_istore_n (ls' := [v_P 0, v_I x1, v_I (x1 - 20)]) dX10_orders_101 rfl (by decide) rfl ?_
          refine x_iload_n dX10_orders_102 rfl rfl ?_
          refine x_aload_n dX10_orders_103 rfl rfl ?_
          refine y_getP dX10_orders_104 sh_0 cf_X10 fl_X10_10 (by decide) (by decide) gg_0_0 ?_
          refine x_getI dX10_orders_107 sh_1 cf_X6 fl_X10_80 (by decide) (by decide) ?_
          refine x_ic_lt (tgt := 116) dX10_orders_110 (by decide) (fun hc => ?_) (fun hc => ?_)
          · replace h := h.1 hc
            refine x_iload_n dX10_orders_116 rfl rfl ?_
            refine x_bipush dX10_orders_117 (by decide) (by decide) ?_
            refine x_ic_ge (tgt := 134) dX10_orders_119 (by decide) (fun hc => ?_) (fun hc => ?_)
            · replace h := h.1 hc
              refine x_aload_n dX10_orders_134 rfl rfl ?_
              refine y_getP dX10_orders_135 sh_0 cf_X10 fl_X10_54 (by decide) (by decide) gg_0_6 ?_
              refine y_getP dX10_orders_138 sh_70 cf_X2 fl_X10_232 (by decide) (by decide) gg_70_3 ?_
              refine x_iload_n dX10_orders_141 rfl rfl ?_
              obtain ⟨s35, h⟩ := h
              refine x_iald dX10_orders_142 sh_72 s35 ?_
              refine x_iret dX10_orders_143 rfl (Or.inl rfl) (fun _ _ => h)
            · replace h := h.2 hc
              refine x_aload_n dX10_orders_122 rfl rfl ?_
              refine y_getP dX10_orders_123 sh_0 cf_X10 fl_X10_54 (by decide) (by decide) gg_0_6 ?_
              refine y_getP dX10_orders_126 sh_70 cf_X2 fl_X10_229 (by decide) (by decide) gg_70_2 ?_
              refine x_iload_n dX10_orders_129 rfl rfl ?_
              obtain ⟨s36, h⟩ := h
              refine x_iald dX10_orders_130 sh_71 s36 ?_
              refine x_goto (tgt := 143) dX10_orders_131 (by decide) ?_
              refine x_iret dX10_orders_143 rfl (Or.inl rfl) (fun _ _ => h)
          · replace h := h.2 hc
            refine x_bipush dX10_orders_113 (by decide) (by decide) ?_
            refine x_iret dX10_orders_115 rfl (Or.inl rfl) (fun _ _ => h)
        · replace h := h.2 hc
          refine x_iload_n dX10_orders_90 rfl rfl ?_
          refine x_bipush dX10_orders_91 (by decide) (by decide) ?_
          obtain ⟨s37, h⟩ := h
          refine x_isub dX10_orders_93 s37 ?_
          refine x_goto (tgt := 101) dX10_orders_94 (by decide) ?_
          refine y_istore_n (ls' := [v_P 0, v_I x1, v_I (x1 - 10)]) dX10_orders_101 rfl (by decide) rfl ?_
          refine x_iload_n dX10_orders_102 rfl rfl ?_
          refine x_aload_n dX10_orders_103 rfl rfl ?_
          refine y_getP dX10_orders_104 sh_0 cf_X10 fl_X10_10 (by decide) (by decide) gg_0_0 ?_
          refine x_getI dX10_orders_107 sh_1 cf_X6 fl_X10_80 (by decide) (by decide) ?_
          refine x_ic_lt (tgt := 116) dX10_orders_110 (by decide) (fun hc => ?_) (fun hc => ?_)
          · replace h := h.1 hc
            refine x_iload_n dX10_orders_116 rfl rfl ?_
            refine x_bipush dX10_orders_117 (by decide) (by decide) ?_
            refine x_ic_ge (tgt := 134) dX10_orders_119 (by decide) (fun hc => ?_) (fun hc => ?_)
            · replace h := h.1 hc
              refine x_aload_n dX10_orders_134 rfl rfl ?_
              refine y_getP dX10_orders_135 sh_0 cf_X10 fl_X10_54 (by decide) (by decide) gg_0_6 ?_
              refine y_getP dX10_orders_138 sh_70 cf_X2 fl_X10_232 (by decide) (by decide) gg_70_3 ?_
              refine x_iload_n dX10_orders_141 rfl rfl ?_
              obtain ⟨s38, h⟩ := h
              refine x_iald dX10_orders_142 sh_72 s38 ?_
              refine x_iret dX10_orders_143 rfl (Or.inl rfl) (fun _ _ => h)
            · replace h := h.2 hc
              refine x_aload_n dX10_orders_122 rfl rfl ?_
              refine y_getP dX10_orders_123 sh_0 cf_X10 fl_X10_54 (by decide) (by decide) gg_0_6 ?_
              refine y_getP dX10_orders_126 sh_70 cf_X2 fl_X10_229 (by decide) (by decide) gg_70_2 ?_
              refine x_iload_n dX10_orders_129 rfl rfl ?_
              obtain ⟨s39, h⟩ := h
              refine x_iald dX10_orders_130 sh_71 s39 ?_
              refine x_goto (tgt := 143) dX10_orders_131 (by decide) ?_
              refine x_iret dX10_orders_143 rfl (Or.inl rfl) (fun _ _ => h)
          · replace h := h.2 hc
            refine x_bipush dX10_orders_113 (by decide) (by decide) ?_
            refine x_iret dX10_orders_115 rfl (Or.inl rfl) (fun _ _ => h)
      · replace h := h.2 hc
        refine x_iload_n dX10_orders_62 rfl rfl ?_
        refine x_if_ne (tgt := 76) dX10_orders_63 (by decide) (fun hc => ?_) (fun hc => ?_)
        · replace h := h.1 hc
          refine x_aload_n dX10_orders_76 rfl rfl ?_
          refine y_getP dX10_orders_77 sh_0 cf_X10 fl_X10_54 (by decide) (by decide) gg_0_6 ?_
          refine x_getI dX10_orders_80 sh_70 cf_X2 fl_X10_226 (by decide) (by decide) ?_
          refine x_iret dX10_orders_83 rfl (Or.inl rfl) (fun _ _ => h)
        · replace h := h.2 hc
          refine x_aload_n dX10_orders_66 rfl rfl ?_
          refine y_getP dX10_orders_67 sh_0 cf_X10 fl_X10_54 (by decide) (by decide) gg_0_6 ?_
          refine x_getI dX10_orders_70 sh_70 cf_X2 fl_X10_224 (by decide) (by decide) ?_
          refine x_goto (tgt := 83) dX10_orders_73 (by decide) ?_
          refine x_iret dX10_orders_83 rfl (Or.inl rfl) (fun _ _ => h)
    · replace h := h.2 hc
      refine x_bipush dX10_orders_46 (by decide) (by decide) ?_
      refine x_iret dX10_orders_48 rfl (Or.inl rfl) (fun _ _ => h)
theorem wp_X10_gain_0 {x1 : Int} {M : mM} {Q : Int → mM → Prop} (h : (0 ≤ x1 ∧ x1 < M 1 6 → ∃ Qc1 : Int → mM → Prop, C_ kk_X4_runAsItIs [v_P 30] M Qc1 ∧ ∀ (r2 : Int) (M3 : mM), m_ir r2 → m_okM M3 → Qc1 r2 M3 → ∃ Qc8 : Int → mM → Prop, C_ kk_X4_gainOf [v_P 30, v_I x1] M3 Qc8 ∧ ∀ (r9 : Int) (M10 : mM), m_ir r9 → m_okM M10 → Qc8 r9 M10 → Q r9 M10) ∧ (¬ (0 ≤ x1 ∧ x1 < M 1 6) → Q (-1000000001) M)) : X_ kk_X10_gain 0 [v_P 0, v_I x1] [] M Q := by
  refine x_aload_n dX10_gain_0 rfl rfl ?_
  refine y_getP dX10_gain_1 sh_0 cf_X10 fl_X10_10 (by decide) (by decide) gg_0_0 ?_
  refine x_iload_n dX10_gain_4 rfl rfl ?_
  refine x_hasBuyer (st := []) dX10_gain_5 ml_X10_94 ⟨by decide, by decide⟩ (fun _ _ => Nat.le_of_ble_eq_true rfl) (fun hc => ?_) (fun hc => ?_)
  · change X_ kk_X10_gain 8 [v_P 0, v_I x1] [v_I 1] M Q
    replace h := h.1 hc
    refine x_if_ne (tgt := 14) dX10_gain_8 (by decide) (fun _ => ?_) (fun hc => absurd hc (by decide))
    refine x_aload_n dX10_gain_14 rfl rfl ?_
    refine y_getP dX10_gain_15 sh_0 cf_X10 fl_X10_28 (by decide) (by decide) gg_0_2 ?_
    obtain ⟨Qc1, hc4, h⟩ := h
    refine x_callV (as := []) (st := []) (Qc := Qc1) dX10_gain_18 mt_X4_runAsItIs ml_X10_167 ⟨by decide, by decide⟩ sh_30 rfl (fun _ _ => Nat.le_of_ble_eq_true rfl) hc4 (fun r2 M3 hr5 hM6 hq7 => ?_)
    replace h := h r2 M3 hr5 hM6 hq7
    change X_ kk_X10_gain 21 [v_P 0, v_I x1] [] M3 Q
    refine x_aload_n dX10_gain_21 rfl rfl ?_
    refine y_getP dX10_gain_22 sh_0 cf_X10 fl_X10_28 (by decide) (by decide) gg_0_2 ?_
    refine x_iload_n dX10_gain_25 rfl rfl ?_
    obtain ⟨Qc8, hc11, h⟩ := h
    refine x_callV (as := [v_I x1]) (st := []) (Qc := Qc8) dX10_gain_26 mt_X4_gainOf ml_X10_236 ⟨by decide, by decide⟩ sh_30 rfl (fun _ _ => Nat.le_of_ble_eq_true rfl) hc11 (fun r9 M10 hr12 hM13 hq14 => ?_)
    replace h := h r9 M10 hr12 hM13 hq14
    change X_ kk_X10_gain 29 [v_P 0, v_I x1] [v_I r9] M10 Q
    refine x_iret dX10_gain_29 rfl (Or.inl rfl) (fun _ _ => h)
  · change X_ kk_X10_gain 8 [v_P 0, v_I x1] [v_I 0] M Q
    replace h := h.2 hc
    refine x_if_ne (tgt := 14) dX10_gain_8 (by decide) (fun hc => absurd hc (by decide)) (fun _ => ?_)
    refine x_ldc (n := (-1000000001)) dX10_gain_11 ct_X10_235 (by decide) (by decide) ?_
    refine x_iret dX10_gain_13 rfl (Or.inl rfl) (fun _ _ => h)
theorem wp_X10_cut_0 {x1 x2 : Int} {M : mM} {Q : Int → mM → Prop} (h : (0 ≤ x1 ∧ x1 < M 1 6 → (x2 < 0 ∨ 1 < x2 → Q (-1000000002) M) ∧ (¬ (x2 < 0 ∨ 1 < x2) → ∃ Qc1 : Int → mM → Prop, C_ kk_X4_gainWith [v_P 30, v_I x1, v_I 0, v_I (M 1 8)] M Qc1 ∧ ∀ (r2 : Int) (M3 : mM), m_ir r2 → m_okM M3 → Qc1 r2 M3 → X_ kk_X10_cut 49 [v_P 0, v_I x1, v_I x2, v_I 0, v_I r2, v_I 1, v_U] [] M3 Q)) ∧ (¬ (0 ≤ x1 ∧ x1 < M 1 6) → Q (-1000000001) M)) : X_ kk_X10_cut 0 [v_P 0, v_I x1, v_I x2, v_U, v_U, v_U, v_U] [] M Q := by
  refine x_aload_n dX10_cut_0 rfl rfl ?_
  refine y_getP dX10_cut_1 sh_0 cf_X10 fl_X10_10 (by decide) (by decide) gg_0_0 ?_
  refine x_iload_n dX10_cut_4 rfl rfl ?_
  refine x_hasBuyer (st := []) dX10_cut_5 ml_X10_94 ⟨by decide, by decide⟩ (fun _ _ => Nat.le_of_ble_eq_true rfl) (fun hc => ?_) (fun hc => ?_)
  · change X_ kk_X10_cut 8 [v_P 0, v_I x1, v_I x2, v_U, v_U, v_U, v_U] [v_I 1] M Q
    replace h := h.1 hc
    refine x_if_ne (tgt := 14) dX10_cut_8 (by decide) (fun _ => ?_) (fun hc => absurd hc (by decide))
    refine x_iload_n dX10_cut_14 rfl rfl ?_
    refine x_iconst dX10_cut_15 (by decide) ?_
    refine x_iconst dX10_cut_16 (by decide) ?_
    refine x_isNot (st := []) dX10_cut_17 ml_X10_76 ⟨by decide, by decide⟩ (fun _ _ => Nat.le_of_ble_eq_true rfl) (fun hc => ?_) (fun hc => ?_)
    · change X_ kk_X10_cut 20 [v_P 0, v_I x1, v_I x2, v_U, v_U, v_U, v_U] [v_I 1] M Q
      replace h := h.1 hc
      refine x_if_eq (tgt := 26) dX10_cut_20 (by decide) (fun hc => absurd hc (by decide)) (fun _ => ?_)
      refine x_ldc (n := (-1000000002)) dX10_cut_23 ct_X10_239 (by decide) (by decide) ?_
      refine x_iret dX10_cut_25 rfl (Or.inl rfl) (fun _ _ => h)
    · change X_ kk_X10_cut 20 [v_P 0, v_I x1, v_I x2, v_U, v_U, v_U, v_U] [v_I 0] M Q
      replace h := h.2 hc
      refine x_if_eq (tgt := 26) dX10_cut_20 (by decide) (fun _ => ?_) (fun hc => absurd hc (by decide))
      refine x_iconst dX10_cut_26 (by decide) ?_
      refine y_istore_n (ls' := [v_P 0, v_I x1, v_I x2, v_I 0, v_U, v_U, v_U]) dX10_cut_27 rfl (by decide) rfl ?_
      refine x_aload_n dX10_cut_28 rfl rfl ?_
      refine y_getP dX10_cut_29 sh_0 cf_X10 fl_X10_28 (by decide) (by decide) gg_0_2 ?_
      refine x_iload_n dX10_cut_32 rfl rfl ?_
      refine x_iconst dX10_cut_33 (by decide) ?_
      refine x_aload_n dX10_cut_34 rfl rfl ?_
      refine y_getP dX10_cut_35 sh_0 cf_X10 fl_X10_10 (by decide) (by decide) gg_0_0 ?_
      refine x_getI dX10_cut_38 sh_1 cf_X6 fl_X10_154 (by decide) (by decide) ?_
      obtain ⟨Qc1, hc4, h⟩ := h
      refine x_callV (as := [v_I x1, v_I 0, v_I (M 1 8)]) (st := []) (Qc := Qc1) dX10_cut_41 mt_X4_gainWith ml_X10_240 ⟨by decide, by decide⟩ sh_30 rfl (fun _ _ => Nat.le_of_ble_eq_true rfl) hc4 (fun r2 M3 hr5 hM6 hq7 => ?_)
      replace h := h r2 M3 hr5 hM6 hq7
      change X_ kk_X10_cut 44 [v_P 0, v_I x1, v_I x2, v_I 0, v_U, v_U, v_U] [v_I r2] M3 Q
      refine y_istore (ls' := [v_P 0, v_I x1, v_I x2, v_I 0, v_I r2, v_U, v_U]) dX10_cut_44 (by decide) rfl ?_
      refine x_iconst dX10_cut_46 (by decide) ?_
      refine y_istore (ls' := [v_P 0, v_I x1, v_I x2, v_I 0, v_I r2, v_I 1, v_U]) dX10_cut_47 (by decide) rfl ?_
      exact h
  · change X_ kk_X10_cut 8 [v_P 0, v_I x1, v_I x2, v_U, v_U, v_U, v_U] [v_I 0] M Q
    replace h := h.2 hc
    refine x_if_ne (tgt := 14) dX10_cut_8 (by decide) (fun hc => absurd hc (by decide)) (fun _ => ?_)
    refine x_ldc (n := (-1000000001)) dX10_cut_11 ct_X10_235 (by decide) (by decide) ?_
    refine x_iret dX10_cut_13 rfl (Or.inl rfl) (fun _ _ => h)
theorem wp_X10_cut_49 {x1 x2 x3 x4 x5 : Int} {M : mM} {Q : Int → mM → Prop} (h : (99 < x5 → (¬ x2 = 0 → Q x4 M) ∧ (x2 = 0 → Q x3 M)) ∧ (¬ 99 < x5 → ∃ Qc1 : Int → mM → Prop, C_ kk_X4_gainWith [v_P 30, v_I x1, v_I x5, v_I (M 1 8)] M Qc1 ∧ ∀ (r2 : Int) (M3 : mM), m_ir r2 → m_okM M3 → Qc1 r2 M3 → (r2 ≤ x4 → (m_ir (x5 + 1)) ∧ X_ kk_X10_cut 49 [v_P 0, v_I x1, v_I x2, v_I x3, v_I x4, v_I (x5 + 1), v_U] [] M3 Q) ∧ (¬ r2 ≤ x4 → (m_ir (x5 + 1)) ∧ X_ kk_X10_cut 49 [v_P 0, v_I x1, v_I x2, v_I x5, v_I r2, v_I (x5 + 1), v_U] [] M3 Q))) : X_ kk_X10_cut 49 [v_P 0, v_I x1, v_I x2, v_I x3, v_I x4, v_I x5, v_U] [] M Q := by
  refine x_iload dX10_cut_49 rfl ?_
  refine x_bipush dX10_cut_51 (by decide) (by decide) ?_
  refine x_ic_gt (tgt := 95) dX10_cut_53 (by decide) (fun hc => ?_) (fun hc => ?_)
  · replace h := h.1 hc
    refine x_iload_n dX10_cut_95 rfl rfl ?_
    refine x_if_ne (tgt := 103) dX10_cut_96 (by decide) (fun hc => ?_) (fun hc => ?_)
    · replace h := h.1 hc
      refine x_iload dX10_cut_103 rfl ?_
      refine x_iret dX10_cut_105 rfl (Or.inl rfl) (fun _ _ => h)
    · replace h := h.2 hc
      refine x_iload_n dX10_cut_99 rfl rfl ?_
      refine x_goto (tgt := 105) dX10_cut_100 (by decide) ?_
      refine x_iret dX10_cut_105 rfl (Or.inl rfl) (fun _ _ => h)
  · replace h := h.2 hc
    refine x_aload_n dX10_cut_56 rfl rfl ?_
    refine y_getP dX10_cut_57 sh_0 cf_X10 fl_X10_28 (by decide) (by decide) gg_0_2 ?_
    refine x_iload_n dX10_cut_60 rfl rfl ?_
    refine x_iload dX10_cut_61 rfl ?_
    refine x_aload_n dX10_cut_63 rfl rfl ?_
    refine y_getP dX10_cut_64 sh_0 cf_X10 fl_X10_10 (by decide) (by decide) gg_0_0 ?_
    refine x_getI dX10_cut_67 sh_1 cf_X6 fl_X10_154 (by decide) (by decide) ?_
    obtain ⟨Qc1, hc4, h⟩ := h
    refine x_callV (as := [v_I x1, v_I x5, v_I (M 1 8)]) (st := []) (Qc := Qc1) dX10_cut_70 mt_X4_gainWith ml_X10_240 ⟨by decide, by decide⟩ sh_30 rfl (fun _ _ => Nat.le_of_ble_eq_true rfl) hc4 (fun r2 M3 hr5 hM6 hq7 => ?_)
    replace h := h r2 M3 hr5 hM6 hq7
    change X_ kk_X10_cut 73 [v_P 0, v_I x1, v_I x2, v_I x3, v_I x4, v_I x5, v_U] [v_I r2] M3 Q
    refine y_istore (ls' := [v_P 0, v_I x1, v_I x2, v_I x3, v_I x4, v_I x5, v_I r2]) dX10_cut_73 (by decide) rfl ?_
    refine x_iload dX10_cut_75 rfl ?_
    refine x_iload dX10_cut_77 rfl ?_
    refine x_ic_le (tgt := 89) dX10_cut_79 (by decide) (fun hc => ?_) (fun hc => ?_)
    · replace h := h.1 hc
      obtain ⟨s8, h⟩ := h
      refine y_iinc (ls' := [v_P 0, v_I x1, v_I x2, v_I x3, v_I x4, v_I (x5 + 1), v_I r2]) dX10_cut_89 rfl s8 (by decide) rfl ?_
      refine x_goto (tgt := 49) dX10_cut_92 (by decide) ?_
      refine y_forget 6 (ls' := [v_P 0, v_I x1, v_I x2, v_I x3, v_I x4, v_I (x5 + 1), v_U]) rfl ?_
      exact h
    · replace h := h.2 hc
      refine x_iload dX10_cut_82 rfl ?_
      refine y_istore (ls' := [v_P 0, v_I x1, v_I x2, v_I x3, v_I r2, v_I x5, v_I r2]) dX10_cut_84 (by decide) rfl ?_
      refine x_iload dX10_cut_86 rfl ?_
      refine y_istore_n (ls' := [v_P 0, v_I x1, v_I x2, v_I x5, v_I r2, v_I x5, v_I r2]) dX10_cut_88 rfl (by decide) rfl ?_
      obtain ⟨s9, h⟩ := h
      refine y_iinc (ls' := [v_P 0, v_I x1, v_I x2, v_I x5, v_I r2, v_I (x5 + 1), v_I r2]) dX10_cut_89 rfl s9 (by decide) rfl ?_
      refine x_goto (tgt := 49) dX10_cut_92 (by decide) ?_
      refine y_forget 6 (ls' := [v_P 0, v_I x1, v_I x2, v_I x5, v_I r2, v_I (x5 + 1), v_U]) rfl ?_
      exact h
theorem wp_X10_broken_0 {x1 : Int} {M : mM} {Q : Int → mM → Prop} (h : (x1 < 0 ∨ 1 < x1 → Q (-2) M) ∧ (¬ (x1 < 0 ∨ 1 < x1) → ∃ Qc1 : Int → mM → Prop, C_ kk_X6_alternatives [v_P 1] M Qc1 ∧ ∀ (r2 : Int) (M3 : mM), m_ir r2 → m_okM M3 → Qc1 r2 M3 → (r2 ≤ 8 → ∃ Qc8 : Int → mM → Prop, C_ kk_X0_find [v_P 74] M3 Qc8 ∧ ∀ (r9 : Int) (M10 : mM), m_ir r9 → m_okM M10 → Qc8 r9 M10 → (¬ x1 = 0 → ∃ Qc15 : Int → mM → Prop, C_ kk_J6_bitCount_0f7a4 [v_I (M10 74 3)] M10 Qc15 ∧ ∀ (r16 : Int) (M17 : mM), m_ir r16 → m_okM M17 → Qc15 r16 M17 → Q r16 M17) ∧ (x1 = 0 → Q (M10 74 3) M10)) ∧ (¬ r2 ≤ 8 → Q (-3) M3))) : X_ kk_X10_broken 0 [v_P 0, v_I x1] [] M Q := by
  refine x_iload_n dX10_broken_0 rfl rfl ?_
  refine x_iconst dX10_broken_1 (by decide) ?_
  refine x_iconst dX10_broken_2 (by decide) ?_
  refine x_isNot (st := []) dX10_broken_3 ml_X10_76 ⟨by decide, by decide⟩ (fun _ _ => Nat.le_of_ble_eq_true rfl) (fun hc => ?_) (fun hc => ?_)
  · change X_ kk_X10_broken 6 [v_P 0, v_I x1] [v_I 1] M Q
    replace h := h.1 hc
    refine x_if_eq (tgt := 12) dX10_broken_6 (by decide) (fun hc => absurd hc (by decide)) (fun _ => ?_)
    refine x_bipush dX10_broken_9 (by decide) (by decide) ?_
    refine x_iret dX10_broken_11 rfl (Or.inl rfl) (fun _ _ => h)
  · change X_ kk_X10_broken 6 [v_P 0, v_I x1] [v_I 0] M Q
    replace h := h.2 hc
    refine x_if_eq (tgt := 12) dX10_broken_6 (by decide) (fun _ => ?_) (fun hc => absurd hc (by decide))
    refine x_aload_n dX10_broken_12 rfl rfl ?_
    refine y_getP dX10_broken_13 sh_0 cf_X10 fl_X10_10 (by decide) (by decide) gg_0_0 ?_
    obtain ⟨Qc1, hc4, h⟩ := h
    refine x_callV (as := []) (st := []) (Qc := Qc1) dX10_broken_16 mt_X6_alternatives ml_X10_243 ⟨by decide, by decide⟩ sh_1 rfl (fun _ _ => Nat.le_of_ble_eq_true rfl) hc4 (fun r2 M3 hr5 hM6 hq7 => ?_)
    replace h := h r2 M3 hr5 hM6 hq7
    change X_ kk_X10_broken 19 [v_P 0, v_I x1] [v_I r2] M3 Q
    refine x_bipush dX10_broken_19 (by decide) (by decide) ?_
    refine x_ic_le (tgt := 27) dX10_broken_21 (by decide) (fun hc => ?_) (fun hc => ?_)
    · replace h := h.1 hc
      refine x_aload_n dX10_broken_27 rfl rfl ?_
      refine y_getP dX10_broken_28 sh_0 cf_X10 fl_X10_63 (by decide) (by decide) gg_0_7 ?_
      obtain ⟨Qc8, hc11, h⟩ := h
      refine x_callV (as := []) (st := []) (Qc := Qc8) dX10_broken_31 mt_X0_find ml_X10_245 ⟨by decide, by decide⟩ sh_74 rfl (fun _ _ => Nat.le_of_ble_eq_true rfl) hc11 (fun r9 M10 hr12 hM13 hq14 => ?_)
      replace h := h r9 M10 hr12 hM13 hq14
      change X_ kk_X10_broken 34 [v_P 0, v_I x1] [] M10 Q
      refine x_iload_n dX10_broken_34 rfl rfl ?_
      refine x_if_ne (tgt := 48) dX10_broken_35 (by decide) (fun hc => ?_) (fun hc => ?_)
      · replace h := h.1 hc
        refine x_aload_n dX10_broken_48 rfl rfl ?_
        refine y_getP dX10_broken_49 sh_0 cf_X10 fl_X10_63 (by decide) (by decide) gg_0_7 ?_
        refine x_getI dX10_broken_52 sh_74 cf_X0 fl_X10_248 (by decide) (by decide) ?_
        obtain ⟨Qc15, hc18, h⟩ := h
        refine x_callS (as := [v_I (M10 74 3)]) (st := []) (Qc := Qc15) dX10_broken_55 mt_J6_bitCount_0f7a4 ml_X10_251 ⟨by decide, by decide⟩ (fun _ _ => Nat.le_of_ble_eq_true rfl) hc18 (fun r16 M17 hr19 hM20 hq21 => ?_)
        replace h := h r16 M17 hr19 hM20 hq21
        change X_ kk_X10_broken 58 [v_P 0, v_I x1] [v_I r16] M17 Q
        refine x_iret dX10_broken_58 rfl (Or.inl rfl) (fun _ _ => h)
      · replace h := h.2 hc
        refine x_aload_n dX10_broken_38 rfl rfl ?_
        refine y_getP dX10_broken_39 sh_0 cf_X10 fl_X10_63 (by decide) (by decide) gg_0_7 ?_
        refine x_getI dX10_broken_42 sh_74 cf_X0 fl_X10_248 (by decide) (by decide) ?_
        refine x_goto (tgt := 58) dX10_broken_45 (by decide) ?_
        refine x_iret dX10_broken_58 rfl (Or.inl rfl) (fun _ _ => h)
    · replace h := h.2 hc
      refine x_bipush dX10_broken_24 (by decide) (by decide) ?_
      refine x_iret dX10_broken_26 rfl (Or.inl rfl) (fun _ _ => h)
theorem wp_X10_lesson_0 {x1 : Int} {M : mM} {Q : Int → mM → Prop} (h : (x1 < 1 ∨ 200 < x1 → Q (-2) M) ∧ (¬ (x1 < 1 ∨ 200 < x1) → ((M 75 2) < 8 → (0 ≤ (M 75 2) ∧ (M 75 2) < 8) ∧ (m_ir ((M 75 2) + 1)) ∧ Q ((M 75 2) + 1) (m_up (m_up M 76 ((M 75 2).toNat) x1) 75 2 ((M 75 2) + 1))) ∧ (¬ (M 75 2) < 8 → Q (-4) M))) : X_ kk_X10_lesson 0 [v_P 0, v_I x1] [] M Q := by
  refine x_iload_n dX10_lesson_0 rfl rfl ?_
  refine x_iconst dX10_lesson_1 (by decide) ?_
  refine x_sipush dX10_lesson_2 (by decide) (by decide) ?_
  refine x_isNot (st := []) dX10_lesson_5 ml_X10_76 ⟨by decide, by decide⟩ (fun _ _ => Nat.le_of_ble_eq_true rfl) (fun hc => ?_) (fun hc => ?_)
  · change X_ kk_X10_lesson 8 [v_P 0, v_I x1] [v_I 1] M Q
    replace h := h.1 hc
    refine x_if_eq (tgt := 14) dX10_lesson_8 (by decide) (fun hc => absurd hc (by decide)) (fun _ => ?_)
    refine x_bipush dX10_lesson_11 (by decide) (by decide) ?_
    refine x_iret dX10_lesson_13 rfl (Or.inl rfl) (fun _ _ => h)
  · change X_ kk_X10_lesson 8 [v_P 0, v_I x1] [v_I 0] M Q
    replace h := h.2 hc
    refine x_if_eq (tgt := 14) dX10_lesson_8 (by decide) (fun _ => ?_) (fun hc => absurd hc (by decide))
    refine x_aload_n dX10_lesson_14 rfl rfl ?_
    refine y_getP dX10_lesson_15 sh_0 cf_X10 fl_X10_72 (by decide) (by decide) gg_0_8 ?_
    refine x_getI dX10_lesson_18 sh_75 cf_X7 fl_X10_256 (by decide) (by decide) ?_
    refine x_bipush dX10_lesson_21 (by decide) (by decide) ?_
    refine x_ic_lt (tgt := 29) dX10_lesson_23 (by decide) (fun hc => ?_) (fun hc => ?_)
    · replace h := h.1 hc
      refine x_aload_n dX10_lesson_29 rfl rfl ?_
      refine y_getP dX10_lesson_30 sh_0 cf_X10 fl_X10_72 (by decide) (by decide) gg_0_8 ?_
      refine y_getP dX10_lesson_33 sh_75 cf_X7 fl_X10_257 (by decide) (by decide) gg_75_1 ?_
      refine x_aload_n dX10_lesson_36 rfl rfl ?_
      refine y_getP dX10_lesson_37 sh_0 cf_X10 fl_X10_72 (by decide) (by decide) gg_0_8 ?_
      refine x_getI dX10_lesson_40 sh_75 cf_X7 fl_X10_256 (by decide) (by decide) ?_
      refine x_iload_n dX10_lesson_43 rfl rfl ?_
      obtain ⟨s1, h⟩ := h
      refine x_iast dX10_lesson_44 sh_76 s1 ?_
      refine x_aload_n dX10_lesson_45 rfl rfl ?_
      refine y_getP dX10_lesson_46 sh_0 cf_X10 fl_X10_72 (by decide) (by decide) gg_0_8 ?_
      refine x_dup dX10_lesson_49 (fun _ _ => rfl) ?_
      refine y_getI (v := (M 75 2)) dX10_lesson_50 sh_75 cf_X7 fl_X10_256 (by decide) (by decide) (m_up_ne (Or.inl (by decide))) ?_
      refine x_iconst dX10_lesson_53 (by decide) ?_
      obtain ⟨s2, h⟩ := h
      refine x_iadd dX10_lesson_54 s2 ?_
      refine x_putI dX10_lesson_55 sh_75 cf_X7 fl_X10_256 (by decide) rfl (by decide) (Or.inl rfl) ?_
      refine x_aload_n dX10_lesson_58 rfl rfl ?_
      refine y_getP dX10_lesson_59 sh_0 cf_X10 fl_X10_72 (by decide) (by decide) gg_0_8 ?_
      refine y_getI (v := ((M 75 2) + 1)) dX10_lesson_62 sh_75 cf_X7 fl_X10_256 (by decide) (by decide) (m_up_same _ _ _ _) ?_
      refine x_iret dX10_lesson_65 rfl (Or.inl rfl) (fun _ _ => h)
    · replace h := h.2 hc
      refine x_bipush dX10_lesson_26 (by decide) (by decide) ?_
      refine x_iret dX10_lesson_28 rfl (Or.inl rfl) (fun _ _ => h)
theorem wp_X10_unlearn_0 {M : mM} {Q : Int → mM → Prop} (h : Q (M 75 2) (m_up M 75 2 0)) : X_ kk_X10_unlearn 0 [v_P 0, v_U] [] M Q := by
  refine x_aload_n dX10_unlearn_0 rfl rfl ?_
  refine y_getP dX10_unlearn_1 sh_0 cf_X10 fl_X10_72 (by decide) (by decide) gg_0_8 ?_
  refine x_getI dX10_unlearn_4 sh_75 cf_X7 fl_X10_256 (by decide) (by decide) ?_
  refine y_istore_n (ls' := [v_P 0, v_I (M 75 2)]) dX10_unlearn_7 rfl (by decide) rfl ?_
  refine x_aload_n dX10_unlearn_8 rfl rfl ?_
  refine y_getP dX10_unlearn_9 sh_0 cf_X10 fl_X10_72 (by decide) (by decide) gg_0_8 ?_
  refine x_iconst dX10_unlearn_12 (by decide) ?_
  refine x_putI dX10_unlearn_13 sh_75 cf_X7 fl_X10_256 (by decide) rfl (by decide) (Or.inl rfl) ?_
  refine x_iload_n dX10_unlearn_16 rfl rfl ?_
  refine x_iret dX10_unlearn_17 rfl (Or.inl rfl) (fun _ _ => h)
theorem wp_X10_learn_0 {x1 x2 x3 : Int} {M : mM} {Q : Int → mM → Prop} (h : (0 ≤ x1 ∧ x1 < M 1 6 → (x2 < 0 ∨ 79 < x2 → Q (-1000000002) M) ∧ (¬ (x2 < 0 ∨ 79 < x2) → (x3 < 0 ∨ 2 < x3 → (x3 < 10 ∨ 17 < x3 → Q (-1000000002) M) ∧ (¬ (x3 < 10 ∨ 17 < x3) → (x3 < 10 → ∃ Qc1 : Int → mM → Prop, C_ kk_X7_follow [v_P 75, v_I x1, v_I x2] M Qc1 ∧ ∀ (r2 : Int) (M3 : mM), m_ir r2 → m_okM M3 → Qc1 r2 M3 → (x3 < 10 → ∃ Qc8 : Int → mM → Prop, C_ kk_X7_leader [v_P 75] M3 Qc8 ∧ ∀ (r9 : Int) (M10 : mM), m_ir r9 → m_okM M10 → Qc8 r9 M10 → (0 ≤ r9 ∧ r9 < 3) ∧ (¬ x3 = 0 → (¬ x3 = 1 → (m_ir ((M10 78 r9.toNat) - (M10 75 5))) ∧ Q ((M10 78 r9.toNat) - (M10 75 5)) M10) ∧ (x3 = 1 → Q (M10 78 r9.toNat) M10)) ∧ (x3 = 0 → Q (M10 75 5) M10)) ∧ (¬ x3 < 10 → (m_ir (x3 - 10)) ∧ (0 ≤ (x3 - 10) ∧ (x3 - 10) < 8) ∧ Q (M3 77 ((x3 - 10).toNat)) M3)) ∧ (¬ x3 < 10 → (m_ir (x3 - 10)) ∧ ((x3 - 10) < (M 75 2) → ∃ Qc20 : Int → mM → Prop, C_ kk_X7_follow [v_P 75, v_I x1, v_I x2] M Qc20 ∧ ∀ (r21 : Int) (M22 : mM), m_ir r21 → m_okM M22 → Qc20 r21 M22 → (x3 < 10 → ∃ Qc27 : Int → mM → Prop, C_ kk_X7_leader [v_P 75] M22 Qc27 ∧ ∀ (r28 : Int) (M29 : mM), m_ir r28 → m_okM M29 → Qc27 r28 M29 → (0 ≤ r28 ∧ r28 < 3) ∧ (¬ x3 = 0 → (¬ x3 = 1 → (m_ir ((M29 78 r28.toNat) - (M29 75 5))) ∧ Q ((M29 78 r28.toNat) - (M29 75 5)) M29) ∧ (x3 = 1 → Q (M29 78 r28.toNat) M29)) ∧ (x3 = 0 → Q (M29 75 5) M29)) ∧ (¬ x3 < 10 → (m_ir (x3 - 10)) ∧ (0 ≤ (x3 - 10) ∧ (x3 - 10) < 8) ∧ Q (M22 77 ((x3 - 10).toNat)) M22)) ∧ (¬ (x3 - 10) < (M 75 2) → Q (-6) M)))) ∧ (¬ (x3 < 0 ∨ 2 < x3) → (x3 < 10 → ∃ Qc38 : Int → mM → Prop, C_ kk_X7_follow [v_P 75, v_I x1, v_I x2] M Qc38 ∧ ∀ (r39 : Int) (M40 : mM), m_ir r39 → m_okM M40 → Qc38 r39 M40 → (x3 < 10 → ∃ Qc45 : Int → mM → Prop, C_ kk_X7_leader [v_P 75] M40 Qc45 ∧ ∀ (r46 : Int) (M47 : mM), m_ir r46 → m_okM M47 → Qc45 r46 M47 → (0 ≤ r46 ∧ r46 < 3) ∧ (¬ x3 = 0 → (¬ x3 = 1 → (m_ir ((M47 78 r46.toNat) - (M47 75 5))) ∧ Q ((M47 78 r46.toNat) - (M47 75 5)) M47) ∧ (x3 = 1 → Q (M47 78 r46.toNat) M47)) ∧ (x3 = 0 → Q (M47 75 5) M47)) ∧ (¬ x3 < 10 → (m_ir (x3 - 10)) ∧ (0 ≤ (x3 - 10) ∧ (x3 - 10) < 8) ∧ Q (M40 77 ((x3 - 10).toNat)) M40)) ∧ (¬ x3 < 10 → (m_ir (x3 - 10)) ∧ ((x3 - 10) < (M 75 2) → ∃ Qc57 : Int → mM → Prop, C_ kk_X7_follow [v_P 75, v_I x1, v_I x2] M Qc57 ∧ ∀ (r58 : Int) (M59 : mM), m_ir r58 → m_okM M59 → Qc57 r58 M59 → (x3 < 10 → ∃ Qc64 : Int → mM → Prop, C_ kk_X7_leader [v_P 75] M59 Qc64 ∧ ∀ (r65 : Int) (M66 : mM), m_ir r65 → m_okM M66 → Qc64 r65 M66 → (0 ≤ r65 ∧ r65 < 3) ∧ (¬ x3 = 0 → (¬ x3 = 1 → (m_ir ((M66 78 r65.toNat) - (M66 75 5))) ∧ Q ((M66 78 r65.toNat) - (M66 75 5)) M66) ∧ (x3 = 1 → Q (M66 78 r65.toNat) M66)) ∧ (x3 = 0 → Q (M66 75 5) M66)) ∧ (¬ x3 < 10 → (m_ir (x3 - 10)) ∧ (0 ≤ (x3 - 10) ∧ (x3 - 10) < 8) ∧ Q (M59 77 ((x3 - 10).toNat)) M59)) ∧ (¬ (x3 - 10) < (M 75 2) → Q (-6) M))))) ∧ (¬ (0 ≤ x1 ∧ x1 < M 1 6) → Q (-1000000001) M)) : X_ kk_X10_learn 0 [v_P 0, v_I x1, v_I x2, v_I x3, v_U] [] M Q := by
  refine x_aload_n dX10_learn_0 rfl rfl ?_
  refine y_getP dX10_learn_1 sh_0 cf_X10 fl_X10_10 (by decide) (by decide) gg_0_0 ?_
  refine x_iload_n dX10_learn_4 rfl rfl ?_
  refine x_hasBuyer (st := []) dX10_learn_5 ml_X10_94 ⟨by decide, by decide⟩ (fun _ _ => Nat.le_of_ble_eq_true rfl) (fun hc => ?_) (fun hc => ?_)
  · change X_ kk_X10_learn 8 [v_P 0, v_I x1, v_I x2, v_I x3, v_U] [v_I 1] M Q
    replace h := h.1 hc
    refine x_if_ne (tgt := 14) dX10_learn_8 (by decide) (fun _ => ?_) (fun hc => absurd hc (by decide))
    refine x_iload_n dX10_learn_14 rfl rfl ?_
    refine x_iconst dX10_learn_15 (by decide) ?_
    refine x_bipush dX10_learn_16 (by decide) (by decide) ?_
    refine x_isNot (st := []) dX10_learn_18 ml_X10_76 ⟨by decide, by decide⟩ (fun _ _ => Nat.le_of_ble_eq_true rfl) (fun hc => ?_) (fun hc => ?_)
    · change X_ kk_X10_learn 21 [v_P 0, v_I x1, v_I x2, v_I x3, v_U] [v_I 1] M Q
      replace h := h.1 hc
      refine x_if_ne (tgt := 44) dX10_learn_21 (by decide) (fun _ => ?_) (fun hc => absurd hc (by decide))
      refine x_ldc (n := (-1000000002)) dX10_learn_44 ct_X10_239 (by decide) (by decide) ?_
      refine x_iret dX10_learn_46 rfl (Or.inl rfl) (fun _ _ => h)
    · change X_ kk_X10_learn 21 [v_P 0, v_I x1, v_I x2, v_I x3, v_U] [v_I 0] M Q
      replace h := h.2 hc
      refine x_if_ne (tgt := 44) dX10_learn_21 (by decide) (fun hc => absurd hc (by decide)) (fun _ => ?_)
      refine x_iload_n dX10_learn_24 rfl rfl ?_
      refine x_iconst dX10_learn_25 (by decide) ?_
      refine x_iconst dX10_learn_26 (by decide) ?_
      refine x_isNot (st := []) dX10_learn_27 ml_X10_76 ⟨by decide, by decide⟩ (fun _ _ => Nat.le_of_ble_eq_true rfl) (fun hc => ?_) (fun hc => ?_)
      · change X_ kk_X10_learn 30 [v_P 0, v_I x1, v_I x2, v_I x3, v_U] [v_I 1] M Q
        replace h := h.1 hc
        refine x_if_eq (tgt := 47) dX10_learn_30 (by decide) (fun hc => absurd hc (by decide)) (fun _ => ?_)
        refine x_iload_n dX10_learn_33 rfl rfl ?_
        refine x_bipush dX10_learn_34 (by decide) (by decide) ?_
        refine x_bipush dX10_learn_36 (by decide) (by decide) ?_
        refine x_isNot (st := []) dX10_learn_38 ml_X10_76 ⟨by decide, by decide⟩ (fun _ _ => Nat.le_of_ble_eq_true rfl) (fun hc => ?_) (fun hc => ?_)
        · change X_ kk_X10_learn 41 [v_P 0, v_I x1, v_I x2, v_I x3, v_U] [v_I 1] M Q
          replace h := h.1 hc
          refine x_if_eq (tgt := 47) dX10_learn_41 (by decide) (fun hc => absurd hc (by decide)) (fun _ => ?_)
          refine x_ldc (n := (-1000000002)) dX10_learn_44 ct_X10_239 (by decide) (by decide) ?_
          refine x_iret dX10_learn_46 rfl (Or.inl rfl) (fun _ _ => h)
        · change X_ kk_X10_learn 41 [v_P 0, v_I x1, v_I x2, v_I x3, v_U] [v_I 0] M Q
          replace h := h.2 hc
          refine x_if_eq (tgt := 47) dX10_learn_41 (by decide) (fun _ => ?_) (fun hc => absurd hc (by decide))
          refine x_iload_n dX10_learn_47 rfl rfl ?_
          refine x_bipush dX10_learn_48 (by decide) (by decide) ?_
          refine x_ic_lt (tgt := 70) dX10_learn_50 (by decide) (fun hc => ?_) (fun hc => ?_)
          · replace h := h.1 hc
            refine x_aload_n dX10_learn_70 rfl rfl ?_
            refine y_getP dX10_learn_71 sh_0 cf_X10 fl_X10_72 (by decide) (by decide) gg_0_8 ?_
            refine x_iload_n dX10_learn_74 rfl rfl ?_
            refine x_iload_n dX10_learn_75 rfl rfl ?_
            obtain ⟨Qc1, hc4, h⟩ := h
            refine x_callV (as := [v_I x1, v_I x2]) (st := []) (Qc := Qc1) dX10_learn_76 mt_X7_follow ml_X10_260 ⟨by decide, by decide⟩ sh_75 rfl (fun _ _ => Nat.le_of_ble_eq_true rfl) hc4 (fun r2 M3 hr5 hM6 hq7 => ?_)
            replace h := h r2 M3 hr5 hM6 hq7
            change X_ kk_X10_learn 79 [v_P 0, v_I x1, v_I x2, v_I x3, v_U] [] M3 Q
            refine x_iload_n dX10_learn_79 rfl rfl ?_
            refine x_bipush dX10_learn_80 (by decide) (by decide) ?_
            refine x_ic_lt (tgt := 98) dX10_learn_82 (by decide) (fun hc => ?_) (fun hc => ?_)
            · replace h := h.1 hc
              refine x_aload_n dX10_learn_98 rfl rfl ?_
              refine y_getP dX10_learn_99 sh_0 cf_X10 fl_X10_72 (by decide) (by decide) gg_0_8 ?_
              refine y_getP dX10_learn_102 sh_75 cf_X7 fl_X10_266 (by decide) (by decide) gg_75_4 ?_
              refine x_aload_n dX10_learn_105 rfl rfl ?_
              refine y_getP dX10_learn_106 sh_0 cf_X10 fl_X10_72 (by decide) (by decide) gg_0_8 ?_
              obtain ⟨Qc8, hc11, h⟩ := h
              refine x_callV (as := []) (st := [v_P 78]) (Qc := Qc8) dX10_learn_109 mt_X7_leader ml_X10_269 ⟨by decide, by decide⟩ sh_75 rfl (fun _ _ => Nat.le_of_ble_eq_true rfl) hc11 (fun r9 M10 hr12 hM13 hq14 => ?_)
              replace h := h r9 M10 hr12 hM13 hq14
              change X_ kk_X10_learn 112 [v_P 0, v_I x1, v_I x2, v_I x3, v_U] [v_I r9, v_P 78] M10 Q
              obtain ⟨s15, h⟩ := h
              refine x_iald dX10_learn_112 sh_78 s15 ?_
              refine y_istore (ls' := [v_P 0, v_I x1, v_I x2, v_I x3, v_I (M10 78 r9.toNat)]) dX10_learn_113 (by decide) rfl ?_
              refine x_iload_n dX10_learn_115 rfl rfl ?_
              refine x_if_ne (tgt := 127) dX10_learn_116 (by decide) (fun hc => ?_) (fun hc => ?_)
              · replace h := h.1 hc
                refine x_iload_n dX10_learn_127 rfl rfl ?_
                refine x_iconst dX10_learn_128 (by decide) ?_
                refine x_ic_ne (tgt := 137) dX10_learn_129 (by decide) (fun hc => ?_) (fun hc => ?_)
                · replace h := h.1 hc
                  refine x_iload dX10_learn_137 rfl ?_
                  refine x_aload_n dX10_learn_139 rfl rfl ?_
                  refine y_getP dX10_learn_140 sh_0 cf_X10 fl_X10_72 (by decide) (by decide) gg_0_8 ?_
                  refine x_getI dX10_learn_143 sh_75 cf_X7 fl_X10_272 (by decide) (by decide) ?_
                  obtain ⟨s16, h⟩ := h
                  refine x_isub dX10_learn_146 s16 ?_
                  refine x_iret dX10_learn_147 rfl (Or.inl rfl) (fun _ _ => h)
                · replace h := h.2 hc
                  refine x_iload dX10_learn_132 rfl ?_
                  refine x_goto (tgt := 147) dX10_learn_134 (by decide) ?_
                  refine x_iret dX10_learn_147 rfl (Or.inl rfl) (fun _ _ => h)
              · replace h := h.2 hc
                refine x_aload_n dX10_learn_119 rfl rfl ?_
                refine y_getP dX10_learn_120 sh_0 cf_X10 fl_X10_72 (by decide) (by decide) gg_0_8 ?_
                refine x_getI dX10_learn_123 sh_75 cf_X7 fl_X10_272 (by decide) (by decide) ?_
                refine x_iret dX10_learn_126 rfl (Or.inl rfl) (fun _ _ => h)
            · replace h := h.2 hc
              refine x_aload_n dX10_learn_85 rfl rfl ?_
              refine y_getP dX10_learn_86 sh_0 cf_X10 fl_X10_72 (by decide) (by decide) gg_0_8 ?_
              refine y_getP dX10_learn_89 sh_75 cf_X7 fl_X10_263 (by decide) (by decide) gg_75_3 ?_
              refine x_iload_n dX10_learn_92 rfl rfl ?_
              refine x_bipush dX10_learn_93 (by decide) (by decide) ?_
              obtain ⟨s17, h⟩ := h
              refine x_isub dX10_learn_95 s17 ?_
              obtain ⟨s18, h⟩ := h
              refine x_iald dX10_learn_96 sh_77 s18 ?_
              refine x_iret dX10_learn_97 rfl (Or.inl rfl) (fun _ _ => h)
          · replace h := h.2 hc
            refine x_iload_n dX10_learn_53 rfl rfl ?_
            refine x_bipush dX10_learn_54 (by decide) (by decide) ?_
            obtain ⟨s19, h⟩ := h
            refine x_isub dX10_learn_56 s19 ?_
            refine x_aload_n dX10_learn_57 rfl rfl ?_
            refine y_getP dX10_learn_58 sh_0 cf_X10 fl_X10_72 (by decide) (by decide) gg_0_8 ?_
            refine x_getI dX10_learn_61 sh_75 cf_X7 fl_X10_256 (by decide) (by decide) ?_
            refine x_ic_lt (tgt := 70) dX10_learn_64 (by decide) (fun hc => ?_) (fun hc => ?_)
            · replace h := h.1 hc
              refine x_aload_n dX10_learn_70 rfl rfl ?_
              refine y_getP dX10_learn_71 sh_0 cf_X10 fl_X10_72 (by decide) (by decide) gg_0_8 ?_
              refine x_iload_n dX10_learn_74 rfl rfl ?_
              refine x_iload_n dX10_learn_75 rfl rfl ?_
              obtain ⟨Qc20, hc23, h⟩ := h
              refine x_callV (as := [v_I x1, v_I x2]) (st := []) (Qc := Qc20) dX10_learn_76 mt_X7_follow ml_X10_260 ⟨by decide, by decide⟩ sh_75 rfl (fun _ _ => Nat.le_of_ble_eq_true rfl) hc23 (fun r21 M22 hr24 hM25 hq26 => ?_)
              replace h := h r21 M22 hr24 hM25 hq26
              change X_ kk_X10_learn 79 [v_P 0, v_I x1, v_I x2, v_I x3, v_U] [] M22 Q
              refine x_iload_n dX10_learn_79 rfl rfl ?_
              refine x_bipush dX10_learn_80 (by decide) (by decide) ?_
              refine x_ic_lt (tgt := 98) dX10_learn_82 (by decide) (fun hc => ?_) (fun hc => ?_)
              · replace h := h.1 hc
                refine x_aload_n dX10_learn_98 rfl rfl ?_
                refine y_getP dX10_learn_99 sh_0 cf_X10 fl_X10_72 (by decide) (by decide) gg_0_8 ?_
                refine y_getP dX10_learn_102 sh_75 cf_X7 fl_X10_266 (by decide) (by decide) gg_75_4 ?_
                refine x_aload_n dX10_learn_105 rfl rfl ?_
                refine y_getP dX10_learn_106 sh_0 cf_X10 fl_X10_72 (by decide) (by decide) gg_0_8 ?_
                obtain ⟨Qc27, hc30, h⟩ := h
                refine x_callV (as := []) (st := [v_P 78]) (Qc := Qc27) dX10_learn_109 mt_X7_leader ml_X10_269 ⟨by decide, by decide⟩ sh_75 rfl (fun _ _ => Nat.le_of_ble_eq_true rfl) hc30 (fun r28 M29 hr31 hM32 hq33 => ?_)
                replace h := h r28 M29 hr31 hM32 hq33
                change X_ kk_X10_learn 112 [v_P 0, v_I x1, v_I x2, v_I x3, v_U] [v_I r28, v_P 78] M29 Q
                obtain ⟨s34, h⟩ := h
                refine x_iald dX10_learn_112 sh_78 s34 ?_
                refine y_istore (ls' := [v_P 0, v_I x1, v_I x2, v_I x3, v_I (M29 78 r28.toNat)]) dX10_learn_113 (by decide) rfl ?_
                refine x_iload_n dX10_learn_115 rfl rfl ?_
                refine x_if_ne (tgt := 127) dX10_learn_116 (by decide) (fun hc => ?_) (fun hc => ?_)
                · replace h := h.1 hc
                  refine x_iload_n dX10_learn_127 rfl rfl ?_
                  refine x_iconst dX10_learn_128 (by decide) ?_
                  refine x_ic_ne (tgt := 137) dX10_learn_129 (by decide) (fun hc => ?_) (fun hc => ?_)
                  · replace h := h.1 hc
                    refine x_iload dX10_learn_137 rfl ?_
                    refine x_aload_n dX10_learn_139 rfl rfl ?_
                    refine y_getP dX10_learn_140 sh_0 cf_X10 fl_X10_72 (by decide) (by decide) gg_0_8 ?_
                    refine x_getI dX10_learn_143 sh_75 cf_X7 fl_X10_272 (by decide) (by decide) ?_
                    obtain ⟨s35, h⟩ := h
                    refine x_isub dX10_learn_146 s35 ?_
                    refine x_iret dX10_learn_147 rfl (Or.inl rfl) (fun _ _ => h)
                  · replace h := h.2 hc
                    refine x_iload dX10_learn_132 rfl ?_
                    refine x_goto (tgt := 147) dX10_learn_134 (by decide) ?_
                    refine x_iret dX10_learn_147 rfl (Or.inl rfl) (fun _ _ => h)
                · replace h := h.2 hc
                  refine x_aload_n dX10_learn_119 rfl rfl ?_
                  refine y_getP dX10_learn_120 sh_0 cf_X10 fl_X10_72 (by decide) (by decide) gg_0_8 ?_
                  refine x_getI dX10_learn_123 sh_75 cf_X7 fl_X10_272 (by decide) (by decide) ?_
                  refine x_iret dX10_learn_126 rfl (Or.inl rfl) (fun _ _ => h)
              · replace h := h.2 hc
                refine x_aload_n dX10_learn_85 rfl rfl ?_
                refine y_getP dX10_learn_86 sh_0 cf_X10 fl_X10_72 (by decide) (by decide) gg_0_8 ?_
                refine y_getP dX10_learn_89 sh_75 cf_X7 fl_X10_263 (by decide) (by decide) gg_75_3 ?_
                refine x_iload_n dX10_learn_92 rfl rfl ?_
                refine x_bipush dX10_learn_93 (by decide) (by decide) ?_
                obtain ⟨s36, h⟩ := h
                refine x_isub dX10_learn_95 s36 ?_
                obtain ⟨s37, h⟩ := h
                refine x_iald dX10_learn_96 sh_77 s37 ?_
                refine x_iret dX10_learn_97 rfl (Or.inl rfl) (fun _ _ => h)
            · replace h := h.2 hc
              refine x_bipush dX10_learn_67 (by decide) (by decide) ?_
              refine x_iret dX10_learn_69 rfl (Or.inl rfl) (fun _ _ => h)
      · change X_ kk_X10_learn 30 [v_P 0, v_I x1, v_I x2, v_I x3, v_U] [v_I 0] M Q
        replace h := h.2 hc
        refine x_if_eq (tgt := 47) dX10_learn_30 (by decide) (fun _ => ?_) (fun hc => absurd hc (by decide))
        refine x_iload_n dX10_learn_47 rfl rfl ?_
        refine x_bipush dX10_learn_48 (by decide) (by decide) ?_
        refine x_ic_lt (tgt := 70) dX10_learn_50 (by decide) (fun hc => ?_) (fun hc => ?_)
        · replace h := h.1 hc
          refine x_aload_n dX10_learn_70 rfl rfl ?_
          refine y_getP dX10_learn_71 sh_0 cf_X10 fl_X10_72 (by decide) (by decide) gg_0_8 ?_
          refine x_iload_n dX10_learn_74 rfl rfl ?_
          refine x_iload_n dX10_learn_75 rfl rfl ?_
          obtain ⟨Qc38, hc41, h⟩ := h
          refine x_callV (as := [v_I x1, v_I x2]) (st := []) (Qc := Qc38) dX10_learn_76 mt_X7_follow ml_X10_260 ⟨by decide, by decide⟩ sh_75 rfl (fun _ _ => Nat.le_of_ble_eq_true rfl) hc41 (fun r39 M40 hr42 hM43 hq44 => ?_)
          replace h := h r39 M40 hr42 hM43 hq44
          change X_ kk_X10_learn 79 [v_P 0, v_I x1, v_I x2, v_I x3, v_U] [] M40 Q
          refine x_iload_n dX10_learn_79 rfl rfl ?_
          refine x_bipush dX10_learn_80 (by decide) (by decide) ?_
          refine x_ic_lt (tgt := 98) dX10_learn_82 (by decide) (fun hc => ?_) (fun hc => ?_)
          · replace h := h.1 hc
            refine x_aload_n dX10_learn_98 rfl rfl ?_
            refine y_getP dX10_learn_99 sh_0 cf_X10 fl_X10_72 (by decide) (by decide) gg_0_8 ?_
            refine y_getP dX10_learn_102 sh_75 cf_X7 fl_X10_266 (by decide) (by decide) gg_75_4 ?_
            refine x_aload_n dX10_learn_105 rfl rfl ?_
            refine y_getP dX10_learn_106 sh_0 cf_X10 fl_X10_72 (by decide) (by decide) gg_0_8 ?_
            obtain ⟨Qc45, hc48, h⟩ := h
            refine x_callV (as := []) (st := [v_P 78]) (Qc := Qc45) dX10_learn_109 mt_X7_leader ml_X10_269 ⟨by decide, by decide⟩ sh_75 rfl (fun _ _ => Nat.le_of_ble_eq_true rfl) hc48 (fun r46 M47 hr49 hM50 hq51 => ?_)
            replace h := h r46 M47 hr49 hM50 hq51
            change X_ kk_X10_learn 112 [v_P 0, v_I x1, v_I x2, v_I x3, v_U] [v_I r46, v_P 78] M47 Q
            obtain ⟨s52, h⟩ := h
            refine x_iald dX10_learn_112 sh_78 s52 ?_
            refine y_istore (ls' := [v_P 0, v_I x1, v_I x2, v_I x3, v_I (M47 78 r46.toNat)]) dX10_learn_113 (by decide) rfl ?_
            refine x_iload_n dX10_learn_115 rfl rfl ?_
            refine x_if_ne (tgt := 127) dX10_learn_116 (by decide) (fun hc => ?_) (fun hc => ?_)
            · replace h := h.1 hc
              refine x_iload_n dX10_learn_127 rfl rfl ?_
              refine x_iconst dX10_learn_128 (by decide) ?_
              refine x_ic_ne (tgt := 137) dX10_learn_129 (by decide) (fun hc => ?_) (fun hc => ?_)
              · replace h := h.1 hc
                refine x_iload dX10_learn_137 rfl ?_
                refine x_aload_n dX10_learn_139 rfl rfl ?_
                refine y_getP dX10_learn_140 sh_0 cf_X10 fl_X10_72 (by decide) (by decide) gg_0_8 ?_
                refine x_getI dX10_learn_143 sh_75 cf_X7 fl_X10_272 (by decide) (by decide) ?_
                obtain ⟨s53, h⟩ := h
                refine x_isub dX10_learn_146 s53 ?_
                refine x_iret dX10_learn_147 rfl (Or.inl rfl) (fun _ _ => h)
              · replace h := h.2 hc
                refine x_iload dX10_learn_132 rfl ?_
                refine x_goto (tgt := 147) dX10_learn_134 (by decide) ?_
                refine x_iret dX10_learn_147 rfl (Or.inl rfl) (fun _ _ => h)
            · replace h := h.2 hc
              refine x_aload_n dX10_learn_119 rfl rfl ?_
              refine y_getP dX10_learn_120 sh_0 cf_X10 fl_X10_72 (by decide) (by decide) gg_0_8 ?_
              refine x_getI dX10_learn_123 sh_75 cf_X7 fl_X10_272 (by decide) (by decide) ?_
              refine x_iret dX10_learn_126 rfl (Or.inl rfl) (fun _ _ => h)
          · replace h := h.2 hc
            refine x_aload_n dX10_learn_85 rfl rfl ?_
            refine y_getP dX10_learn_86 sh_0 cf_X10 fl_X10_72 (by decide) (by decide) gg_0_8 ?_
            refine y_getP dX10_learn_89 sh_75 cf_X7 fl_X10_263 (by decide) (by decide) gg_75_3 ?_
            refine x_iload_n dX10_learn_92 rfl rfl ?_
            refine x_bipush dX10_learn_93 (by decide) (by decide) ?_
            obtain ⟨s54, h⟩ := h
            refine x_isub dX10_learn_95 s54 ?_
            obtain ⟨s55, h⟩ := h
            refine x_iald dX10_learn_96 sh_77 s55 ?_
            refine x_iret dX10_learn_97 rfl (Or.inl rfl) (fun _ _ => h)
        · replace h := h.2 hc
          refine x_iload_n dX10_learn_53 rfl rfl ?_
          refine x_bipush dX10_learn_54 (by decide) (by decide) ?_
          obtain ⟨s56, h⟩ := h
          refine x_isub dX10_learn_56 s56 ?_
          refine x_aload_n dX10_learn_57 rfl rfl ?_
          refine y_getP dX10_learn_58 sh_0 cf_X10 fl_X10_72 (by decide) (by decide) gg_0_8 ?_
          refine x_getI dX10_learn_61 sh_75 cf_X7 fl_X10_256 (by decide) (by decide) ?_
          refine x_ic_lt (tgt := 70) dX10_learn_64 (by decide) (fun hc => ?_) (fun hc => ?_)
          · replace h := h.1 hc
            refine x_aload_n dX10_learn_70 rfl rfl ?_
            refine y_getP dX10_learn_71 sh_0 cf_X10 fl_X10_72 (by decide) (by decide) gg_0_8 ?_
            refine x_iload_n dX10_learn_74 rfl rfl ?_
            refine x_iload_n dX10_learn_75 rfl rfl ?_
            obtain ⟨Qc57, hc60, h⟩ := h
            refine x_callV (as := [v_I x1, v_I x2]) (st := []) (Qc := Qc57) dX10_learn_76 mt_X7_follow ml_X10_260 ⟨by decide, by decide⟩ sh_75 rfl (fun _ _ => Nat.le_of_ble_eq_true rfl) hc60 (fun r58 M59 hr61 hM62 hq63 => ?_)
            replace h := h r58 M59 hr61 hM62 hq63
            change X_ kk_X10_learn 79 [v_P 0, v_I x1, v_I x2, v_I x3, v_U] [] M59 Q
            refine x_iload_n dX10_learn_79 rfl rfl ?_
            refine x_bipush dX10_learn_80 (by decide) (by decide) ?_
            refine x_ic_lt (tgt := 98) dX10_learn_82 (by decide) (fun hc => ?_) (fun hc => ?_)
            · replace h := h.1 hc
              refine x_aload_n dX10_learn_98 rfl rfl ?_
              refine y_getP dX10_learn_99 sh_0 cf_X10 fl_X10_72 (by decide) (by decide) gg_0_8 ?_
              refine y_getP dX10_learn_102 sh_75 cf_X7 fl_X10_266 (by decide) (by decide) gg_75_4 ?_
              refine x_aload_n dX10_learn_105 rfl rfl ?_
              refine y_getP dX10_learn_106 sh_0 cf_X10 fl_X10_72 (by decide) (by decide) gg_0_8 ?_
              obtain ⟨Qc64, hc67, h⟩ := h
              refine x_callV (as := []) (st := [v_P 78]) (Qc := Qc64) dX10_learn_109 mt_X7_leader ml_X10_269 ⟨by decide, by decide⟩ sh_75 rfl (fun _ _ => Nat.le_of_ble_eq_true rfl) hc67 (fun r65 M66 hr68 hM69 hq70 => ?_)
              replace h := h r65 M66 hr68 hM69 hq70
              change X_ kk_X10_learn 112 [v_P 0, v_I x1, v_I x2, v_I x3, v_U] [v_I r65, v_P 78] M66 Q
              obtain ⟨s71, h⟩ := h
              refine x_iald dX10_learn_112 sh_78 s71 ?_
              refine y_istore (ls' := [v_P 0, v_I x1, v_I x2, v_I x3, v_I (M66 78 r65.toNat)]) dX10_learn_113 (by decide) rfl ?_
              refine x_iload_n dX10_learn_115 rfl rfl ?_
              refine x_if_ne (tgt := 127) dX10_learn_116 (by decide) (fun hc => ?_) (fun hc => ?_)
              · replace h := h.1 hc
                refine x_iload_n dX10_learn_127 rfl rfl ?_
                refine x_iconst dX10_learn_128 (by decide) ?_
                refine x_ic_ne (tgt := 137) dX10_learn_129 (by decide) (fun hc => ?_) (fun hc => ?_)
                · replace h := h.1 hc
                  refine x_iload dX10_learn_137 rfl ?_
                  refine x_aload_n dX10_learn_139 rfl rfl ?_
                  refine y_getP dX10_learn_140 sh_0 cf_X10 fl_X10_72 (by decide) (by decide) gg_0_8 ?_
                  refine x_getI dX10_learn_143 sh_75 cf_X7 fl_X10_272 (by decide) (by decide) ?_
                  obtain ⟨s72, h⟩ := h
                  refine x_isub dX10_learn_146 s72 ?_
                  refine x_iret dX10_learn_147 rfl (Or.inl rfl) (fun _ _ => h)
                · replace h := h.2 hc
                  refine x_iload dX10_learn_132 rfl ?_
                  refine x_goto (tgt := 147) dX10_learn_134 (by decide) ?_
                  refine x_iret dX10_learn_147 rfl (Or.inl rfl) (fun _ _ => h)
              · replace h := h.2 hc
                refine x_aload_n dX10_learn_119 rfl rfl ?_
                refine y_getP dX10_learn_120 sh_0 cf_X10 fl_X10_72 (by decide) (by decide) gg_0_8 ?_
                refine x_getI dX10_learn_123 sh_75 cf_X7 fl_X10_272 (by decide) (by decide) ?_
                refine x_iret dX10_learn_126 rfl (Or.inl rfl) (fun _ _ => h)
            · replace h := h.2 hc
              refine x_aload_n dX10_learn_85 rfl rfl ?_
              refine y_getP dX10_learn_86 sh_0 cf_X10 fl_X10_72 (by decide) (by decide) gg_0_8 ?_
              refine y_getP dX10_learn_89 sh_75 cf_X7 fl_X10_263 (by decide) (by decide) gg_75_3 ?_
              refine x_iload_n dX10_learn_92 rfl rfl ?_
              refine x_bipush dX10_learn_93 (by decide) (by decide) ?_
              obtain ⟨s73, h⟩ := h
              refine x_isub dX10_learn_95 s73 ?_
              obtain ⟨s74, h⟩ := h
              refine x_iald dX10_learn_96 sh_77 s74 ?_
              refine x_iret dX10_learn_97 rfl (Or.inl rfl) (fun _ _ => h)
          · replace h := h.2 hc
            refine x_bipush dX10_learn_67 (by decide) (by decide) ?_
            refine x_iret dX10_learn_69 rfl (Or.inl rfl) (fun _ _ => h)
  · change X_ kk_X10_learn 8 [v_P 0, v_I x1, v_I x2, v_I x3, v_U] [v_I 0] M Q
    replace h := h.2 hc
    refine x_if_ne (tgt := 14) dX10_learn_8 (by decide) (fun hc => absurd hc (by decide)) (fun _ => ?_)
    refine x_ldc (n := (-1000000001)) dX10_learn_11 ct_X10_235 (by decide) (by decide) ?_
    refine x_iret dX10_learn_13 rfl (Or.inl rfl) (fun _ _ => h)
theorem wp_X10_told_0 {x1 : Int} {M : mM} {Q : Int → mM → Prop} (h : (x1 = 0 → Q (M 1 0) M) ∧ (x1 = 1 → Q (M 1 6) M) ∧ (x1 = 2 → Q (M 26 1) M) ∧ (x1 = 3 → Q (M 75 2) M) ∧ (x1 = 4 → Q (M 1 8) M) ∧ ((x1 < 0 ∨ 4 < x1) → (x1 < 10 ∨ 15 < x1 → Q (-2) M) ∧ (¬ (x1 < 10 ∨ 15 < x1) → (m_ir (x1 - 10)) ∧ ((0 : Int) ≤ (x1 - 10) ∧ (x1 - 10) < (6 : Int)) ∧ Q (M (8 + 3 * (x1 - 10).toNat) 3) M))) : X_ kk_X10_told 0 [v_P 0, v_I x1] [] M Q := by
  refine x_iload_n dX10_told_0 rfl rfl ?_
  by_cases hx : x1 = 0
  · refine x_tsIn (k := kk_X10_told) (pc := 1) (x := x1) (j := 0) (off := 35) (tgt := 36) dX10_told_1 hx ⟨by decide, by decide⟩ rfl (by decide) ?_
    replace h := h.1 hx
    refine x_aload_n dX10_told_36 rfl rfl ?_
    refine y_getP dX10_told_37 sh_0 cf_X10 fl_X10_10 (by decide) (by decide) gg_0_0 ?_
    refine x_getI dX10_told_40 sh_1 cf_X6 fl_X10_80 (by decide) (by decide) ?_
    refine x_iret dX10_told_43 rfl (Or.inl rfl) (fun _ _ => h)
  · replace h := h.2
    by_cases hx : x1 = 1
    · refine x_tsIn (k := kk_X10_told) (pc := 1) (x := x1) (j := 1) (off := 43) (tgt := 44) dX10_told_1 hx ⟨by decide, by decide⟩ rfl (by decide) ?_
      replace h := h.1 hx
      refine x_aload_n dX10_told_44 rfl rfl ?_
      refine y_getP dX10_told_45 sh_0 cf_X10 fl_X10_10 (by decide) (by decide) gg_0_0 ?_
      refine x_getI dX10_told_48 sh_1 cf_X6 fl_X10_91 (by decide) (by decide) ?_
      refine x_iret dX10_told_51 rfl (Or.inl rfl) (fun _ _ => h)
    · replace h := h.2
      by_cases hx : x1 = 2
      · refine x_tsIn (k := kk_X10_told) (pc := 1) (x := x1) (j := 2) (off := 51) (tgt := 52) dX10_told_1 hx ⟨by decide, by decide⟩ rfl (by decide) ?_
        replace h := h.1 hx
        refine x_aload_n dX10_told_52 rfl rfl ?_
        refine y_getP dX10_told_53 sh_0 cf_X10 fl_X10_19 (by decide) (by decide) gg_0_1 ?_
        refine x_getI dX10_told_56 sh_26 cf_X9 fl_X10_112 (by decide) (by decide) ?_
        refine x_iret dX10_told_59 rfl (Or.inl rfl) (fun _ _ => h)
      · replace h := h.2
        by_cases hx : x1 = 3
        · refine x_tsIn (k := kk_X10_told) (pc := 1) (x := x1) (j := 3) (off := 59) (tgt := 60) dX10_told_1 hx ⟨by decide, by decide⟩ rfl (by decide) ?_
          replace h := h.1 hx
          refine x_aload_n dX10_told_60 rfl rfl ?_
          refine y_getP dX10_told_61 sh_0 cf_X10 fl_X10_72 (by decide) (by decide) gg_0_8 ?_
          refine x_getI dX10_told_64 sh_75 cf_X7 fl_X10_256 (by decide) (by decide) ?_
          refine x_iret dX10_told_67 rfl (Or.inl rfl) (fun _ _ => h)
        · replace h := h.2
          by_cases hx : x1 = 4
          · refine x_tsIn (k := kk_X10_told) (pc := 1) (x := x1) (j := 4) (off := 67) (tgt := 68) dX10_told_1 hx ⟨by decide, by decide⟩ rfl (by decide) ?_
            replace h := h.1 hx
            refine x_aload_n dX10_told_68 rfl rfl ?_
            refine y_getP dX10_told_69 sh_0 cf_X10 fl_X10_10 (by decide) (by decide) gg_0_0 ?_
            refine x_getI dX10_told_72 sh_1 cf_X6 fl_X10_154 (by decide) (by decide) ?_
            refine x_iret dX10_told_75 rfl (Or.inl rfl) (fun _ _ => h)
          · replace h := h.2
            have ho : x1 < 0 ∨ 4 < x1 := by clear h; omega
            refine x_tsOut (k := kk_X10_told) (pc := 1) (x := x1) (tgt := 76) dX10_told_1 ho (by decide) ?_
            replace h := h ho
            refine x_iload_n dX10_told_76 rfl rfl ?_
            refine x_bipush dX10_told_77 (by decide) (by decide) ?_
            refine x_bipush dX10_told_79 (by decide) (by decide) ?_
            refine x_isNot (st := []) dX10_told_81 ml_X10_76 ⟨by decide, by decide⟩ (fun _ _ => Nat.le_of_ble_eq_true rfl) (fun hc => ?_) (fun hc => ?_)
            · change X_ kk_X10_told 84 [v_P 0, v_I x1] [v_I 1] M Q
              replace h := h.1 hc
              refine x_if_eq (tgt := 92) dX10_told_84 (by decide) (fun hc => absurd hc (by decide)) (fun _ => ?_)
              refine x_bipush dX10_told_87 (by decide) (by decide) ?_
              refine x_goto (tgt := 107) dX10_told_89 (by decide) ?_
              refine x_iret dX10_told_107 rfl (Or.inl rfl) (fun _ _ => h)
            · change X_ kk_X10_told 84 [v_P 0, v_I x1] [v_I 0] M Q
              replace h := h.2 hc
              refine x_if_eq (tgt := 92) dX10_told_84 (by decide) (fun _ => ?_) (fun hc => absurd hc (by decide))
              refine x_aload_n dX10_told_92 rfl rfl ?_
              refine y_getP dX10_told_93 sh_0 cf_X10 fl_X10_10 (by decide) (by decide) gg_0_0 ?_
              refine y_getP dX10_told_96 sh_1 cf_X6 fl_X10_104 (by decide) (by decide) gg_1_7 ?_
              refine x_iload_n dX10_told_99 rfl rfl ?_
              refine x_bipush dX10_told_100 (by decide) (by decide) ?_
              obtain ⟨s1, h⟩ := h
              refine x_isub dX10_told_102 s1 ?_
              obtain ⟨s2, h⟩ := h
              refine y_aaldB dX10_told_103 s2 ?_
              have g3 := isB_at (j := (x1 - 10).toNat) (by clear h; omega)
              refine x_getI dX10_told_104 (g3).1 cf_X1 fl_X10_125 (by decide) (by decide) ?_
              refine x_iret dX10_told_107 rfl (Or.inl rfl) (fun _ _ => h)
theorem wp_X10_forget_0 {M : mM} {Q : Int → mM → Prop} (h : Q 0 (m_up (m_up M 70 7 0) 74 4 0)) : X_ kk_X10_forget 0 [v_P 0] [] M Q := by
  refine x_aload_n dX10_forget_0 rfl rfl ?_
  refine y_getP dX10_forget_1 sh_0 cf_X10 fl_X10_54 (by decide) (by decide) gg_0_6 ?_
  refine x_iconst dX10_forget_4 (by decide) ?_
  refine x_putI dX10_forget_5 sh_70 cf_X2 fl_X10_275 (by decide) rfl (by decide) (Or.inr ⟨rfl, Or.inl rfl⟩) ?_
  refine x_aload_n dX10_forget_8 rfl rfl ?_
  refine y_getP dX10_forget_9 sh_0 cf_X10 fl_X10_63 (by decide) (by decide) gg_0_7 ?_
  refine x_iconst dX10_forget_12 (by decide) ?_
  refine x_putI dX10_forget_13 sh_74 cf_X0 fl_X10_279 (by decide) rfl (by decide) (Or.inr ⟨rfl, Or.inl rfl⟩) ?_
  refine x_ret dX10_forget_16 rfl (fun _ => h)
