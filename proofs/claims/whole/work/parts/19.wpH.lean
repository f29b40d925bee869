theorem wp_X11_ones_0 {x0 : Int} {M : mM} {Q : Int → mM → Prop} (h : X_ kk_X11_ones 4 [v_I x0, v_I 0, v_I 0] [] M Q) : X_ kk_X11_ones 0 [v_I x0, v_U, v_U] [] M Q := by
  refine x_iconst dX11_ones_0 (by decide) ?_
  refine y_istore_n (ls' := [v_I x0, v_I 0, v_U]) dX11_ones_1 rfl (by decide) rfl ?_
  refine x_iconst dX11_ones_2 (by decide) ?_
  refine y_istore_n (ls' := [v_I x0, v_I 0, v_I 0]) dX11_ones_3 rfl (by decide) rfl ?_
  exact h
theorem wp_X11_ones_4 {x0 x1 x2 : Int} {M : mM} {Q : Int → mM → Prop} (h : (8 ≤ x2 → Q x1 M) ∧ (¬ 8 ≤ x2 → (m_ir (x1 + (m_and (m_shr x0 x2) 1))) ∧ (m_ir (x2 + 1)) ∧ X_ kk_X11_ones 4 [v_I x0, v_I (x1 + (m_and (m_shr x0 x2) 1)), v_I (x2 + 1)] [] M Q)) : X_ kk_X11_ones 4 [v_I x0, v_I x1, v_I x2] [] M Q := by
  refine x_iload_n dX11_ones_4 rfl rfl ?_
  refine x_bipush dX11_ones_5 (by decide) (by decide) ?_
  refine x_ic_ge (tgt := 24) dX11_ones_7 (by decide) (fun hc => ?_) (fun hc => ?_)
  · replace h := h.1 hc
    refine x_iload_n dX11_ones_24 rfl rfl ?_
    refine x_iret dX11_ones_25 rfl (Or.inl rfl) (fun _ _ => h)
  · replace h := h.2 hc
    refine x_iload_n dX11_ones_10 rfl rfl ?_
    refine x_iload_n dX11_ones_11 rfl rfl ?_
    refine x_iload_n dX11_ones_12 rfl rfl ?_
    refine x_ishr dX11_ones_13 ?_
    refine x_iconst dX11_ones_14 (by decide) ?_
    refine x_iand dX11_ones_15 ?_
    obtain ⟨s1, h⟩ := h
    refine x_iadd dX11_ones_16 s1 ?_
    refine y_istore_n (ls' := [v_I x0, v_I (x1 + (m_and (m_shr x0 x2) 1)), v_I x2]) dX11_ones_17 rfl (by decide) rfl ?_
    obtain ⟨s2, h⟩ := h
    refine y_iinc (ls' := [v_I x0, v_I (x1 + (m_and (m_shr x0 x2) 1)), v_I (x2 + 1)]) dX11_ones_18 rfl s2 (by decide) rfl ?_
    refine x_goto (tgt := 4) dX11_ones_21 (by decide) ?_
    exact h
theorem wp_X11_lot_0 {x1 x2 x3 : Int} {M : mM} {Q : Int → mM → Prop} (h : (0 ≤ x1 ∧ x1 ≤ 4 → (0 ≤ x2 ∧ x2 ≤ 2 → (0 ≤ x3 ∧ x3 ≤ 200 → (¬ (M 79 4) = 8 → (0 ≤ (M 79 4) ∧ (M 79 4) < 8) ∧ (0 ≤ (M 79 4) ∧ (M 79 4) < 8) ∧ (0 ≤ (M 79 4) ∧ (M 79 4) < 8) ∧ ∀ M4 : mM, M4 = m_up (m_up (m_up M 80 ((M 79 4).toNat) x1) 81 ((M 79 4).toNat) x2) 82 ((M 79 4).toNat) x3 → (0 ≤ (M 79 4) ∧ (M 79 4) < 8) ∧ (m_ir ((M 79 4) + 1)) ∧ (m_ir (((M 79 4) + 1) - 1)) ∧ Q (((M 79 4) + 1) - 1) (m_up (m_up M4 83 ((M 79 4).toNat) (M 79 4)) 79 4 ((M 79 4) + 1))) ∧ ((M 79 4) = 8 → Q (-4) M)) ∧ (¬ (0 ≤ x3 ∧ x3 ≤ 200) → Q (-2) M)) ∧ (¬ (0 ≤ x2 ∧ x2 ≤ 2) → Q (-2) M)) ∧ (¬ (0 ≤ x1 ∧ x1 ≤ 4) → Q (-2) M)) : X_ kk_X11_lot 0 [v_P 79, v_I x1, v_I x2, v_I x3] [] M Q := by
  refine x_iload_n dX11_lot_0 rfl rfl ?_
  refine x_i2l dX11_lot_1 ?_
  refine x_lconst (z := 0) dX11_lot_2 (by decide) (by decide) ?_
  refine x_ldc2 (z := 4) dX11_lot_3 cl_X11_117 (by decide) (by decide) ?_
  refine x_in (st := []) dX11_lot_6 ml_X11_110 ⟨by decide, by decide⟩ (fun _ _ => Nat.le_of_ble_eq_true rfl) (fun hc => ?_) (fun hc => ?_)
  · change X_ kk_X11_lot 9 [v_P 79, v_I x1, v_I x2, v_I x3] [v_I 1] M Q
    replace h := h.1 hc
    refine x_if_eq (tgt := 36) dX11_lot_9 (by decide) (fun hc => absurd hc (by decide)) (fun _ => ?_)
    refine x_iload_n dX11_lot_12 rfl rfl ?_
    refine x_i2l dX11_lot_13 ?_
    refine x_lconst (z := 0) dX11_lot_14 (by decide) (by decide) ?_
    refine x_ldc2 (z := 2) dX11_lot_15 cl_X11_119 (by decide) (by decide) ?_
    refine x_in (st := []) dX11_lot_18 ml_X11_110 ⟨by decide, by decide⟩ (fun _ _ => Nat.le_of_ble_eq_true rfl) (fun hc => ?_) (fun hc => ?_)
    · change X_ kk_X11_lot 21 [v_P 79, v_I x1, v_I x2, v_I x3] [v_I 1] M Q
      replace h := h.1 hc
      refine x_if_eq (tgt := 36) dX11_lot_21 (by decide) (fun hc => absurd hc (by decide)) (fun _ => ?_)
      refine x_iload_n dX11_lot_24 rfl rfl ?_
      refine x_i2l dX11_lot_25 ?_
      refine x_lconst (z := 0) dX11_lot_26 (by decide) (by decide) ?_
      refine x_ldc2 (z := 200) dX11_lot_27 cl_X11_121 (by decide) (by decide) ?_
      refine x_in (st := []) dX11_lot_30 ml_X11_110 ⟨by decide, by decide⟩ (fun _ _ => Nat.le_of_ble_eq_true rfl) (fun hc => ?_) (fun hc => ?_)
      · change X_ kk_X11_lot 33 [v_P 79, v_I x1, v_I x2, v_I x3] [v_I 1] M Q
        replace h := h.1 hc
        refine x_if_ne (tgt := 39) dX11_lot_33 (by decide) (fun _ => ?_) (fun hc => absurd hc (by decide))
        refine x_aload_n dX11_lot_39 rfl rfl ?_
        refine x_getI dX11_lot_40 sh_79 cf_X11 fl_X11_107 (by decide) (by decide) ?_
        refine x_bipush dX11_lot_43 (by decide) (by decide) ?_
        refine x_ic_ne (tgt := 51) dX11_lot_45 (by decide) (fun hc => ?_) (fun hc => ?_)
        · replace h := h.1 hc
          refine x_aload_n dX11_lot_51 rfl rfl ?_
          refine y_getP dX11_lot_52 sh_79 cf_X11 fl_X11_7 (by decide) (by decide) gg_79_0 ?_
          refine x_aload_n dX11_lot_55 rfl rfl ?_
          refine x_getI dX11_lot_56 sh_79 cf_X11 fl_X11_107 (by decide) (by decide) ?_
          refine x_iload_n dX11_lot_59 rfl rfl ?_
          obtain ⟨s1, h⟩ := h
          refine x_iast dX11_lot_60 sh_80 s1 ?_
          refine x_aload_n dX11_lot_61 rfl rfl ?_
          refine y_getP dX11_lot_62 sh_79 cf_X11 fl_X11_13 (by decide) (by decide) gg_79_1 ?_
          refine x_aload_n dX11_lot_65 rfl rfl ?_
          refine y_getI (v := (M 79 4)) dX11_lot_66 sh_79 cf_X11 fl_X11_107 (by decide) (by decide) (m_up_ne (Or.inl (by decide))) ?_
          refine x_iload_n dX11_lot_69 rfl rfl ?_
          obtain ⟨s2, h⟩ := h
          refine x_iast dX11_lot_70 sh_81 s2 ?_
          refine x_aload_n dX11_lot_71 rfl rfl ?_
          refine y_getP dX11_lot_72 sh_79 cf_X11 fl_X11_16 (by decide) (by decide) gg_79_2 ?_
          refine x_aload_n dX11_lot_75 rfl rfl ?_
          refine y_getI (v := (M 79 4)) dX11_lot_76 sh_79 cf_X11 fl_X11_107 (by decide) (by decide) ((m_up_ne (Or.inl (by decide))).trans (m_up_ne (Or.inl (by decide)))) ?_
          refine x_iload_n dX11_lot_79 rfl rfl ?_
          obtain ⟨s3, h⟩ := h
          refine x_iast dX11_lot_80 sh_82 s3 ?_
          obtain ⟨M4, e5⟩ : ∃ z : mM, z = m_up (m_up (m_up M 80 ((M 79 4).toNat) x1) 81 ((M 79 4).toNat) x2) 82 ((M 79 4).toNat) x3 := ⟨_, rfl⟩
          rw [← e5]
          replace h := h M4 e5
          refine x_aload_n dX11_lot_81 rfl rfl ?_
          refine y_getP dX11_lot_82 sh_79 cf_X11 fl_X11_19 (by decide) (by decide) gg_79_3 ?_
          refine x_aload_n dX11_lot_85 rfl rfl ?_
          refine y_getI (v := (M 79 4)) dX11_lot_86 sh_79 cf_X11 fl_X11_107 (by decide) (by decide) ((congrFun (congrFun e5 79) 4).trans ((m_up_ne (Or.inl (by decide))).trans ((m_up_ne (Or.inl (by decide))).trans (m_up_ne (Or.inl (by decide)))))) ?_
          refine x_aload_n dX11_lot_89 rfl rfl ?_
          refine y_getI (v := (M 79 4)) dX11_lot_90 sh_79 cf_X11 fl_X11_107 (by decide) (by decide) ((congrFun (congrFun e5 79) 4).trans ((m_up_ne (Or.inl (by decide))).trans ((m_up_ne (Or.inl (by decide))).trans (m_up_ne (Or.inl (by decide)))))) ?_
          obtain ⟨s6, h⟩ := h
          refine x_iast dX11_lot_93 sh_83 s6 ?_
          refine x_aload_n dX11_lot_94 rfl rfl ?_
          refine x_dup dX11_lot_95 (fun _ _ => rfl) ?_
          refine y_getI (v := (M 79 4)) dX11_lot_96 sh_79 cf_X11 fl_X11_107 (by decide) (by decide) ((m_up_ne (Or.inl (by decide))).trans ((congrFun (congrFun e5 79) 4).trans ((m_up_ne (Or.inl (by decide))).trans ((m_up_ne (Or.inl (by decide))).trans (m_up_ne (Or.inl (by decide))))))) ?_
          refine x_iconst dX11_lot_99 (by decide) ?_
          obtain ⟨s7, h⟩ := h
          refine x_iadd dX11_lot_100 s7 ?_
          refine x_putI dX11_lot_101 sh_79 cf_X11 fl_X11_107 (by decide) rfl (by decide) (Or.inl rfl) ?_
          refine x_aload_n dX11_lot_104 rfl rfl ?_
          refine y_getI (v := ((M 79 4) + 1)) dX11_lot_105 sh_79 cf_X11 fl_X11_107 (by decide) (by decide) (m_up_same _ _ _ _) ?_
          refine x_iconst dX11_lot_108 (by decide) ?_
          obtain ⟨s8, h⟩ := h
          refine x_isub dX11_lot_109 s8 ?_
          refine x_iret dX11_lot_110 rfl (Or.inl rfl) (fun _ _ => h)
        · replace h := h.2 hc
          refine x_bipush dX11_lot_48 (by decide) (by decide) ?_
          refine x_iret dX11_lot_50 rfl (Or.inl rfl) (fun _ _ => h)
      · change X_ kk_X11_lot 33 [v_P 79, v_I x1, v_I x2, v_I x3] [v_I 0] M Q
        replace h := h.2 hc
        refine x_if_ne (tgt := 39) dX11_lot_33 (by decide) (fun hc => absurd hc (by decide)) (fun _ => ?_)
        refine x_bipush dX11_lot_36 (by decide) (by decide) ?_
        refine x_iret dX11_lot_38 rfl (Or.inl rfl) (fun _ _ => h)
    · change X_ kk_X11_lot 21 [v_P 79, v_I x1, v_I x2, v_I x3] [v_I 0] M Q
      replace h := h.2 hc
      refine x_if_eq (tgt := 36) dX11_lot_21 (by decide) (fun _ => ?_) (fun hc => absurd hc (by decide))
      refine x_bipush dX11_lot_36 (by decide) (by decide) ?_
      refine x_iret dX11_lot_38 rfl (Or.inl rfl) (fun _ _ => h)
  · change X_ kk_X11_lot 9 [v_P 79, v_I x1, v_I x2, v_I x3] [v_I 0] M Q
    replace h := h.2 hc
    refine x_if_eq (tgt := 36) dX11_lot_9 (by decide) (fun _ => ?_) (fun hc => absurd hc (by decide))
    refine x_bipush dX11_lot_36 (by decide) (by decide) ?_
    refine x_iret dX11_lot_38 rfl (Or.inl rfl) (fun _ _ => h)
theorem wp_X11_buyer_0 {M : mM} {Q : Int → mM → Prop} (h : (¬ (M 79 8) = 6 → (0 ≤ (M 79 8) ∧ (M 79 8) < 6) ∧ (0 ≤ (M 79 8) ∧ (M 79 8) < 6) ∧ (0 ≤ (M 79 8) ∧ (M 79 8) < 6) ∧ ∀ M4 : mM, M4 = m_up (m_up (m_up M 84 ((M 79 8).toNat) 200) 85 ((M 79 8).toNat) 10) 86 ((M 79 8).toNat) 50 → (m_ir ((M 79 8) + 1)) ∧ (m_ir (((M 79 8) + 1) - 1)) ∧ Q (((M 79 8) + 1) - 1) (m_up M4 79 8 ((M 79 8) + 1))) ∧ ((M 79 8) = 6 → Q (-4) M)) : X_ kk_X11_buyer 0 [v_P 79] [] M Q := by
  refine x_aload_n dX11_buyer_0 rfl rfl ?_
  refine x_getI dX11_buyer_1 sh_79 cf_X11 fl_X11_114 (by decide) (by decide) ?_
  refine x_bipush dX11_buyer_4 (by decide) (by decide) ?_
  refine x_ic_ne (tgt := 12) dX11_buyer_6 (by decide) (fun hc => ?_) (fun hc => ?_)
  · replace h := h.1 hc
    refine x_aload_n dX11_buyer_12 rfl rfl ?_
    refine y_getP dX11_buyer_13 sh_79 cf_X11 fl_X11_22 (by decide) (by decide) gg_79_5 ?_
    refine x_aload_n dX11_buyer_16 rfl rfl ?_
    refine x_getI dX11_buyer_17 sh_79 cf_X11 fl_X11_114 (by decide) (by decide) ?_
    refine x_sipush dX11_buyer_20 (by decide) (by decide) ?_
    obtain ⟨s1, h⟩ := h
    refine x_iast dX11_buyer_23 sh_84 s1 ?_
    refine x_aload_n dX11_buyer_24 rfl rfl ?_
    refine y_getP dX11_buyer_25 sh_79 cf_X11 fl_X11_25 (by decide) (by decide) gg_79_6 ?_
    refine x_aload_n dX11_buyer_28 rfl rfl ?_
    refine y_getI (v := (M 79 8)) dX11_buyer_29 sh_79 cf_X11 fl_X11_114 (by decide) (by decide) (m_up_ne (Or.inl (by decide))) ?_
    refine x_bipush dX11_buyer_32 (by decide) (by decide) ?_
    obtain ⟨s2, h⟩ := h
    refine x_iast dX11_buyer_34 sh_85 s2 ?_
    refine x_aload_n dX11_buyer_35 rfl rfl ?_
    refine y_getP dX11_buyer_36 sh_79 cf_X11 fl_X11_28 (by decide) (by decide) gg_79_7 ?_
    refine x_aload_n dX11_buyer_39 rfl rfl ?_
    refine y_getI (v := (M 79 8)) dX11_buyer_40 sh_79 cf_X11 fl_X11_114 (by decide) (by decide) ((m_up_ne (Or.inl (by decide))).trans (m_up_ne (Or.inl (by decide)))) ?_
    refine x_bipush dX11_buyer_43 (by decide) (by decide) ?_
    obtain ⟨s3, h⟩ := h
    refine x_iast dX11_buyer_45 sh_86 s3 ?_
    obtain ⟨M4, e5⟩ : ∃ z : mM, z = m_up (m_up (m_up M 84 ((M 79 8).toNat) 200) 85 ((M 79 8).toNat) 10) 86 ((M 79 8).toNat) 50 := ⟨_, rfl⟩
    rw [← e5]
    replace h := h M4 e5
    refine x_aload_n dX11_buyer_46 rfl rfl ?_
    refine x_dup dX11_buyer_47 (fun _ _ => rfl) ?_
    refine y_getI (v := (M 79 8)) dX11_buyer_48 sh_79 cf_X11 fl_X11_114 (by decide) (by decide) ((congrFun (congrFun e5 79) 8).trans ((m_up_ne (Or.inl (by decide))).trans ((m_up_ne (Or.inl (by decide))).trans (m_up_ne (Or.inl (by decide)))))) ?_
    refine x_iconst dX11_buyer_51 (by decide) ?_
    obtain ⟨s6, h⟩ := h
    refine x_iadd dX11_buyer_52 s6 ?_
    refine x_putI dX11_buyer_53 sh_79 cf_X11 fl_X11_114 (by decide) rfl (by decide) (Or.inl rfl) ?_
    refine x_aload_n dX11_buyer_56 rfl rfl ?_
    refine y_getI (v := ((M 79 8) + 1)) dX11_buyer_57 sh_79 cf_X11 fl_X11_114 (by decide) (by decide) (m_up_same _ _ _ _) ?_
    refine x_iconst dX11_buyer_60 (by decide) ?_
    obtain ⟨s7, h⟩ := h
    refine x_isub dX11_buyer_61 s7 ?_
    refine x_iret dX11_buyer_62 rfl (Or.inl rfl) (fun _ _ => h)
  · replace h := h.2 hc
    refine x_bipush dX11_buyer_9 (by decide) (by decide) ?_
    refine x_iret dX11_buyer_11 rfl (Or.inl rfl) (fun _ _ => h)
theorem wp_X11_set_0 {x1 x2 x3 : Int} {M : mM} {Q : Int → mM → Prop} (h : (0 ≤ M 79 8) ∧ (0 ≤ x1 ∧ x1 < M 79 8 → (0 ≤ x2 ∧ x2 ≤ 2 → (¬ x2 = 0 → (0 ≤ x3 ∧ x3 ≤ 99 → (¬ x2 = 0 → (¬ x2 = 1 → (0 ≤ x1 ∧ x1 < 6) ∧ (¬ x2 = 0 → (¬ x2 = 1 → (0 ≤ x1 ∧ x1 < 6) ∧ Q (M 86 x1.toNat) (m_up M 86 x1.toNat x3)) ∧ (x2 = 1 → (0 ≤ x1 ∧ x1 < 6) ∧ Q (M 86 x1.toNat) (m_up M 85 x1.toNat x3))) ∧ (x2 = 0 → (0 ≤ x1 ∧ x1 < 6) ∧ Q (M 86 x1.toNat) (m_up M 84 x1.toNat x3))) ∧ (x2 = 1 → (0 ≤ x1 ∧ x1 < 6) ∧ (¬ x2 = 0 → (¬ x2 = 1 → (0 ≤ x1 ∧ x1 < 6) ∧ Q (M 85 x1.toNat) (m_up M 86 x1.toNat x3)) ∧ (x2 = 1 → (0 ≤ x1 ∧ x1 < 6) ∧ Q (M 85 x1.toNat) (m_up M 85 x1.toNat x3))) ∧ (x2 = 0 → (0 ≤ x1 ∧ x1 < 6) ∧ Q (M 85 x1.toNat) (m_up M 84 x1.toNat x3)))) ∧ (x2 = 0 → (0 ≤ x1 ∧ x1 < 6) ∧ (¬ x2 = 0 → (¬ x2 = 1 → (0 ≤ x1 ∧ x1 < 6) ∧ Q (M 84 x1.toNat) (m_up M 86 x1.toNat x3)) ∧ (x2 = 1 → (0 ≤ x1 ∧ x1 < 6) ∧ Q (M 84 x1.toNat) (m_up M 85 x1.toNat x3))) ∧ (x2 = 0 → (0 ≤ x1 ∧ x1 < 6) ∧ Q (M 84 x1.toNat) (m_up M 84 x1.toNat x3)))) ∧ (¬ (0 ≤ x3 ∧ x3 ≤ 99) → Q (-2) M)) ∧ (x2 = 0 → (0 ≤ x3 ∧ x3 ≤ 1000 → (¬ x2 = 0 → (¬ x2 = 1 → (0 ≤ x1 ∧ x1 < 6) ∧ (¬ x2 = 0 → (¬ x2 = 1 → (0 ≤ x1 ∧ x1 < 6) ∧ Q (M 86 x1.toNat) (m_up M 86 x1.toNat x3)) ∧ (x2 = 1 → (0 ≤ x1 ∧ x1 < 6) ∧ Q (M 86 x1.toNat) (m_up M 85 x1.toNat x3))) ∧ (x2 = 0 → (0 ≤ x1 ∧ x1 < 6) ∧ Q (M 86 x1.toNat) (m_up M 84 x1.toNat x3))) ∧ (x2 = 1 → (0 ≤ x1 ∧ x1 < 6) ∧ (¬ x2 = 0 → (¬ x2 = 1 → (0 ≤ x1 ∧ x1 < 6) ∧ Q (M 85 x1.toNat) (m_up M 86 x1.toNat x3)) ∧ (x2 = 1 → (0 ≤ x1 ∧ x1 < 6) ∧ Q (M 85 x1.toNat) (m_up M 85 x1.toNat x3))) ∧ (x2 = 0 → (0 ≤ x1 ∧ x1 < 6) ∧ Q (M 85 x1.toNat) (m_up M 84 x1.toNat x3)))) ∧ (x2 = 0 → (0 ≤ x1 ∧ x1 < 6) ∧ (¬ x2 = 0 → (¬ x2 = 1 → (0 ≤ x1 ∧ x1 < 6) ∧ Q (M 84 x1.toNat) (m_up M 86 x1.toNat x3)) ∧ (x2 = 1 → (0 ≤ x1 ∧ x1 < 6) ∧ Q (M 84 x1.toNat) (m_up M 85 x1.toNat x3))) ∧ (x2 = 0 → (0 ≤ x1 ∧ x1 < 6) ∧ Q (M 84 x1.toNat) (m_up M 84 x1.toNat x3)))) ∧ (¬ (0 ≤ x3 ∧ x3 ≤ 1000) → Q (-2) M))) ∧ (¬ (0 ≤ x2 ∧ x2 ≤ 2) → Q (-2) M)) ∧ (¬ (0 ≤ x1 ∧ x1 < M 79 8) → Q (-1) M)) : X_ kk_X11_set 0 [v_P 79, v_I x1, v_I x2, v_I x3, v_U] [] M Q := by
  refine x_aload_n dX11_set_0 rfl rfl ?_
  refine x_iload_n dX11_set_1 rfl rfl ?_
  obtain ⟨s25, h⟩ := h
  refine x_isBuyer (st := []) dX11_set_2 ml_X11_123 ⟨by decide, by decide⟩ (fun _ _ => Nat.le_of_ble_eq_true rfl) s25 (fun hc => ?_) (fun hc => ?_)
  · change X_ kk_X11_set 5 [v_P 79, v_I x1, v_I x2, v_I x3, v_U] [v_I 1] M Q
    replace h := h.1 hc
    refine x_if_ne (tgt := 10) dX11_set_5 (by decide) (fun _ => ?_) (fun hc => absurd hc (by decide))
    refine x_iload_n dX11_set_10 rfl rfl ?_
    refine x_i2l dX11_set_11 ?_
    refine x_lconst (z := 0) dX11_set_12 (by decide) (by decide) ?_
    refine x_ldc2 (z := 2) dX11_set_13 cl_X11_119 (by decide) (by decide) ?_
    refine x_in (st := []) dX11_set_16 ml_X11_110 ⟨by decide, by decide⟩ (fun _ _ => Nat.le_of_ble_eq_true rfl) (fun hc => ?_) (fun hc => ?_)
    · change X_ kk_X11_set 19 [v_P 79, v_I x1, v_I x2, v_I x3, v_U] [v_I 1] M Q
      replace h := h.1 hc
      refine x_if_eq (tgt := 44) dX11_set_19 (by decide) (fun hc => absurd hc (by decide)) (fun _ => ?_)
      refine x_iload_n dX11_set_22 rfl rfl ?_
      refine x_i2l dX11_set_23 ?_
      refine x_lconst (z := 0) dX11_set_24 (by decide) (by decide) ?_
      refine x_iload_n dX11_set_25 rfl rfl ?_
      refine x_if_ne (tgt := 35) dX11_set_26 (by decide) (fun hc => ?_) (fun hc => ?_)
      · replace h := h.1 hc
        refine x_ldc2 (z := 99) dX11_set_35 cl_X11_129 (by decide) (by decide) ?_
        refine x_in (st := []) dX11_set_38 ml_X11_110 ⟨by decide, by decide⟩ (fun _ _ => Nat.le_of_ble_eq_true rfl) (fun hc => ?_) (fun hc => ?_)
        · change X_ kk_X11_set 41 [v_P 79, v_I x1, v_I x2, v_I x3, v_U] [v_I 1] M Q
          replace h := h.1 hc
          refine x_if_ne (tgt := 47) dX11_set_41 (by decide) (fun _ => ?_) (fun hc => absurd hc (by decide))
          refine x_iload_n dX11_set_47 rfl rfl ?_
          refine x_if_ne (tgt := 60) dX11_set_48 (by decide) (fun hc => ?_) (fun hc => ?_)
          · replace h := h.1 hc
            refine x_iload_n dX11_set_60 rfl rfl ?_
            refine x_iconst dX11_set_61 (by decide) ?_
            refine x_ic_ne (tgt := 74) dX11_set_62 (by decide) (fun hc => ?_) (fun hc => ?_)
            · replace h := h.1 hc
              refine x_aload_n dX11_set_74 rfl rfl ?_
              refine y_getP dX11_set_75 sh_79 cf_X11 fl_X11_28 (by decide) (by decide) gg_79_7 ?_
              refine x_iload_n dX11_set_78 rfl rfl ?_
              obtain ⟨s1, h⟩ := h
              refine x_iald dX11_set_79 sh_86 s1 ?_
              refine y_istore (ls' := [v_P 79, v_I x1, v_I x2, v_I x3, v_I (M 86 x1.toNat)]) dX11_set_80 (by decide) rfl ?_
              refine x_iload_n dX11_set_82 rfl rfl ?_
              refine x_if_ne (tgt := 96) dX11_set_83 (by decide) (fun hc => ?_) (fun hc => ?_)
              · replace h := h.1 hc
                refine x_iload_n dX11_set_96 rfl rfl ?_
                refine x_iconst dX11_set_97 (by decide) ?_
                refine x_ic_ne (tgt := 111) dX11_set_98 (by decide) (fun hc => ?_) (fun hc => ?_)
                · replace h := h.1 hc
                  refine x_aload_n dX11_set_111 rfl rfl ?_
                  refine y_getP dX11_set_112 sh_79 cf_X11 fl_X11_28 (by decide) (by decide) gg_79_7 ?_
                  refine x_iload_n dX11_set_115 rfl rfl ?_
                  refine x_iload_n dX11_set_116 rfl rfl ?_
                  obtain ⟨s2, h⟩ := h
                  refine x_iast dX11_set_117 sh_86 s2 ?_
                  refine x_iload dX11_set_118 rfl ?_
                  refine x_iret dX11_set_120 rfl (Or.inl rfl) (fun _ _ => h)
                · replace h := h.2 hc
                  refine x_aload_n dX11_set_101 rfl rfl ?_
                  refine y_getP dX11_set_102 sh_79 cf_X11 fl_X11_25 (by decide) (by decide) gg_79_6 ?_
                  refine x_iload_n dX11_set_105 rfl rfl ?_
                  refine x_iload_n dX11_set_106 rfl rfl ?_
                  obtain ⟨s3, h⟩ := h
                  refine x_iast dX11_set_107 sh_85 s3 ?_
                  refine x_goto (tgt := 118) dX11_set_108 (by decide) ?_
                  refine x_iload dX11_set_118 rfl ?_
                  refine x_iret dX11_set_120 rfl (Or.inl rfl) (fun _ _ => h)
              · replace h := h.2 hc
                refine x_aload_n dX11_set_86 rfl rfl ?_
                refine y_getP dX11_set_87 sh_79 cf_X11 fl_X11_22 (by decide) (by decide) gg_79_5 ?_
                refine x_iload_n dX11_set_90 rfl rfl ?_
                refine x_iload_n dX11_set_91 rfl rfl ?_
                obtain ⟨s4, h⟩ := h
                refine x_iast dX11_set_92 sh_84 s4 ?_
                refine x_goto (tgt := 118) dX11_set_93 (by decide) ?_
                refine x_iload dX11_set_118 rfl ?_
                refine x_iret dX11_set_120 rfl (Or.inl rfl) (fun _ _ => h)
            · replace h := h.2 hc
              refine x_aload_n dX11_set_65 rfl rfl ?_
              refine y_getP dX11_set_66 sh_79 cf_X11 fl_X11_25 (by decide) (by decide) gg_79_6 ?_
              refine x_iload_n dX11_set_69 rfl rfl ?_
              obtain ⟨s5, h⟩ := h
              refine x_iald dX11_set_70 sh_85 s5 ?_
              refine x_goto (tgt := 80) dX11_set_71 (by decide) ?_
              refine y_istore (ls' := [v_P 79, v_I x1, v_I x2, v_I x3, v_I (M 85 x1.toNat)]) dX11_set_80 (by decide) rfl ?_
              refine x_iload_n dX11_set_82 rfl rfl ?_
              refine x_if_ne (tgt := 96) dX11_set_83 (by decide) (fun hc => ?_) (fun hc => ?_)
              · replace h := h.1 hc
                refine x_iload_n dX11_set_96 rfl rfl ?_
                refine x_iconst dX11_set_97 (by decide) ?_
                refine x_ic_ne (tgt := 111) dX11_set_98 (by decide) (fun hc => ?_) (fun hc => ?_)
                · replace h := h.1 hc
                  refine x_aload_n dX11_set_111 rfl rfl ?_
                  refine y_getP dX11_set_112 sh_79 cf_X11 fl_X11_28 (by decide) (by decide) gg_79_7 ?_
                  refine x_iload_n dX11_set_115 rfl rfl ?_
                  refine x_iload_n dX11_set_116 rfl rfl ?_
                  obtain ⟨s6, h⟩ := h
                  refine x_iast dX11_set_117 sh_86 s6 ?_
                  refine x_iload dX11_set_118 rfl ?_
                  refine x_iret dX11_set_120 rfl (Or.inl rfl) (fun _ _ => h)
                · replace h := h.2 hc
                  refine x_aload_n dX11_set_101 rfl rfl ?_
                  refine y_getP dX11_set_102 sh_79 cf_X11 fl_X11_25 (by decide) (by decide) gg_79_6 ?_
                  refine x_iload_n dX11_set_105 rfl rfl ?_
                  refine x_iload_n dX11_set_106 rfl rfl ?_
                  obtain ⟨s7, h⟩ := h
                  refine x_iast dX11_set_107 sh_85 s7 ?_
                  refine x_goto (tgt := 118) dX11_set_108 (by decide) ?_
                  refine x_iload dX11_set_118 rfl ?_
                  refine x_iret dX11_set_120 rfl (Or.inl rfl) (fun _ _ => h)
              · replace h := h.2 hc
                refine x_aload_n dX11_set_86 rfl rfl ?_
                refine y_getP dX11_set_87 sh_79 cf_X11 fl_X11_22 (by decide) (by decide) gg_79_5 ?_
                refine x_iload_n dX11_set_90 rfl rfl ?_
                refine x_iload_n dX11_set_91 rfl rfl ?_
                obtain ⟨s8, h⟩ := h
                refine x_iast dX11_set_92 sh_84 s8 ?_
                refine x_goto (tgt := 118) dX11_set_93 (by decide) ?_
                refine x_iload dX11_set_118 rfl ?_
                refine x_iret dX11_set_120 rfl (Or.inl rfl) (fun _ _ => h)
          · replace h := h.2 hc
            refine x_aload_n dX11_set_51 rfl rfl ?_
            refine y_getP dX11_set_52 sh_79 cf_X11 fl_X11_22 (by decide) (by decide) gg_79_5 ?_
            refine x_iload_n dX11_set_55 rfl rfl ?_
            obtain ⟨s9, h⟩ := h
            refine x_iald dX11_set_56 sh_84 s9 ?_
            refine x_goto (tgt := 80) dX11_set_57 (by decide) ?_
            refine y_istore (ls' := [v_P 79, v_I x1, v_I x2, v_I x3, v_I (M 84 x1.toNat)]) dX11_set_80 (by decide) rfl ?_
            refine x_iload_n dX11_set_82 rfl rfl ?_
            refine x_if_ne (tgt := 96) dX11_set_83 (by decide) (fun hc => ?_) (fun hc => ?_)
            · replace h := h.1 hc
              refine x_iload_n dX11_set_96 rfl rfl ?_
              refine x_iconst dX11_set_97 (by decide) ?_
              refine x_ic_ne (tgt := 111) dX11_set_98 (by decide) (fun hc => ?_) (fun hc => ?_)
              · replace h := h.1 hc
                refine x_aload_n dX11_set_111 rfl rfl ?_
                refine y_getP dX11_set_112 sh_79 cf_X11 fl_X11_28 (by decide) (by decide) gg_79_7 ?_
                refine x_iload_n dX11_set_115 rfl rfl ?_
                refine x_iload_n dX11_set_116 rfl rfl ?_
                obtain ⟨s10, h⟩ := h
                refine x_iast dX11_set_117 sh_86 s10 ?_
                refine x_iload dX11_set_118 rfl ?_
                refine x_iret dX11_set_120 rfl (Or.inl rfl) (fun _ _ => h)
              · replace h := h.2 hc
                refine x_aload_n dX11_set_101 rfl rfl ?_
                refine y_getP dX11_set_102 sh_79 cf_X11 fl_X11_25 (by decide) (by decide) gg_79_6 ?_
                refine x_iload_n dX11_set_105 rfl rfl ?_
                refine x_iload_n dX11_set_106 rfl rfl ?_
                obtain ⟨s11, h⟩ := h
                refine x_iast dX11_set_107 sh_85 s11 ?_
                refine x_goto (tgt := 118) dX11_set_108 (by decide) ?_
                refine x_iload dX11_set_118 rfl ?_
                refine x_iret dX11_set_120 rfl (Or.inl rfl) (fun _ _ => h)
            · replace h := h.2 hc
              refine x_aload_n dX11_set_86 rfl rfl ?_
              refine y_getP dX11_set_87 sh_79 cf_X11 fl_X11_22 (by decide) (by decide) gg_79_5 ?_
              refine x_iload_n dX11_set_90 rfl rfl ?_
              refine x_iload_n dX11_set_91 rfl rfl ?_
              obtain ⟨s12, h⟩ := h
              refine x_iast dX11_set_92 sh_84 s12 ?_
              refine x_goto (tgt := 118) dX11_set_93 (by decide) ?_
              refine x_iload dX11_set_118 rfl ?_
              refine x_iret dX11_set_120 rfl (Or.inl rfl) (fun _ _ => h)
        · change X_ kk_X11_set 41 [v_P 79, v_I x1, v_I x2, v_I x3, v_U] [v_I 0] M Q
          replace h := h.2 hc
          refine x_if_ne (tgt := 47) dX11_set_41 (by decide) (fun hc => absurd hc (by decide)) (fun _ => ?_)
          refine x_bipush dX11_set_44 (by decide) (by decide) ?_
          refine x_iret dX11_set_46 rfl (Or.inl rfl) (fun _ _ => h)
      · replace h := h.2 hc
        refine x_ldc2 (z := 1000) dX11_set_29 cl_X11_127 (by decide) (by decide) ?_
        refine x_goto (tgt := 38) dX11_set_32 (by decide) ?_
        refine x_in (st := []) dX11_set_38 ml_X11_110 ⟨by decide, by decide⟩ (fun _ _ => Nat.le_of_ble_eq_true rfl) (fun hc => ?_) (fun hc => ?_)
        · change X_ kk_X11_set 41 [v_P 79, v_I x1, v_I x2, v_I x3, v_U] [v_I 1] M Q
          replace h := h.1 hc
          refine x_if_ne (tgt := 47) dX11_set_41 (by decide) (fun _ => ?_) (fun hc => absurd hc (by decide))
          refine x_iload_n dX11_set_47 rfl rfl ?_
          refine x_if_ne (tgt := 60) dX11_set_48 (by decide) (fun hc => ?_) (fun hc => ?_)
          · replace h := h.1 hc
            refine x_iload_n dX11_set_60 rfl rfl ?_
            refine x_iconst dX11_set_61 (by decide) ?_
            refine x_ic_ne (tgt := 74) dX11_set_62 (by decide) (fun hc => ?_) (fun hc => ?_)
            · replace h := h.1 hc
              refine x_aload_n dX11_set_74 rfl rfl ?_
              refine y_getP dX11_set_75 sh_79 cf_X11 fl_X11_28 (by decide) (by decide) gg_79_7 ?_
              refine x_iload_n dX11_set_78 rfl rfl ?_
              obtain ⟨s13, h⟩ := h
              refine x_iald dX11_set_79 sh_86 s13 ?_
              refine y_istore (ls' := [v_P 79, v_I x1, v_I x2, v_I x3, v_I (M 86 x1.toNat)]) dX11_set_80 (by decide) rfl ?_
              refine x_iload_n dX11_set_82 rfl rfl ?_
              refine x_if_ne (tgt := 96) dX11_set_83 (by decide) (fun hc => ?_) (fun hc => ?_)
              · replace h := h.1 hc
                refine x_iload_n dX11_set_96 rfl rfl ?_
                refine x_iconst dX11_set_97 (by decide) ?_
                refine x_ic_ne (tgt := 111) dX11_set_98 (by decide) (fun hc => ?_) (fun hc => ?_)
                · replace h := h.1 hc
                  refine x_aload_n dX11_set_111 rfl rfl ?_
                  refine y_getP dX11_set_112 sh_79 cf_X11 fl_X11_28 (by decide) (by decide) gg_79_7 ?_
                  refine x_iload_n dX11_set_115 rfl rfl ?_
                  refine x_iload_n dX11_set_116 rfl rfl ?_
                  obtain ⟨s14, h⟩ := h
                  refine x_iast dX11_set_117 sh_86 s14 ?_
                  refine x_iload dX11_set_118 rfl ?_
                  refine x_iret dX11_set_120 rfl (Or.inl rfl) (fun _ _ => h)
                · replace h := h.2 hc
                  refine x_aload_n dX11_set_101 rfl rfl ?_
                  refine y_getP dX11_set_102 sh_79 cf_X11 fl_X11_25 (by decide) (by decide) gg_79_6 ?_
                  refine x_iload_n dX11_set_105 rfl rfl ?_
                  refine x_iload_n dX11_set_106 rfl rfl ?_
                  obtain ⟨s15, h⟩ := h
                  refine x_iast dX11_set_107 sh_85 s15 ?_
                  refine x_goto (tgt := 118) dX11_set_108 (by decide) ?_
                  refine x_iload dX11_set_118 rfl ?_
                  refine x_iret dX11_set_120 rfl (Or.inl rfl) (fun _ _ => h)
              · replace h := h.2 hc
                refine x_aload_n dX11_set_86 rfl rfl ?_
                refine y_getP dX11_set_87 sh_79 cf_X11 fl_X11_22 (by decide) (by decide) gg_79_5 ?_
                refine x_iload_n dX11_set_90 rfl rfl ?_
                refine x_iload_n dX11_set_91 rfl rfl ?_
                obtain ⟨s16, h⟩ := h
                refine x_iast dX11_set_92 sh_84 s16 ?_
                refine x_goto (tgt := 118) dX11_set_93 (by decide) ?_
                refine x_iload dX11_set_118 rfl ?_
                refine x_iret dX11_set_120 rfl (Or.inl rfl) (fun _ _ => h)
            · replace h := h.2 hc
              refine x_aload_n dX11_set_65 rfl rfl ?_
              refine y_getP dX11_set_66 sh_79 cf_X11 fl_X11_25 (by decide) (by decide) gg_79_6 ?_
              refine x_iload_n dX11_set_69 rfl rfl ?_
              obtain ⟨s17, h⟩ := h
              refine x_iald dX11_set_70 sh_85 s17 ?_
              refine x_goto (tgt := 80) dX11_set_71 (by decide) ?_
              refine y_istore (ls' := [v_P 79, v_I x1, v_I x2, v_I x3, v_I (M 85 x1.toNat)]) dX11_set_80 (by decide) rfl ?_
              refine x_iload_n dX11_set_82 rfl rfl ?_
              refine x_if_ne (tgt := 96) dX11_set_83 (by decide) (fun hc => ?_) (fun hc => ?_)
              · replace h := h.1 hc
                refine x_iload_n dX11_set_96 rfl rfl ?_
                refine x_iconst dX11_set_97 (by decide) ?_
                refine x_ic_ne (tgt := 111) dX11_set_98 (by decide) (fun hc => ?_) (fun hc => ?_)
                · replace h := h.1 hc
                  refine x_aload_n dX11_set_111 rfl rfl ?_
                  refine y_getP dX11_set_112 sh_79 cf_X11 fl_X11_28 (by decide) (by decide) gg_79_7 ?_
                  refine x_iload_n dX11_set_115 rfl rfl ?_
                  refine x_iload_n dX11_set_116 rfl rfl ?_
                  obtain ⟨s18, h⟩ := h
                  refine x_iast dX11_set_117 sh_86 s18 ?_
                  refine x_iload dX11_set_118 rfl ?_
                  refine x_iret dX11_set_120 rfl (Or.inl rfl) (fun _ _ => h)
                · replace h := h.2 hc
                  refine x_aload_n dX11_set_101 rfl rfl ?_
                  refine y_getP dX11_set_102 sh_79 cf_X11 fl_X11_25 (by decide) (by decide) gg_79_6 ?_
                  refine x_iload_n dX11_set_105 rfl rfl ?_
                  refine x_iload_n dX11_set_106 rfl rfl ?_
                  obtain ⟨s19, h⟩ := h
                  refine x_iast dX11_set_107 sh_85 s19 ?_
                  refine x_goto (tgt := 118) dX11_set_108 (by decide) ?_
                  refine x_iload dX11_set_118 rfl ?_
                  refine x_iret dX11_set_120 rfl (Or.inl rfl) (fun _ _ => h)
              · replace h := h.2 hc
                refine x_aload_n dX11_set_86 rfl rfl ?_
                refine y_getP dX11_set_87 sh_79 cf_X11 fl_X11_22 (by decide) (by decide) gg_79_5 ?_
                refine x_iload_n dX11_set_90 rfl rfl ?_
                refine x_iload_n dX11_set_91 rfl rfl ?_
                obtain ⟨s20, h⟩ := h
                refine x_iast dX11_set_92 sh_84 s20 ?_
                refine x_goto (tgt := 118) dX11_set_93 (by decide) ?_
                refine x_iload dX11_set_118 rfl ?_
                refine x_iret dX11_set_120 rfl (Or.inl rfl) (fun _ _ => h)
          · replace h := h.2 hc
            refine x_aload_n dX11_set_51 rfl rfl ?_
            refine y_getP dX11_set_52 sh_79 cf_X11 fl_X11_22 (by decide) (by decide) gg_79_5 ?_
            refine x_iload_n dX11_set_55 rfl rfl ?_
            obtain ⟨s21, h⟩ := h
            refine x_iald dX11_set_56 sh_84 s21 ?_
            refine x_goto (tgt := 80) dX11_set_57 (by decide) ?_
            refine y_istore (ls' := [v_P 79, v_I x1, v_I x2, v_I x3, v_I (M 84 x1.toNat)]) dX11_set_80 (by decide) rfl ?_
            refine x_iload_n dX11_set_82 rfl rfl ?_
            refine x_if_ne (tgt := 96) dX11_set_83 (by decide) (fun hc => ?_) (fun hc => ?_)
            · replace h := h.1 hc
              refine x_iload_n dX11_set_96 rfl rfl ?_
              refine x_iconst dX11_set_97 (by decide) ?_
              refine x_ic_ne (tgt := 111) dX11_set_98 (by decide) (fun hc => ?_) (fun hc => ?_)
              · replace h := h.1 hc
                refine x_aload_n dX11_set_111 rfl rfl ?_
                refine y_getP dX11_set_112 sh_79 cf_X11 fl_X11_28 (by decide) (by decide) gg_79_7 ?_
                refine x_iload_n dX11_set_115 rfl rfl ?_
                refine x_iload_n dX11_set_116 rfl rfl ?_
                obtain ⟨s22, h⟩ := h
                refine x_iast dX11_set_117 sh_86 s22 ?_
                refine x_iload dX11_set_118 rfl ?_
                refine x_iret dX11_set_120 rfl (Or.inl rfl) (fun _ _ => h)
              · replace h := h.2 hc
                refine x_aload_n dX11_set_101 rfl rfl ?_
                refine y_getP dX11_set_102 sh_79 cf_X11 fl_X11_25 (by decide) (by decide) gg_79_6 ?_
                refine x_iload_n dX11_set_105 rfl rfl ?_
                refine x_iload_n dX11_set_106 rfl rfl ?_
                obtain ⟨s23, h⟩ := h
                refine x_iast dX11_set_107 sh_85 s23 ?_
                refine x_goto (tgt := 118) dX11_set_108 (by decide) ?_
                refine x_iload dX11_set_118 rfl ?_
                refine x_iret dX11_set_120 rfl (Or.inl rfl) (fun _ _ => h)
            · replace h := h.2 hc
              refine x_aload_n dX11_set_86 rfl rfl ?_
              refine y_getP dX11_set_87 sh_79 cf_X11 fl_X11_22 (by decide) (by decide) gg_79_5 ?_
              refine x_iload_n dX11_set_90 rfl rfl ?_
              refine x_iload_n dX11_set_91 rfl rfl ?_
              obtain ⟨s24, h⟩ := h
              refine x_iast dX11_set_92 sh_84 s24 ?_
              refine x_goto (tgt := 118) dX11_set_93 (by decide) ?_
              refine x_iload dX11_set_118 rfl ?_
              refine x_iret dX11_set_120 rfl (Or.inl rfl) (fun _ _ => h)
        · change X_ kk_X11_set 41 [v_P 79, v_I x1, v_I x2, v_I x3, v_U] [v_I 0] M Q
          replace h := h.2 hc
          refine x_if_ne (tgt := 47) dX11_set_41 (by decide) (fun hc => absurd hc (by decide)) (fun _ => ?_)
          refine x_bipush dX11_set_44 (by decide) (by decide) ?_
          refine x_iret dX11_set_46 rfl (Or.inl rfl) (fun _ _ => h)
    · change X_ kk_X11_set 19 [v_P 79, v_I x1, v_I x2, v_I x3, v_U] [v_I 0] M Q
      replace h := h.2 hc
      refine x_if_eq (tgt := 44) dX11_set_19 (by decide) (fun _ => ?_) (fun hc => absurd hc (by decide))
      refine x_bipush dX11_set_44 (by decide) (by decide) ?_
      refine x_iret dX11_set_46 rfl (Or.inl rfl) (fun _ _ => h)
  · change X_ kk_X11_set 5 [v_P 79, v_I x1, v_I x2, v_I x3, v_U] [v_I 0] M Q
    replace h := h.2 hc
    refine x_if_ne (tgt := 10) dX11_set_5 (by decide) (fun hc => absurd hc (by decide)) (fun _ => ?_)
    refine x_iconst dX11_set_8 (by decide) ?_
    refine x_iret dX11_set_9 rfl (Or.inl rfl) (fun _ _ => h)
theorem wp_X11_say_0 {x1 : Int} {M : mM} {Q : Int → mM → Prop} (h : (33 ≤ x1 ∧ x1 ≤ 126 → (¬ (M 79 11) = 50 → (0 ≤ (M 79 11) ∧ (M 79 11) < 50) ∧ (m_ir ((M 79 11) + 1)) ∧ Q ((M 79 11) + 1) (m_up (m_up M 87 ((M 79 11).toNat) x1) 79 11 ((M 79 11) + 1))) ∧ ((M 79 11) = 50 → Q (-4) M)) ∧ (¬ (33 ≤ x1 ∧ x1 ≤ 126) → Q (-2) M)) : X_ kk_X11_say 0 [v_P 79, v_I x1] [] M Q := by
  refine x_iload_n dX11_say_0 rfl rfl ?_
  refine x_i2l dX11_say_1 ?_
  refine x_ldc2 (z := 33) dX11_say_2 cl_X11_131 (by decide) (by decide) ?_
  refine x_ldc2 (z := 126) dX11_say_5 cl_X11_133 (by decide) (by decide) ?_
  refine x_in (st := []) dX11_say_8 ml_X11_110 ⟨by decide, by decide⟩ (fun _ _ => Nat.le_of_ble_eq_true rfl) (fun hc => ?_) (fun hc => ?_)
  · change X_ kk_X11_say 11 [v_P 79, v_I x1] [v_I 1] M Q
    replace h := h.1 hc
    refine x_if_ne (tgt := 17) dX11_say_11 (by decide) (fun _ => ?_) (fun hc => absurd hc (by decide))
    refine x_aload_n dX11_say_17 rfl rfl ?_
    refine x_getI dX11_say_18 sh_79 cf_X11 fl_X11_135 (by decide) (by decide) ?_
    refine x_bipush dX11_say_21 (by decide) (by decide) ?_
    refine x_ic_ne (tgt := 29) dX11_say_23 (by decide) (fun hc => ?_) (fun hc => ?_)
    · replace h := h.1 hc
      refine x_aload_n dX11_say_29 rfl rfl ?_
      refine y_getP dX11_say_30 sh_79 cf_X11 fl_X11_31 (by decide) (by decide) gg_79_10 ?_
      refine x_aload_n dX11_say_33 rfl rfl ?_
      refine x_getI dX11_say_34 sh_79 cf_X11 fl_X11_135 (by decide) (by decide) ?_
      refine x_iload_n dX11_say_37 rfl rfl ?_
      obtain ⟨s1, h⟩ := h
      refine x_iast dX11_say_38 sh_87 s1 ?_
      refine x_aload_n dX11_say_39 rfl rfl ?_
      refine x_dup dX11_say_40 (fun _ _ => rfl) ?_
      refine y_getI (v := (M 79 11)) dX11_say_41 sh_79 cf_X11 fl_X11_135 (by decide) (by decide) (m_up_ne (Or.inl (by decide))) ?_
      refine x_iconst dX11_say_44 (by decide) ?_
      obtain ⟨s2, h⟩ := h
      refine x_iadd dX11_say_45 s2 ?_
      refine x_putI dX11_say_46 sh_79 cf_X11 fl_X11_135 (by decide) rfl (by decide) (Or.inl rfl) ?_
      refine x_aload_n dX11_say_49 rfl rfl ?_
      refine y_getI (v := ((M 79 11) + 1)) dX11_say_50 sh_79 cf_X11 fl_X11_135 (by decide) (by decide) (m_up_same _ _ _ _) ?_
      refine x_iret dX11_say_53 rfl (Or.inl rfl) (fun _ _ => h)
    · replace h := h.2 hc
      refine x_bipush dX11_say_26 (by decide) (by decide) ?_
      refine x_iret dX11_say_28 rfl (Or.inl rfl) (fun _ _ => h)
  · change X_ kk_X11_say 11 [v_P 79, v_I x1] [v_I 0] M Q
    replace h := h.2 hc
    refine x_if_ne (tgt := 17) dX11_say_11 (by decide) (fun hc => absurd hc (by decide)) (fun _ => ?_)
    refine x_bipush dX11_say_14 (by decide) (by decide) ?_
    refine x_iret dX11_say_16 rfl (Or.inl rfl) (fun _ _ => h)
theorem wp_X11_wipe_0 {M : mM} {Q : Int → mM → Prop} (h : Q (M 79 11) (m_up M 79 11 0)) : X_ kk_X11_wipe 0 [v_P 79, v_U] [] M Q := by
  refine x_aload_n dX11_wipe_0 rfl rfl ?_
  refine x_getI dX11_wipe_1 sh_79 cf_X11 fl_X11_135 (by decide) (by decide) ?_
  refine y_istore_n (ls' := [v_P 79, v_I (M 79 11)]) dX11_wipe_4 rfl (by decide) rfl ?_
  refine x_aload_n dX11_wipe_5 rfl rfl ?_
  refine x_iconst dX11_wipe_6 (by decide) ?_
  refine x_putI dX11_wipe_7 sh_79 cf_X11 fl_X11_135 (by decide) rfl (by decide) (Or.inl rfl) ?_
  refine x_iload_n dX11_wipe_10 rfl rfl ?_
  refine x_iret dX11_wipe_11 rfl (Or.inl rfl) (fun _ _ => h)
theorem wp_X11_stepOf_0 {x0 x1 x2 x3 : Int} {M : mM} {Q : Int → mM → Prop} (h : (49 ≤ x1 ∧ x1 ≤ 57 → (x0 = 0 → Q 1 M) ∧ (x0 = 1 → (97 ≤ x1 ∧ x1 ≤ 101 → (x1 ≤ x2 → Q (-1) M) ∧ (¬ x1 ≤ x2 → Q 2 M)) ∧ (¬ (97 ≤ x1 ∧ x1 ≤ 101) → Q (-1) M)) ∧ (x0 = 2 → (¬ x1 = 61 → (101 ≤ x2 → Q (-1) M) ∧ (¬ 101 ≤ x2 → Q 1 M)) ∧ (x1 = 61 → Q 3 M)) ∧ (x0 = 3 → (48 ≤ x1 ∧ x1 ≤ 57 → Q 4 M) ∧ (¬ (48 ≤ x1 ∧ x1 ≤ 57) → Q (-1) M)) ∧ ((x0 < 0 ∨ 3 < x0) → (48 ≤ x1 ∧ x1 ≤ 57 → (6 ≤ x0 → Q (-1) M) ∧ (¬ 6 ≤ x0 → (m_ir (x0 + 1)) ∧ Q (x0 + 1) M)) ∧ (¬ (48 ≤ x1 ∧ x1 ≤ 57) → (¬ x1 = 124 → Q (-1) M) ∧ (x1 = 124 → (6 ≤ x3 → Q (-1) M) ∧ (¬ 6 ≤ x3 → Q 0 M))))) ∧ (¬ (49 ≤ x1 ∧ x1 ≤ 57) → (x0 = 0 → Q (-1) M) ∧ (x0 = 1 → (97 ≤ x1 ∧ x1 ≤ 101 → (x1 ≤ x2 → Q (-1) M) ∧ (¬ x1 ≤ x2 → Q 2 M)) ∧ (¬ (97 ≤ x1 ∧ x1 ≤ 101) → Q (-1) M)) ∧ (x0 = 2 → (¬ x1 = 61 → Q (-1) M) ∧ (x1 = 61 → Q 3 M)) ∧ (x0 = 3 → (48 ≤ x1 ∧ x1 ≤ 57 → Q 4 M) ∧ (¬ (48 ≤ x1 ∧ x1 ≤ 57) → Q (-1) M)) ∧ ((x0 < 0 ∨ 3 < x0) → (48 ≤ x1 ∧ x1 ≤ 57 → (6 ≤ x0 → Q (-1) M) ∧ (¬ 6 ≤ x0 → (m_ir (x0 + 1)) ∧ Q (x0 + 1) M)) ∧ (¬ (48 ≤ x1 ∧ x1 ≤ 57) → (¬ x1 = 124 → Q (-1) M) ∧ (x1 = 124 → (6 ≤ x3 → Q (-1) M) ∧ (¬ 6 ≤ x3 → Q 0 M)))))) : X_ kk_X11_stepOf 0 [v_I x0, v_I x1, v_I x2, v_I x3, v_U] [] M Q := by
  refine x_iload_n dX11_stepOf_0 rfl rfl ?_
  refine x_i2l dX11_stepOf_1 ?_
  refine x_ldc2 (z := 49) dX11_stepOf_2 cl_X11_138 (by decide) (by decide) ?_
  refine x_ldc2 (z := 57) dX11_stepOf_5 cl_X11_140 (by decide) (by decide) ?_
  refine x_in (st := []) dX11_stepOf_8 ml_X11_110 ⟨by decide, by decide⟩ (fun _ _ => Nat.le_of_ble_eq_true rfl) (fun hc => ?_) (fun hc => ?_)
  · change X_ kk_X11_stepOf 11 [v_I x0, v_I x1, v_I x2, v_I x3, v_U] [v_I 1] M Q
    replace h := h.1 hc
    refine y_istore (ls' := [v_I x0, v_I x1, v_I x2, v_I x3, v_I 1]) dX11_stepOf_11 (by decide) rfl ?_
    refine x_iload_n dX11_stepOf_13 rfl rfl ?_
    by_cases hx : x0 = 0
    · refine x_tsIn (k := kk_X11_stepOf) (pc := 14) (x := x0) (j := 0) (off := 30) (tgt := 44) dX11_stepOf_14 hx ⟨by decide, by decide⟩ rfl (by decide) ?_
      replace h := h.1 hx
      refine x_iload dX11_stepOf_44 rfl ?_
      refine x_if_eq (tgt := 53) dX11_stepOf_46 (by decide) (fun hc => absurd hc (by decide)) (fun _ => ?_)
      refine x_iconst dX11_stepOf_49 (by decide) ?_
      refine x_goto (tgt := 54) dX11_stepOf_50 (by decide) ?_
      refine x_iret dX11_stepOf_54 rfl (Or.inl rfl) (fun _ _ => h)
    · replace h := h.2
      by_cases hx : x0 = 1
      · refine x_tsIn (k := kk_X11_stepOf) (pc := 14) (x := x0) (j := 1) (off := 41) (tgt := 55) dX11_stepOf_14 hx ⟨by decide, by decide⟩ rfl (by decide) ?_
        replace h := h.1 hx
        refine x_iload_n dX11_stepOf_55 rfl rfl ?_
        refine x_i2l dX11_stepOf_56 ?_
        refine x_ldc2 (z := 97) dX11_stepOf_57 cl_X11_142 (by decide) (by decide) ?_
        refine x_ldc2 (z := 101) dX11_stepOf_60 cl_X11_144 (by decide) (by decide) ?_
        refine x_in (st := []) dX11_stepOf_63 ml_X11_110 ⟨by decide, by decide⟩ (fun _ _ => Nat.le_of_ble_eq_true rfl) (fun hc => ?_) (fun hc => ?_)
        · change X_ kk_X11_stepOf 66 [v_I x0, v_I x1, v_I x2, v_I x3, v_I 1] [v_I 1] M Q
          replace h := h.1 hc
          refine x_if_eq (tgt := 78) dX11_stepOf_66 (by decide) (fun hc => absurd hc (by decide)) (fun _ => ?_)
          refine x_iload_n dX11_stepOf_69 rfl rfl ?_
          refine x_iload_n dX11_stepOf_70 rfl rfl ?_
          refine x_ic_le (tgt := 78) dX11_stepOf_71 (by decide) (fun hc => ?_) (fun hc => ?_)
          · replace h := h.1 hc
            refine x_iconst dX11_stepOf_78 (by decide) ?_
            refine x_iret dX11_stepOf_79 rfl (Or.inl rfl) (fun _ _ => h)
          · replace h := h.2 hc
            refine x_iconst dX11_stepOf_74 (by decide) ?_
            refine x_goto (tgt := 79) dX11_stepOf_75 (by decide) ?_
            refine x_iret dX11_stepOf_79 rfl (Or.inl rfl) (fun _ _ => h)
        · change X_ kk_X11_stepOf 66 [v_I x0, v_I x1, v_I x2, v_I x3, v_I 1] [v_I 0] M Q
          replace h := h.2 hc
          refine x_if_eq (tgt := 78) dX11_stepOf_66 (by decide) (fun _ => ?_) (fun hc => absurd hc (by decide))
          refine x_iconst dX11_stepOf_78 (by decide) ?_
          refine x_iret dX11_stepOf_79 rfl (Or.inl rfl) (fun _ _ => h)
      · replace h := h.2
        by_cases hx : x0 = 2
        · refine x_tsIn (k := kk_X11_stepOf) (pc := 14) (x := x0) (j := 2) (off := 66) (tgt := 80) dX11_stepOf_14 hx ⟨by decide, by decide⟩ rfl (by decide) ?_
          replace h := h.1 hx
          refine x_iload_n dX11_stepOf_80 rfl rfl ?_
          refine x_bipush dX11_stepOf_81 (by decide) (by decide) ?_
          refine x_ic_ne (tgt := 90) dX11_stepOf_83 (by decide) (fun hc => ?_) (fun hc => ?_)
          · replace h := h.1 hc
            refine x_iload dX11_stepOf_90 rfl ?_
            refine x_if_eq (tgt := 105) dX11_stepOf_92 (by decide) (fun hc => absurd hc (by decide)) (fun _ => ?_)
            refine x_iload_n dX11_stepOf_95 rfl rfl ?_
            refine x_bipush dX11_stepOf_96 (by decide) (by decide) ?_
            refine x_ic_ge (tgt := 105) dX11_stepOf_98 (by decide) (fun hc => ?_) (fun hc => ?_)
            · replace h := h.1 hc
              refine x_iconst dX11_stepOf_105 (by decide) ?_
              refine x_iret dX11_stepOf_106 rfl (Or.inl rfl) (fun _ _ => h)
            · replace h := h.2 hc
              refine x_iconst dX11_stepOf_101 (by decide) ?_
              refine x_goto (tgt := 106) dX11_stepOf_102 (by decide) ?_
              refine x_iret dX11_stepOf_106 rfl (Or.inl rfl) (fun _ _ => h)
          · replace h := h.2 hc
            refine x_iconst dX11_stepOf_86 (by decide) ?_
            refine x_goto (tgt := 106) dX11_stepOf_87 (by decide) ?_
            refine x_iret dX11_stepOf_106 rfl (Or.inl rfl) (fun _ _ => h)
        · replace h := h.2
          by_cases hx : x0 = 3
          · refine x_tsIn (k := kk_X11_stepOf) (pc := 14) (x := x0) (j := 3) (off := 93) (tgt := 107) dX11_stepOf_14 hx ⟨by decide, by decide⟩ rfl (by decide) ?_
            replace h := h.1 hx
            refine x_iload_n dX11_stepOf_107 rfl rfl ?_
            refine x_i2l dX11_stepOf_108 ?_
            refine x_ldc2 (z := 48) dX11_stepOf_109 cl_X11_146 (by decide) (by decide) ?_
            refine x_ldc2 (z := 57) dX11_stepOf_112 cl_X11_140 (by decide) (by decide) ?_
            refine x_in (st := []) dX11_stepOf_115 ml_X11_110 ⟨by decide, by decide⟩ (fun _ _ => Nat.le_of_ble_eq_true rfl) (fun hc => ?_) (fun hc => ?_)
            · change X_ kk_X11_stepOf 118 [v_I x0, v_I x1, v_I x2, v_I x3, v_I 1] [v_I 1] M Q
              replace h := h.1 hc
              refine x_if_eq (tgt := 125) dX11_stepOf_118 (by decide) (fun hc => absurd hc (by decide)) (fun _ => ?_)
              refine x_iconst dX11_stepOf_121 (by decide) ?_
              refine x_goto (tgt := 126) dX11_stepOf_122 (by decide) ?_
              refine x_iret dX11_stepOf_126 rfl (Or.inl rfl) (fun _ _ => h)
            · change X_ kk_X11_stepOf 118 [v_I x0, v_I x1, v_I x2, v_I x3, v_I 1] [v_I 0] M Q
              replace h := h.2 hc
              refine x_if_eq (tgt := 125) dX11_stepOf_118 (by decide) (fun _ => ?_) (fun hc => absurd hc (by decide))
              refine x_iconst dX11_stepOf_125 (by decide) ?_
              refine x_iret dX11_stepOf_126 rfl (Or.inl rfl) (fun _ _ => h)
          · replace h := h.2
            have ho : x0 < 0 ∨ 3 < x0 := by clear h; omega
            refine x_tsOut (k := kk_X11_stepOf) (pc := 14) (x := x0) (tgt := 127) dX11_stepOf_14 ho (by decide) ?_
            replace h := h ho
            refine x_iload_n dX11_stepOf_127 rfl rfl ?_
            refine x_i2l dX11_stepOf_128 ?_
            refine x_ldc2 (z := 48) dX11_stepOf_129 cl_X11_146 (by decide) (by decide) ?_
            refine x_ldc2 (z := 57) dX11_stepOf_132 cl_X11_140 (by decide) (by decide) ?_
            refine x_in (st := []) dX11_stepOf_135 ml_X11_110 ⟨by decide, by decide⟩ (fun _ _ => Nat.le_of_ble_eq_true rfl) (fun hc => ?_) (fun hc => ?_)
            · change X_ kk_X11_stepOf 138 [v_I x0, v_I x1, v_I x2, v_I x3, v_I 1] [v_I 1] M Q
              replace h := h.1 hc
              refine x_if_eq (tgt := 155) dX11_stepOf_138 (by decide) (fun hc => absurd hc (by decide)) (fun _ => ?_)
              refine x_iload_n dX11_stepOf_141 rfl rfl ?_
              refine x_bipush dX11_stepOf_142 (by decide) (by decide) ?_
              refine x_ic_ge (tgt := 153) dX11_stepOf_144 (by decide) (fun hc => ?_) (fun hc => ?_)
              · replace h := h.1 hc
                refine x_iconst dX11_stepOf_153 (by decide) ?_
                refine x_iret dX11_stepOf_154 rfl (Or.inl rfl) (fun _ _ => h)
              · replace h := h.2 hc
                refine x_iload_n dX11_stepOf_147 rfl rfl ?_
                refine x_iconst dX11_stepOf_148 (by decide) ?_
                obtain ⟨s1, h⟩ := h
                refine x_iadd dX11_stepOf_149 s1 ?_
                refine x_goto (tgt := 154) dX11_stepOf_150 (by decide) ?_
                refine x_iret dX11_stepOf_154 rfl (Or.inl rfl) (fun _ _ => h)
            · change X_ kk_X11_stepOf 138 [v_I x0, v_I x1, v_I x2, v_I x3, v_I 1] [v_I 0] M Q
              replace h := h.2 hc
              refine x_if_eq (tgt := 155) dX11_stepOf_138 (by decide) (fun _ => ?_) (fun hc => absurd hc (by decide))
              refine x_iload_n dX11_stepOf_155 rfl rfl ?_
              refine x_bipush dX11_stepOf_156 (by decide) (by decide) ?_
              refine x_ic_ne (tgt := 171) dX11_stepOf_158 (by decide) (fun hc => ?_) (fun hc => ?_)
              · replace h := h.1 hc
                refine x_iconst dX11_stepOf_171 (by decide) ?_
                refine x_iret dX11_stepOf_172 rfl (Or.inl rfl) (fun _ _ => h)
              · replace h := h.2 hc
                refine x_iload_n dX11_stepOf_161 rfl rfl ?_
                refine x_bipush dX11_stepOf_162 (by decide) (by decide) ?_
                refine x_ic_ge (tgt := 171) dX11_stepOf_164 (by decide) (fun hc => ?_) (fun hc => ?_)
                · replace h := h.1 hc
                  refine x_iconst dX11_stepOf_171 (by decide) ?_
                  refine x_iret dX11_stepOf_172 rfl (Or.inl rfl) (fun _ _ => h)
                · replace h := h.2 hc
                  refine x_iconst dX11_stepOf_167 (by decide) ?_
                  refine x_goto (tgt := 172) dX11_stepOf_168 (by decide) ?_
                  refine x_iret dX11_stepOf_172 rfl (Or.inl rfl) (fun _ _ => h)
  · change X_ kk_X11_stepOf 11 [v_I x0, v_I x1, v_I x2, v_I x3, v_U] [v_I 0] M Q
    replace h := h.2 hc
    refine y_istore (ls' := [v_I x0, v_I x1, v_I x2, v_I x3, v_I 0]) dX11_stepOf_11 (by decide) rfl ?_
    refine x_iload_n dX11_stepOf_13 rfl rfl ?_
    by_cases hx : x0 = 0
    · refine x_tsIn (k := kk_X11_stepOf) (pc := 14) (x := x0) (j := 0) (off := 30) (tgt := 44) dX11_stepOf_14 hx ⟨by decide, by decide⟩ rfl (by decide) ?_
      replace h := h.1 hx
      refine x_iload dX11_stepOf_44 rfl ?_
      refine x_if_eq (tgt := 53) dX11_stepOf_46 (by decide) (fun _ => ?_) (fun hc => absurd hc (by decide))
      refine x_iconst dX11_stepOf_53 (by decide) ?_
      refine x_iret dX11_stepOf_54 rfl (Or.inl rfl) (fun _ _ => h)
    · replace h := h.2
      by_cases hx : x0 = 1
      · refine x_tsIn (k := kk_X11_stepOf) (pc := 14) (x := x0) (j := 1) (off := 41) (tgt := 55) dX11_stepOf_14 hx ⟨by decide, by decide⟩ rfl (by decide) ?_
        replace h := h.1 hx
        refine x_iload_n dX11_stepOf_55 rfl rfl ?_
        refine x_i2l dX11_stepOf_56 ?_
        refine x_ldc2 (z := 97) dX11_stepOf_57 cl_X11_142 (by decide) (by decide) ?_
        refine x_ldc2 (z := 101) dX11_stepOf_60 cl_X11_144 (by decide) (by decide) ?_
        refine x_in (st := []) dX11_stepOf_63 ml_X11_110 ⟨by decide, by decide⟩ (fun _ _ => Nat.le_of_ble_eq_true rfl) (fun hc => ?_) (fun hc => ?_)
        · change X_ kk_X11_stepOf 66 [v_I x0, v_I x1, v_I x2, v_I x3, v_I 0] [v_I 1] M Q
          replace h := h.1 hc
          refine x_if_eq (tgt := 78) dX11_stepOf_66 (by decide) (fun hc => absurd hc (by decide)) (fun _ => ?_)
          refine x_iload_n dX11_stepOf_69 rfl rfl ?_
          refine x_iload_n dX11_stepOf_70 rfl rfl ?_
          refine x_ic_le (tgt := 78) dX11_stepOf_71 (by decide) (fun hc => ?_) (fun hc => ?_)
          · replace h := h.1 hc
            refine x_iconst dX11_stepOf_78 (by decide) ?_
            refine x_iret dX11_stepOf_79 rfl (Or.inl rfl) (fun _ _ => h)
          · replace h := h.2 hc
            refine x_iconst dX11_stepOf_74 (by decide) ?_
            refine x_goto (tgt := 79) dX11_stepOf_75 (by decide) ?_
            refine x_iret dX11_stepOf_79 rfl (Or.inl rfl) (fun _ _ => h)
        · change X_ kk_X11_stepOf 66 [v_I x0, v_I x1, v_I x2, v_I x3, v_I 0] [v_I 0] M Q
          replace h := h.2 hc
          refine x_if_eq (tgt := 78) dX11_stepOf_66 (by decide) (fun _ => ?_) (fun hc => absurd hc (by decide))
          refine x_iconst dX11_stepOf_78 (by decide) ?_
          refine x_iret dX11_stepOf_79 rfl (Or.inl rfl) (fun _ _ => h)
      · replace h := h.2
        by_cases hx : x0 = 2
        · refine x_tsIn (k := kk_X11_stepOf) (pc := 14) (x := x0) (j := 2) (off := 66) (tgt := 80) dX11_stepOf_14 hx ⟨by decide, by decide⟩ rfl (by decide) ?_
          replace h := h.1 hx
          refine x_iload_n dX11_stepOf_80 rfl rfl ?_
          refine x_bipush dX11_stepOf_81 (by decide) (by decide) ?_
          refine x_ic_ne (tgt := 90) dX11_stepOf_83 (by decide) (fun hc => ?_) (fun hc => ?_)
          · replace h := h.1 hc
            refine x_iload dX11_stepOf_90 rfl ?_
            refine x_if_eq (tgt := 105) dX11_stepOf_92 (by decide) (fun _ => ?_) (fun hc => absurd hc (by decide))
            refine x_iconst dX11_stepOf_105 (by decide) ?_
            refine x_iret dX11_stepOf_106 rfl (Or.inl rfl) (fun _ _ => h)
          · replace h := h.2 hc
            refine x_iconst dX11_stepOf_86 (by decide) ?_
            refine x_goto (tgt := 106) dX11_stepOf_87 (by decide) ?_
            refine x_iret dX11_stepOf_106 rfl (Or.inl rfl) (fun _ _ => h)
        · replace h := h.2
          by_cases hx : x0 = 3
          · refine x_tsIn (k := kk_X11_stepOf) (pc := 14) (x := x0) (j := 3) (off := 93) (tgt := 107) dX11_stepOf_14 hx ⟨by decide, by decide⟩ rfl (by decide) ?_
            replace h := h.1 hx
            refine x_iload_n dX11_stepOf_107 rfl rfl ?_
            refine x_i2l dX11_stepOf_108 ?_
            refine x_ldc2 (z := 48) dX11_stepOf_109 cl_X11_146 (by decide) (by decide) ?_
            refine x_ldc2 (z := 57) dX11_stepOf_112 cl_X11_140 (by decide) (by decide) ?_
            refine x_in (st := []) dX11_stepOf_115 ml_X11_110 ⟨by decide, by decide⟩ (fun _ _ => Nat.le_of_ble_eq_true rfl) (fun hc => ?_) (fun hc => ?_)
            · change X_ kk_X11_stepOf 118 [v_I x0, v_I x1, v_I x2, v_I x3, v_I 0] [v_I 1] M Q
              replace h := h.1 hc
              refine x_if_eq (tgt := 125) dX11_stepOf_118 (by decide) (fun hc => absurd hc (by decide)) (fun _ => ?_)
              refine x_iconst dX11_stepOf_121 (by decide) ?_
              refine x_goto (tgt := 126) dX11_stepOf_122 (by decide) ?_
              refine x_iret dX11_stepOf_126 rfl (Or.inl rfl) (fun _ _ => h)
            · change X_ kk_X11_stepOf 118 [v_I x0, v_I x1, v_I x2, v_I x3, v_I 0] [v_I 0] M Q
              replace h := h.2 hc
              refine x_if_eq (tgt := 125) dX11_stepOf_118 (by decide) (fun _ => ?_) (fun hc => absurd hc (by decide))
              refine x_iconst dX11_stepOf_125 (by decide) ?_
              refine x_iret dX11_stepOf_126 rfl (Or.inl rfl) (fun _ _ => h)
          · replace h := h.2
            have ho : x0 < 0 ∨ 3 < x0 := by clear h; omega
            refine x_tsOut (k := kk_X11_stepOf) (pc := 14) (x := x0) (tgt := 127) dX11_stepOf_14 ho (by decide) ?_
            replace h := h ho
            refine x_iload_n dX11_stepOf_127 rfl rfl ?_
            refine x_i2l dX11_stepOf_128 ?_
            refine x_ldc2 (z := 48) dX11_stepOf_129 cl_X11_146 (by decide) (by decide) ?_
            refine x_ldc2 (z := 57) dX11_stepOf_132 cl_X11_140 (by decide) (by decide) ?_
            refine x_in (st := []) dX11_stepOf_135 ml_X11_110 ⟨by decide, by decide⟩ (fun _ _ => Nat.le_of_ble_eq_true rfl) (fun hc => ?_) (fun hc => ?_)
            · change X_ kk_X11_stepOf 138 [v_I x0, v_I x1, v_I x2, v_I x3, v_I 0] [v_I 1] M Q
              replace h := h.1 hc
              refine x_if_eq (tgt := 155) dX11_stepOf_138 (by decide) (fun hc => absurd hc (by decide)) (fun _ => ?_)
              refine x_iload_n dX11_stepOf_141 rfl rfl ?_
              refine x_bipush dX11_stepOf_142 (by decide) (by decide) ?_
              refine x_ic_ge (tgt := 153) dX11_stepOf_144 (by decide) (fun hc => ?_) (fun hc => ?_)
              · replace h := h.1 hc
                refine x_iconst dX11_stepOf_153 (by decide) ?_
                refine x_iret dX11_stepOf_154 rfl (Or.inl rfl) (fun _ _ => h)
              · replace h := h.2 hc
                refine x_iload_n dX11_stepOf_147 rfl rfl ?_
                refine x_iconst dX11_stepOf_148 (by decide) ?_
                obtain ⟨s2, h⟩ := h
                refine x_iadd dX11_stepOf_149 s2 ?_
                refine x_goto (tgt := 154) dX11_stepOf_150 (by decide) ?_
                refine x_iret dX11_stepOf_154 rfl (Or.inl rfl) (fun _ _ => h)
            · change X_ kk_X11_stepOf 138 [v_I x0, v_I x1, v_I x2, v_I x3, v_I 0] [v_I 0] M Q
              replace h := h.2 hc
              refine x_if_eq (tgt := 155) dX11_stepOf_138 (by decide) (fun _ => ?_) (fun hc => absurd hc (by decide))
              refine x_iload_n dX11_stepOf_155 rfl rfl ?_
              refine x_bipush dX11_stepOf_156 (by decide) (by decide) ?_
              refine x_ic_ne (tgt := 171) dX11_stepOf_158 (by decide) (fun hc => ?_) (fun hc => ?_)
              · replace h := h.1 hc
                refine x_iconst dX11_stepOf_171 (by decide) ?_
                refine x_iret dX11_stepOf_172 rfl (Or.inl rfl) (fun _ _ => h)
              · replace h := h.2 hc
                refine x_iload_n dX11_stepOf_161 rfl rfl ?_
                refine x_bipush dX11_stepOf_162 (by decide) (by decide) ?_
                refine x_ic_ge (tgt := 171) dX11_stepOf_164 (by decide) (fun hc => ?_) (fun hc => ?_)
                · replace h := h.1 hc
                  refine x_iconst dX11_stepOf_171 (by decide) ?_
                  refine x_iret dX11_stepOf_172 rfl (Or.inl rfl) (fun _ _ => h)
                · replace h := h.2 hc
                  refine x_iconst dX11_stepOf_167 (by decide) ?_
                  refine x_goto (tgt := 172) dX11_stepOf_168 (by decide) ?_
                  refine x_iret dX11_stepOf_172 rfl (Or.inl rfl) (fun _ _ => h)
theorem wp_X11_fault_0 {M : mM} {Q : Int → mM → Prop} (h : X_ kk_X11_fault 9 [v_P 79, v_I 0, v_I 0, v_I 1, v_I 0, v_U] [] M Q) : X_ kk_X11_fault 0 [v_P 79, v_U, v_U, v_U, v_U, v_U] [] M Q := by
  refine x_iconst dX11_fault_0 (by decide) ?_
  refine y_istore_n (ls' := [v_P 79, v_I 0, v_U, v_U, v_U, v_U]) dX11_fault_1 rfl (by decide) rfl ?_
  refine x_iconst dX11_fault_2 (by decide) ?_
  refine y_istore_n (ls' := [v_P 79, v_I 0, v_I 0, v_U, v_U, v_U]) dX11_fault_3 rfl (by decide) rfl ?_
  refine x_iconst dX11_fault_4 (by decide) ?_
  refine y_istore_n (ls' := [v_P 79, v_I 0, v_I 0, v_I 1, v_U, v_U]) dX11_fault_5 rfl (by decide) rfl ?_
  refine x_iconst dX11_fault_6 (by decide) ?_
  refine y_istore (ls' := [v_P 79, v_I 0, v_I 0, v_I 1, v_I 0, v_U]) dX11_fault_7 (by decide) rfl ?_
  exact h
theorem wp_X11_fault_9 {x1 x2 x3 x4 : Int} {M : mM} {Q : Int → mM → Prop} (h : ((M 79 11) ≤ x4 → (x1 ≤ 3 → Q (M 79 11) M) ∧ (¬ x1 ≤ 3 → Q (-6) M)) ∧ (¬ (M 79 11) ≤ x4 → (0 ≤ x4 ∧ x4 < 50) ∧ ∃ Qc2 : Int → mM → Prop, C_ kk_X11_stepOf [v_I x1, v_I (M 87 x4.toNat), v_I x2, v_I x3] M Qc2 ∧ ∀ (r3 : Int) (M4 : mM), m_ir r3 → m_okM M4 → Qc2 r3 M4 → (0 ≤ r3 → (¬ r3 = 0 → (¬ r3 = 2 → (¬ r3 = 0 → (m_ir (x3 + 0)) ∧ (m_ir (x4 + 1)) ∧ X_ kk_X11_fault 9 [v_P 79, v_I r3, v_I x2, v_I (x3 + 0), v_I (x4 + 1), v_U] [] M4 Q) ∧ (r3 = 0 → (m_ir (x3 + 1)) ∧ (m_ir (x4 + 1)) ∧ X_ kk_X11_fault 9 [v_P 79, v_I r3, v_I x2, v_I (x3 + 1), v_I (x4 + 1), v_U] [] M4 Q)) ∧ (r3 = 2 → (¬ r3 = 0 → (m_ir (x3 + 0)) ∧ (m_ir (x4 + 1)) ∧ X_ kk_X11_fault 9 [v_P 79, v_I r3, v_I (M 87 x4.toNat), v_I (x3 + 0), v_I (x4 + 1), v_U] [] M4 Q) ∧ (r3 = 0 → (m_ir (x3 + 1)) ∧ (m_ir (x4 + 1)) ∧ X_ kk_X11_fault 9 [v_P 79, v_I r3, v_I (M 87 x4.toNat), v_I (x3 + 1), v_I (x4 + 1), v_U] [] M4 Q))) ∧ (r3 = 0 → (¬ r3 = 0 → (m_ir (x3 + 0)) ∧ (m_ir (x4 + 1)) ∧ X_ kk_X11_fault 9 [v_P 79, v_I r3, v_I 0, v_I (x3 + 0), v_I (x4 + 1), v_U] [] M4 Q) ∧ (r3 = 0 → (m_ir (x3 + 1)) ∧ (m_ir (x4 + 1)) ∧ X_ kk_X11_fault 9 [v_P 79, v_I r3, v_I 0, v_I (x3 + 1), v_I (x4 + 1), v_U] [] M4 Q))) ∧ (¬ 0 ≤ r3 → Q x4 M4))) : X_ kk_X11_fault 9 [v_P 79, v_I x1, v_I x2, v_I x3, v_I x4, v_U] [] M Q := by
  refine x_iload dX11_fault_9 rfl ?_
  refine x_aload_n dX11_fault_11 rfl rfl ?_
  refine x_getI dX11_fault_12 sh_79 cf_X11 fl_X11_135 (by decide) (by decide) ?_
  refine x_ic_ge (tgt := 81) dX11_fault_15 (by decide) (fun hc => ?_) (fun hc => ?_)
  · replace h := h.1 hc
    refine x_iload_n dX11_fault_81 rfl rfl ?_
    refine x_iconst dX11_fault_82 (by decide) ?_
    refine x_ic_le (tgt := 91) dX11_fault_83 (by decide) (fun hc => ?_) (fun hc => ?_)
    · replace h := h.1 hc
      refine x_aload_n dX11_fault_91 rfl rfl ?_
      refine x_getI dX11_fault_92 sh_79 cf_X11 fl_X11_135 (by decide) (by decide) ?_
      refine x_iret dX11_fault_95 rfl (Or.inl rfl) (fun _ _ => h)
    · replace h := h.2 hc
      refine x_bipush dX11_fault_86 (by decide) (by decide) ?_
      refine x_goto (tgt := 95) dX11_fault_88 (by decide) ?_
      refine x_iret dX11_fault_95 rfl (Or.inl rfl) (fun _ _ => h)
  · replace h := h.2 hc
    refine x_aload_n dX11_fault_18 rfl rfl ?_
    refine y_getP dX11_fault_19 sh_79 cf_X11 fl_X11_31 (by decide) (by decide) gg_79_10 ?_
    refine x_iload dX11_fault_22 rfl ?_
    obtain ⟨s1, h⟩ := h
    refine x_iald dX11_fault_24 sh_87 s1 ?_
    refine y_istore (ls' := [v_P 79, v_I x1, v_I x2, v_I x3, v_I x4, v_I (M 87 x4.toNat)]) dX11_fault_25 (by decide) rfl ?_
    refine x_iload_n dX11_fault_27 rfl rfl ?_
    refine x_iload dX11_fault_28 rfl ?_
    refine x_iload_n dX11_fault_30 rfl rfl ?_
    refine x_iload_n dX11_fault_31 rfl rfl ?_
    obtain ⟨Qc2, hc5, h⟩ := h
    refine x_callS (as := [v_I x1, v_I (M 87 x4.toNat), v_I x2, v_I x3]) (st := []) (Qc := Qc2) dX11_fault_32 mt_X11_stepOf ml_X11_148 ⟨by decide, by decide⟩ (fun _ _ => Nat.le_of_ble_eq_true rfl) hc5 (fun r3 M4 hr6 hM7 hq8 => ?_)
    replace h := h r3 M4 hr6 hM7 hq8
    change X_ kk_X11_fault 35 [v_P 79, v_I x1, v_I x2, v_I x3, v_I x4, v_I (M 87 x4.toNat)] [v_I r3] M4 Q
    refine y_istore_n (ls' := [v_P 79, v_I r3, v_I x2, v_I x3, v_I x4, v_I (M 87 x4.toNat)]) dX11_fault_35 rfl (by decide) rfl ?_
    refine x_iload_n dX11_fault_36 rfl rfl ?_
    refine x_if_ge (tgt := 43) dX11_fault_37 (by decide) (fun hc => ?_) (fun hc => ?_)
    · replace h := h.1 hc
      refine x_iload_n dX11_fault_43 rfl rfl ?_
      refine x_if_ne (tgt := 51) dX11_fault_44 (by decide) (fun hc => ?_) (fun hc => ?_)
      · replace h := h.1 hc
        refine x_iload_n dX11_fault_51 rfl rfl ?_
        refine x_iconst dX11_fault_52 (by decide) ?_
        refine x_ic_ne (tgt := 61) dX11_fault_53 (by decide) (fun hc => ?_) (fun hc => ?_)
        · replace h := h.1 hc
          refine x_iload_n dX11_fault_61 rfl rfl ?_
          refine y_istore_n (ls' := [v_P 79, v_I r3, v_I x2, v_I x3, v_I x4, v_I (M 87 x4.toNat)]) dX11_fault_62 rfl (by decide) rfl ?_
          refine x_iload_n dX11_fault_63 rfl rfl ?_
          refine x_iload_n dX11_fault_64 rfl rfl ?_
          refine x_if_ne (tgt := 72) dX11_fault_65 (by decide) (fun hc => ?_) (fun hc => ?_)
          · replace h := h.1 hc
            refine x_iconst dX11_fault_72 (by decide) ?_
            obtain ⟨s9, h⟩ := h
            refine x_iadd dX11_fault_73 s9 ?_
            refine y_istore_n (ls' := [v_P 79, v_I r3, v_I x2, v_I (x3 + 0), v_I x4, v_I (M 87 x4.toNat)]) dX11_fault_74 rfl (by decide) rfl ?_
            obtain ⟨s10, h⟩ := h
            refine y_iinc (ls' := [v_P 79, v_I r3, v_I x2, v_I (x3 + 0), v_I (x4 + 1), v_I (M 87 x4.toNat)]) dX11_fault_75 rfl s10 (by decide) rfl ?_
            refine x_goto (tgt := 9) dX11_fault_78 (by decide) ?_
            refine y_forget 5 (ls' := [v_P 79, v_I r3, v_I x2, v_I (x3 + 0), v_I (x4 + 1), v_U]) rfl ?_
            exact h
          · replace h := h.2 hc
            refine x_iconst dX11_fault_68 (by decide) ?_
            refine x_goto (tgt := 73) dX11_fault_69 (by decide) ?_
            obtain ⟨s11, h⟩ := h
            refine x_iadd dX11_fault_73 s11 ?_
            refine y_istore_n (ls' := [v_P 79, v_I r3, v_I x2, v_I (x3 + 1), v_I x4, v_I (M 87 x4.toNat)]) dX11_fault_74 rfl (by decide) rfl ?_
            obtain ⟨s12, h⟩ := h
            refine y_iinc (ls' := [v_P 79, v_I r3, v_I x2, v_I (x3 + 1), v_I (x4 + 1), v_I (M 87 x4.toNat)]) dX11_fault_75 rfl s12 (by decide) rfl ?_
            refine x_goto (tgt := 9) dX11_fault_78 (by decide) ?_
            refine y_forget 5 (ls' := [v_P 79, v_I r3, v_I x2, v_I (x3 + 1), v_I (x4 + 1), v_U]) rfl ?_
            exact h
        · replace h := h.2 hc
          refine x_iload dX11_fault_56 rfl ?_
          refine x_goto (tgt := 62) dX11_fault_58 (by decide) ?_
          refine y_istore_n (ls' := [v_P 79, v_I r3, v_I (M 87 x4.toNat), v_I x3, v_I x4, v_I (M 87 x4.toNat)]) dX11_fault_62 rfl (by decide) rfl ?_
          refine x_iload_n dX11_fault_63 rfl rfl ?_
          refine x_iload_n dX11_fault_64 rfl rfl ?_
          refine x_if_ne (tgt := 72) dX11_fault_65 (by decide) (fun hc => ?_) (fun hc => ?_)
          · replace h := h.1 hc
            refine x_iconst dX11_fault_72 (by decide) ?_
            obtain ⟨s13, h⟩ := h
            refine x_iadd dX11_fault_73 s13 ?_
            refine y_istore_n (ls' := [v_P 79, v_I r3, v_I (M 87 x4.toNat), v_I (x3 + 0), v_I x4, v_I (M 87 x4.toNat)]) dX11_fault_74 rfl (by decide) rfl ?_
            obtain ⟨s14, h⟩ := h
            refine y_iinc (ls' := [v_P 79, v_I r3, v_I (M 87 x4.toNat), v_I (x3 + 0), v_I (x4 + 1), v_I (M 87 x4.toNat)]) dX11_fault_75 rfl s14 (by decide) rfl ?_
            refine x_goto (tgt := 9) dX11_fault_78 (by decide) ?_
            refine y_forget 5 (ls' := [v_P 79, v_I r3, v_I (M 87 x4.toNat), v_I (x3 + 0), v_I (x4 + 1), v_U]) rfl ?_
            exact h
          · replace h := h.2 hc
            refine x_iconst dX11_fault_68 (by decide) ?_
            refine x_goto (tgt := 73) dX11_fault_69 (by decide) ?_
            obtain ⟨s15, h⟩ := h
            refine x_iadd dX11_fault_73 s15 ?_
            refine y_istore_n (ls' := [v_P 79, v_I r3, v_I (M 87 x4.toNat), v_I (x3 + 1), v_I x4, v_I (M 87 x4.toNat)]) dX11_fault_74 rfl (by decide) rfl ?_
            obtain ⟨s16, h⟩ := h
            refine y_iinc (ls' := [v_P 79, v_I r3, v_I (M 87 x4.toNat), v_I (x3 + 1), v_I (x4 + 1), v_I (M 87 x4.toNat)]) dX11_fault_75 rfl s16 (by decide) rfl ?_
            refine x_goto (tgt := 9) dX11_fault_78 (by decide) ?_
            refine y_forget 5 (ls' := [v_P 79, v_I r3, v_I (M 87 x4.toNat), v_I (x3 + 1), v_I (x4 + 1), v_U]) rfl ?_
            exact h
      · replace h := h.2 hc
        refine x_iconst dX11_fault_47 (by decide) ?_
        refine x_goto (tgt := 62) dX11_fault_48 (by decide) ?_
        refine y_istore_n (ls' := [v_P 79, v_I r3, v_I 0, v_I x3, v_I x4, v_I (M 87 x4.toNat)]) dX11_fault_62 rfl (by decide) rfl ?_
        refine x_iload_n dX11_fault_63 rfl rfl ?_
        refine x_iload_n dX11_fault_64 rfl rfl ?_
        refine x_if_ne (tgt := 72) dX11_fault_65 (by decide) (fun hc => ?_) (fun hc => ?_)
        · replace h := h.1 hc
          refine x_iconst dX11_fault_72 (by decide) ?_
          obtain ⟨s17, h⟩ := h
          refine x_iadd dX11_fault_73 s17 ?_
          refine y_istore_n (ls' := [v_P 79, v_I r3, v_I 0, v_I (x3 + 0), v_I x4, v_I (M 87 x4.toNat)]) dX11_fault_74 rfl (by decide) rfl ?_
          obtain ⟨s18, h⟩ := h
          refine y_iinc (ls' := [v_P 79, v_I r3, v_I 0, v_I (x3 + 0), v_I (x4 + 1), v_I (M 87 x4.toNat)]) dX11_fault_75 rfl s18 (by decide) rfl ?_
          refine x_goto (tgt := 9) dX11_fault_78 (by decide) ?_
          refine y_forget 5 (ls' := [v_P 79, v_I r3, v_I 0, v_I (x3 + 0), v_I (x4 + 1), v_U]) rfl ?_
          exact h
        · replace h := h.2 hc
          refine x_iconst dX11_fault_68 (by decide) ?_
          refine x_goto (tgt := 73) dX11_fault_69 (by decide) ?_
          obtain ⟨s19, h⟩ := h
          refine x_iadd dX11_fault_73 s19 ?_
          refine y_istore_n (ls' := [v_P 79, v_I r3, v_I 0, v_I (x3 + 1), v_I x4, v_I (M 87 x4.toNat)]) dX11_fault_74 rfl (by decide) rfl ?_
          obtain ⟨s20, h⟩ := h
          refine y_iinc (ls' := [v_P 79, v_I r3, v_I 0, v_I (x3 + 1), v_I (x4 + 1), v_I (M 87 x4.toNat)]) dX11_fault_75 rfl s20 (by decide) rfl ?_
          refine x_goto (tgt := 9) dX11_fault_78 (by decide) ?_
          refine y_forget 5 (ls' := [v_P 79, v_I r3, v_I 0, v_I (x3 + 1), v_I (x4 + 1), v_U]) rfl ?_
          exact h
    · replace h := h.2 hc
      refine x_iload dX11_fault_40 rfl ?_
      refine x_iret dX11_fault_42 rfl (Or.inl rfl) (fun _ _ => h)
theorem wp_X11_wish_0 {x1 : Int} {M : mM} {Q : Int → mM → Prop} (h : (0 ≤ M 79 8) ∧ (0 ≤ x1 ∧ x1 < M 79 8 → ∃ Qc1 : Int → mM → Prop, C_ kk_X11_fault [v_P 79] M Qc1 ∧ ∀ (r2 : Int) (M3 : mM), m_ir r2 → m_okM M3 → Qc1 r2 M3 → (r2 < 0 → (m_ir (6 * x1)) ∧ X_ kk_X11_wish 33 [v_P 79, v_I x1, v_I (6 * x1), v_I 0, v_I 0, v_I 0, v_U] [] M3 Q) ∧ (¬ r2 < 0 → Q (-5) M3)) ∧ (¬ (0 ≤ x1 ∧ x1 < M 79 8) → Q (-1) M)) : X_ kk_X11_wish 0 [v_P 79, v_I x1, v_U, v_U, v_U, v_U, v_U] [] M Q := by
  refine x_aload_n dX11_wish_0 rfl rfl ?_
  refine x_iload_n dX11_wish_1 rfl rfl ?_
  obtain ⟨s9, h⟩ := h
  refine x_isBuyer (st := []) dX11_wish_2 ml_X11_123 ⟨by decide, by decide⟩ (fun _ _ => Nat.le_of_ble_eq_true rfl) s9 (fun hc => ?_) (fun hc => ?_)
  · change X_ kk_X11_wish 5 [v_P 79, v_I x1, v_U, v_U, v_U, v_U, v_U] [v_I 1] M Q
    replace h := h.1 hc
    refine x_if_ne (tgt := 10) dX11_wish_5 (by decide) (fun _ => ?_) (fun hc => absurd hc (by decide))
    refine x_aload_n dX11_wish_10 rfl rfl ?_
    obtain ⟨Qc1, hc4, h⟩ := h
    refine x_callV (as := []) (st := []) (Qc := Qc1) dX11_wish_11 mt_X11_fault ml_X11_152 ⟨by decide, by decide⟩ sh_79 rfl (fun _ _ => Nat.le_of_ble_eq_true rfl) hc4 (fun r2 M3 hr5 hM6 hq7 => ?_)
    replace h := h r2 M3 hr5 hM6 hq7
    change X_ kk_X11_wish 14 [v_P 79, v_I x1, v_U, v_U, v_U, v_U, v_U] [v_I r2] M3 Q
    refine x_if_lt (tgt := 20) dX11_wish_14 (by decide) (fun hc => ?_) (fun hc => ?_)
    · replace h := h.1 hc
      refine x_bipush dX11_wish_20 (by decide) (by decide) ?_
      refine x_iload_n dX11_wish_22 rfl rfl ?_
      obtain ⟨s8, h⟩ := h
      refine x_imul dX11_wish_23 s8 ?_
      refine y_istore_n (ls' := [v_P 79, v_I x1, v_I (6 * x1), v_U, v_U, v_U, v_U]) dX11_wish_24 rfl (by decide) rfl ?_
      refine x_iconst dX11_wish_25 (by decide) ?_
      refine y_istore_n (ls' := [v_P 79, v_I x1, v_I (6 * x1), v_I 0, v_U, v_U, v_U]) dX11_wish_26 rfl (by decide) rfl ?_
      refine x_iconst dX11_wish_27 (by decide) ?_
      refine y_istore (ls' := [v_P 79, v_I x1, v_I (6 * x1), v_I 0, v_I 0, v_U, v_U]) dX11_wish_28 (by decide) rfl ?_
      refine x_iconst dX11_wish_30 (by decide) ?_
      refine y_istore (ls' := [v_P 79, v_I x1, v_I (6 * x1), v_I 0, v_I 0, v_I 0, v_U]) dX11_wish_31 (by decide) rfl ?_
      exact h
    · replace h := h.2 hc
      refine x_bipush dX11_wish_17 (by decide) (by decide) ?_
      refine x_iret dX11_wish_19 rfl (Or.inl rfl) (fun _ _ => h)
  · change X_ kk_X11_wish 5 [v_P 79, v_I x1, v_U, v_U, v_U, v_U, v_U] [v_I 0] M Q
    replace h := h.2 hc
    refine x_if_ne (tgt := 10) dX11_wish_5 (by decide) (fun hc => absurd hc (by decide)) (fun _ => ?_)
    refine x_iconst dX11_wish_8 (by decide) ?_
    refine x_iret dX11_wish_9 rfl (Or.inl rfl) (fun _ _ => h)
theorem wp_X11_wish_33 {x1 x2 x3 x4 x5 : Int} {M : mM} {Q : Int → mM → Prop} (h : (30 ≤ x5 → X_ kk_X11_wish 61 [v_P 79, v_I x1, v_I x2, v_I x3, v_I x4, v_I 0, v_U] [] M Q) ∧ (¬ 30 ≤ x5 → (m_ir (5 * x2)) ∧ (m_ir ((5 * x2) + x5)) ∧ (0 ≤ ((5 * x2) + x5) ∧ ((5 * x2) + x5) < 180) ∧ (m_ir (x5 + 1)) ∧ X_ kk_X11_wish 33 [v_P 79, v_I x1, v_I x2, v_I x3, v_I x4, v_I (x5 + 1), v_U] [] (m_up M 88 (((5 * x2) + x5).toNat) 0) Q)) : X_ kk_X11_wish 33 [v_P 79, v_I x1, v_I x2, v_I x3, v_I x4, v_I x5, v_U] [] M Q := by
  refine x_iload dX11_wish_33 rfl ?_
  refine x_bipush dX11_wish_35 (by decide) (by decide) ?_
  refine x_ic_ge (tgt := 58) dX11_wish_37 (by decide) (fun hc => ?_) (fun hc => ?_)
  · replace h := h.1 hc
    refine x_iconst dX11_wish_58 (by decide) ?_
    refine y_istore (ls' := [v_P 79, v_I x1, v_I x2, v_I x3, v_I x4, v_I 0, v_U]) dX11_wish_59 (by decide) rfl ?_
    exact h
  · replace h := h.2 hc
    refine x_aload_n dX11_wish_40 rfl rfl ?_
    refine y_getP dX11_wish_41 sh_79 cf_X11 fl_X11_34 (by decide) (by decide) gg_79_12 ?_
    refine x_iconst dX11_wish_44 (by decide) ?_
    refine x_iload_n dX11_wish_45 rfl rfl ?_
    obtain ⟨s1, h⟩ := h
    refine x_imul dX11_wish_46 s1 ?_
    refine x_iload dX11_wish_47 rfl ?_
    obtain ⟨s2, h⟩ := h
    refine x_iadd dX11_wish_49 s2 ?_
    refine x_iconst dX11_wish_50 (by decide) ?_
    obtain ⟨s3, h⟩ := h
    refine x_iast dX11_wish_51 sh_88 s3 ?_
    obtain ⟨s4, h⟩ := h
    refine y_iinc (ls' := [v_P 79, v_I x1, v_I x2, v_I x3, v_I x4, v_I (x5 + 1), v_U]) dX11_wish_52 rfl s4 (by decide) rfl ?_
    refine x_goto (tgt := 33) dX11_wish_55 (by decide) ?_
    exact h
theorem wp_X11_wish_61 {x1 x2 x3 x4 x5 : Int} {M : mM} {Q : Int → mM → Prop} (h : (6 ≤ x5 → X_ kk_X11_wish 87 [v_P 79, v_I x1, v_I x2, v_I x3, v_I x4, v_I 0, v_U] [] M Q) ∧ (¬ 6 ≤ x5 → (m_ir (x2 + x5)) ∧ (0 ≤ (x2 + x5) ∧ (x2 + x5) < 36) ∧ (m_ir (x5 + 1)) ∧ X_ kk_X11_wish 61 [v_P 79, v_I x1, v_I x2, v_I x3, v_I x4, v_I (x5 + 1), v_U] [] (m_up M 89 ((x2 + x5).toNat) 0) Q)) : X_ kk_X11_wish 61 [v_P 79, v_I x1, v_I x2, v_I x3, v_I x4, v_I x5, v_U] [] M Q := by
  refine x_iload dX11_wish_61 rfl ?_
  refine x_bipush dX11_wish_63 (by decide) (by decide) ?_
  refine x_ic_ge (tgt := 84) dX11_wish_65 (by decide) (fun hc => ?_) (fun hc => ?_)
  · replace h := h.1 hc
    refine x_iconst dX11_wish_84 (by decide) ?_
    refine y_istore (ls' := [v_P 79, v_I x1, v_I x2, v_I x3, v_I x4, v_I 0, v_U]) dX11_wish_85 (by decide) rfl ?_
    exact h
  · replace h := h.2 hc
    refine x_aload_n dX11_wish_68 rfl rfl ?_
    refine y_getP dX11_wish_69 sh_79 cf_X11 fl_X11_37 (by decide) (by decide) gg_79_13 ?_
    refine x_iload_n dX11_wish_72 rfl rfl ?_
    refine x_iload dX11_wish_73 rfl ?_
    obtain ⟨s1, h⟩ := h
    refine x_iadd dX11_wish_75 s1 ?_
    refine x_iconst dX11_wish_76 (by decide) ?_
    obtain ⟨s2, h⟩ := h
    refine x_iast dX11_wish_77 sh_89 s2 ?_
    obtain ⟨s3, h⟩ := h
    refine y_iinc (ls' := [v_P 79, v_I x1, v_I x2, v_I x3, v_I x4, v_I (x5 + 1), v_U]) dX11_wish_78 rfl s3 (by decide) rfl ?_
    refine x_goto (tgt := 61) dX11_wish_81 (by decide) ?_
    exact h
theorem wp_X11_wish_87 {x1 x2 x3 x4 x5 : Int} {M : mM} {Q : Int → mM → Prop} (h : ((M 79 11) ≤ x5 → (m_ir (x2 + 1)) ∧ (m_ir (6 * x1)) ∧ (m_ir ((x2 + 1) - (6 * x1))) ∧ (0 ≤ x1 ∧ x1 < 6) ∧ (0 ≤ x1 ∧ x1 < 6) ∧ ∀ M6 : mM, M6 = m_up (m_up (m_up M 90 x1.toNat ((x2 + 1) - (6 * x1))) 91 x1.toNat 0) 79 11 0 → (0 ≤ x1 ∧ x1 < 6) ∧ Q ((x2 + 1) - (6 * x1)) M6) ∧ (¬ (M 79 11) ≤ x5 → (0 ≤ x5 ∧ x5 < 50) ∧ (48 ≤ (M 87 x5.toNat) ∧ (M 87 x5.toNat) ≤ 57 → (x4 = 0 → (0 ≤ x2 ∧ x2 < 36) ∧ (m_ir ((M 87 x5.toNat) - 48)) ∧ (m_ir (x5 + 1)) ∧ X_ kk_X11_wish 87 [v_P 79, v_I x1, v_I x2, v_I ((M 87 x5.toNat) - 48), v_I x4, v_I (x5 + 1), v_U] [] (m_up M 89 x2.toNat 0) Q) ∧ (¬ x4 = 0 → (0 ≤ x2 ∧ x2 < 36) ∧ (m_ir (10 * (M 89 x2.toNat))) ∧ (m_ir ((10 * (M 89 x2.toNat)) + (M 87 x5.toNat))) ∧ (m_ir (((10 * (M 89 x2.toNat)) + (M 87 x5.toNat)) - 48)) ∧ (0 ≤ x2 ∧ x2 < 36) ∧ (m_ir ((M 87 x5.toNat) - 48)) ∧ (m_ir (x5 + 1)) ∧ X_ kk_X11_wish 87 [v_P 79, v_I x1, v_I x2, v_I ((M 87 x5.toNat) - 48), v_I x4, v_I (x5 + 1), v_U] [] (m_up M 89 x2.toNat (((10 * (M 89 x2.toNat)) + (M 87 x5.toNat)) - 48)) Q)) ∧ (¬ (48 ≤ (M 87 x5.toNat) ∧ (M 87 x5.toNat) ≤ 57) → (97 ≤ (M 87 x5.toNat) ∧ (M 87 x5.toNat) ≤ 101 → (m_ir (5 * x2)) ∧ (m_ir ((5 * x2) + (M 87 x5.toNat))) ∧ (m_ir (((5 * x2) + (M 87 x5.toNat)) - 97)) ∧ (0 ≤ (((5 * x2) + (M 87 x5.toNat)) - 97) ∧ (((5 * x2) + (M 87 x5.toNat)) - 97) < 180) ∧ (m_ir (x5 + 1)) ∧ X_ kk_X11_wish 87 [v_P 79, v_I x1, v_I x2, v_I x3, v_I x4, v_I (x5 + 1), v_U] [] (m_up M 88 ((((5 * x2) + (M 87 x5.toNat)) - 97).toNat) x3) Q) ∧ (¬ (97 ≤ (M 87 x5.toNat) ∧ (M 87 x5.toNat) ≤ 101) → (¬ (M 87 x5.toNat) = 61 → (m_ir (x2 + 1)) ∧ (m_ir (x5 + 1)) ∧ X_ kk_X11_wish 87 [v_P 79, v_I x1, v_I (x2 + 1), v_I x3, v_I 0, v_I (x5 + 1), v_U] [] M Q) ∧ ((M 87 x5.toNat) = 61 → (m_ir (x2 + 0)) ∧ (m_ir (x5 + 1)) ∧ X_ kk_X11_wish 87 [v_P 79, v_I x1, v_I (x2 + 0), v_I x3, v_I 1, v_I (x5 + 1), v_U] [] M Q))))) : X_ kk_X11_wish 87 [v_P 79, v_I x1, v_I x2, v_I x3, v_I x4, v_I x5, v_U] [] M Q := by
  refine x_iload dX11_wish_87 rfl ?_
  refine x_aload_n dX11_wish_89 rfl rfl ?_
  refine x_getI dX11_wish_90 sh_79 cf_X11 fl_X11_135 (by decide) (by decide) ?_
  refine x_ic_ge (tgt := 225) dX11_wish_93 (by decide) (fun hc => ?_) (fun hc => ?_)
  · replace h := h.1 hc
    refine x_aload_n dX11_wish_225 rfl rfl ?_
    refine y_getP dX11_wish_226 sh_79 cf_X11 fl_X11_40 (by decide) (by decide) gg_79_14 ?_
    refine x_iload_n dX11_wish_229 rfl rfl ?_
    refine x_iload_n dX11_wish_230 rfl rfl ?_
    refine x_iconst dX11_wish_231 (by decide) ?_
    obtain ⟨s1, h⟩ := h
    refine x_iadd dX11_wish_232 s1 ?_
    refine x_bipush dX11_wish_233 (by decide) (by decide) ?_
    refine x_iload_n dX11_wish_235 rfl rfl ?_
    obtain ⟨s2, h⟩ := h
    refine x_imul dX11_wish_236 s2 ?_
    obtain ⟨s3, h⟩ := h
    refine x_isub dX11_wish_237 s3 ?_
    obtain ⟨s4, h⟩ := h
    refine x_iast dX11_wish_238 sh_90 s4 ?_
    refine x_aload_n dX11_wish_239 rfl rfl ?_
    refine y_getP dX11_wish_240 sh_79 cf_X11 fl_X11_43 (by decide) (by decide) gg_79_15 ?_
    refine x_iload_n dX11_wish_243 rfl rfl ?_
    refine x_iconst dX11_wish_244 (by decide) ?_
    obtain ⟨s5, h⟩ := h
    refine x_iast dX11_wish_245 sh_91 s5 ?_
    refine x_aload_n dX11_wish_246 rfl rfl ?_
    refine x_iconst dX11_wish_247 (by decide) ?_
    refine x_putI dX11_wish_248 sh_79 cf_X11 fl_X11_135 (by decide) rfl (by decide) (Or.inl rfl) ?_
    obtain ⟨M6, e7⟩ : ∃ z : mM, z = m_up (m_up (m_up M 90 x1.toNat ((x2 + 1) - (6 * x1))) 91 x1.toNat 0) 79 11 0 := ⟨_, rfl⟩
    rw [← e7]
    replace h := h M6 e7
    refine x_aload_n dX11_wish_251 rfl rfl ?_
    refine y_getP dX11_wish_252 sh_79 cf_X11 fl_X11_40 (by decide) (by decide) gg_79_14 ?_
    refine x_iload_n dX11_wish_255 rfl rfl ?_
    obtain ⟨s8, h⟩ := h
    refine y_iald (v := ((x2 + 1) - (6 * x1))) dX11_wish_256 sh_90 s8 ((congrFun (congrFun e7 90) x1.toNat).trans ((m_up_ne (Or.inl (by decide))).trans ((m_up_ne (Or.inl (by decide))).trans (m_up_same _ _ _ _)))) ?_
    refine x_iret dX11_wish_257 rfl (Or.inl rfl) (fun _ _ => h)
  · replace h := h.2 hc
    refine x_aload_n dX11_wish_96 rfl rfl ?_
    refine y_getP dX11_wish_97 sh_79 cf_X11 fl_X11_31 (by decide) (by decide) gg_79_10 ?_
    refine x_iload dX11_wish_100 rfl ?_
    obtain ⟨s9, h⟩ := h
    refine x_iald dX11_wish_102 sh_87 s9 ?_
    refine y_istore (ls' := [v_P 79, v_I x1, v_I x2, v_I x3, v_I x4, v_I x5, v_I (M 87 x5.toNat)]) dX11_wish_103 (by decide) rfl ?_
    refine x_iload dX11_wish_105 rfl ?_
    refine x_i2l dX11_wish_107 ?_
    refine x_ldc2 (z := 48) dX11_wish_108 cl_X11_146 (by decide) (by decide) ?_
    refine x_ldc2 (z := 57) dX11_wish_111 cl_X11_140 (by decide) (by decide) ?_
    refine x_in (st := []) dX11_wish_114 ml_X11_110 ⟨by decide, by decide⟩ (fun _ _ => Nat.le_of_ble_eq_true rfl) (fun hc => ?_) (fun hc => ?_)
    · change X_ kk_X11_wish 117 [v_P 79, v_I x1, v_I x2, v_I x3, v_I x4, v_I x5, v_I (M 87 x5.toNat)] [v_I 1] M Q
      replace h := h.1 hc
      refine x_if_eq (tgt := 159) dX11_wish_117 (by decide) (fun hc => absurd hc (by decide)) (fun _ => ?_)
      refine x_aload_n dX11_wish_120 rfl rfl ?_
      refine y_getP dX11_wish_121 sh_79 cf_X11 fl_X11_37 (by decide) (by decide) gg_79_13 ?_
      refine x_iload_n dX11_wish_124 rfl rfl ?_
      refine x_iload dX11_wish_125 rfl ?_
      refine x_if_eq (tgt := 148) dX11_wish_127 (by decide) (fun hc => ?_) (fun hc => ?_)
      · replace h := h.1 hc
        refine x_iconst dX11_wish_148 (by decide) ?_
        obtain ⟨s10, h⟩ := h
        refine x_iast dX11_wish_149 sh_89 s10 ?_
        refine x_iload dX11_wish_150 rfl ?_
        refine x_bipush dX11_wish_152 (by decide) (by decide) ?_
        obtain ⟨s11, h⟩ := h
        refine x_isub dX11_wish_154 s11 ?_
        refine y_istore_n (ls' := [v_P 79, v_I x1, v_I x2, v_I ((M 87 x5.toNat) - 48), v_I x4, v_I x5, v_I (M 87 x5.toNat)]) dX11_wish_155 rfl (by decide) rfl ?_
        refine x_goto (tgt := 219) dX11_wish_156 (by decide) ?_
        obtain ⟨s12, h⟩ := h
        refine y_iinc (ls' := [v_P 79, v_I x1, v_I x2, v_I ((M 87 x5.toNat) - 48), v_I x4, v_I (x5 + 1), v_I (M 87 x5.toNat)]) dX11_wish_219 rfl s12 (by decide) rfl ?_
        refine x_goto (tgt := 87) dX11_wish_222 (by decide) ?_
        refine y_forget 6 (ls' := [v_P 79, v_I x1, v_I x2, v_I ((M 87 x5.toNat) - 48), v_I x4, v_I (x5 + 1), v_U]) rfl ?_
        exact h
      · replace h := h.2 hc
        refine x_bipush dX11_wish_130 (by decide) (by decide) ?_
        refine x_aload_n dX11_wish_132 rfl rfl ?_
        refine y_getP dX11_wish_133 sh_79 cf_X11 fl_X11_37 (by decide) (by decide) gg_79_13 ?_
        refine x_iload_n dX11_wish_136 rfl rfl ?_
        obtain ⟨s13, h⟩ := h
        refine x_iald dX11_wish_137 sh_89 s13 ?_
        obtain ⟨s14, h⟩ := h
        refine x_imul dX11_wish_138 s14 ?_
        refine x_iload dX11_wish_139 rfl ?_
        obtain ⟨s15, h⟩ := h
        refine x_iadd dX11_wish_141 s15 ?_
        refine x_bipush dX11_wish_142 (by decide) (by decide) ?_
        obtain ⟨s16, h⟩ := h
        refine x_isub dX11_wish_144 s16 ?_
        refine x_goto (tgt := 149) dX11_wish_145 (by decide) ?_
        obtain ⟨s17, h⟩ := h
        refine x_iast dX11_wish_149 sh_89 s17 ?_
        refine x_iload dX11_wish_150 rfl ?_
        refine x_bipush dX11_wish_152 (by decide) (by decide) ?_
        obtain ⟨s18, h⟩ := h
        refine x_isub dX11_wish_154 s18 ?_
        refine y_istore_n (ls' := [v_P 79, v_I x1, v_I x2, v_I ((M 87 x5.toNat) - 48), v_I x4, v_I x5, v_I (M 87 x5.toNat)]) dX11_wish_155 rfl (by decide) rfl ?_
        refine x_goto (tgt := 219) dX11_wish_156 (by decide) ?_
        obtain ⟨s19, h⟩ := h
        refine y_iinc (ls' := [v_P 79, v_I x1, v_I x2, v_I ((M 87 x5.toNat) - 48), v_I x4, v_I (x5 + 1), v_I (M 87 x5.toNat)]) dX11_wish_219 rfl s19 (by decide) rfl ?_
        refine x_goto (tgt := 87) dX11_wish_222 (by decide) ?_
        refine y_forget 6 (ls' := [v_P 79, v_I x1, v_I x2, v_I ((M 87 x5.toNat) - 48), v_I x4, v_I (x5 + 1), v_U]) rfl ?_
        exact h
    · change X_ kk_X11_wish 117 [v_P 79, v_I x1, v_I x2, v_I x3, v_I x4, v_I x5, v_I (M 87 x5.toNat)] [v_I 0] M Q
      replace h := h.2 hc
      refine x_if_eq (tgt := 159) dX11_wish_117 (by decide) (fun _ => ?_) (fun hc => absurd hc (by decide))
      refine x_iload dX11_wish_159 rfl ?_
      refine x_i2l dX11_wish_161 ?_
      refine x_ldc2 (z := 97) dX11_wish_162 cl_X11_142 (by decide) (by decide) ?_
      refine x_ldc2 (z := 101) dX11_wish_165 cl_X11_144 (by decide) (by decide) ?_
      refine x_in (st := []) dX11_wish_168 ml_X11_110 ⟨by decide, by decide⟩ (fun _ _ => Nat.le_of_ble_eq_true rfl) (fun hc => ?_) (fun hc => ?_)
      · change X_ kk_X11_wish 171 [v_P 79, v_I x1, v_I x2, v_I x3, v_I x4, v_I x5, v_I (M 87 x5.toNat)] [v_I 1] M Q
        replace h := h.1 hc
        refine x_if_eq (tgt := 192) dX11_wish_171 (by decide) (fun hc => absurd hc (by decide)) (fun _ => ?_)
        refine x_aload_n dX11_wish_174 rfl rfl ?_
        refine y_getP dX11_wish_175 sh_79 cf_X11 fl_X11_34 (by decide) (by decide) gg_79_12 ?_
        refine x_iconst dX11_wish_178 (by decide) ?_
        refine x_iload_n dX11_wish_179 rfl rfl ?_
        obtain ⟨s20, h⟩ := h
        refine x_imul dX11_wish_180 s20 ?_
        refine x_iload dX11_wish_181 rfl ?_
        obtain ⟨s21, h⟩ := h
        refine x_iadd dX11_wish_183 s21 ?_
        refine x_bipush dX11_wish_184 (by decide) (by decide) ?_
        obtain ⟨s22, h⟩ := h
        refine x_isub dX11_wish_186 s22 ?_
        refine x_iload_n dX11_wish_187 rfl rfl ?_
        obtain ⟨s23, h⟩ := h
        refine x_iast dX11_wish_188 sh_88 s23 ?_
        refine x_goto (tgt := 219) dX11_wish_189 (by decide) ?_
        obtain ⟨s24, h⟩ := h
        refine y_iinc (ls' := [v_P 79, v_I x1, v_I x2, v_I x3, v_I x4, v_I (x5 + 1), v_I (M 87 x5.toNat)]) dX11_wish_219 rfl s24 (by decide) rfl ?_
        refine x_goto (tgt := 87) dX11_wish_222 (by decide) ?_
        refine y_forget 6 (ls' := [v_P 79, v_I x1, v_I x2, v_I x3, v_I x4, v_I (x5 + 1), v_U]) rfl ?_
        exact h
      · change X_ kk_X11_wish 171 [v_P 79, v_I x1, v_I x2, v_I x3, v_I x4, v_I x5, v_I (M 87 x5.toNat)] [v_I 0] M Q
        replace h := h.2 hc
        refine x_if_eq (tgt := 192) dX11_wish_171 (by decide) (fun _ => ?_) (fun hc => absurd hc (by decide))
        refine x_iload dX11_wish_192 rfl ?_
        refine x_bipush dX11_wish_194 (by decide) (by decide) ?_
        refine x_ic_ne (tgt := 203) dX11_wish_196 (by decide) (fun hc => ?_) (fun hc => ?_)
        · replace h := h.1 hc
          refine x_iconst dX11_wish_203 (by decide) ?_
          refine y_istore (ls' := [v_P 79, v_I x1, v_I x2, v_I x3, v_I 0, v_I x5, v_I (M 87 x5.toNat)]) dX11_wish_204 (by decide) rfl ?_
          refine x_iload_n dX11_wish_206 rfl rfl ?_
          refine x_iload dX11_wish_207 rfl ?_
          refine x_if_eq (tgt := 216) dX11_wish_209 (by decide) (fun _ => ?_) (fun hc => absurd hc (by decide))
          refine x_iconst dX11_wish_216 (by decide) ?_
          obtain ⟨s25, h⟩ := h
          refine x_iadd dX11_wish_217 s25 ?_
          refine y_istore_n (ls' := [v_P 79, v_I x1, v_I (x2 + 1), v_I x3, v_I 0, v_I x5, v_I (M 87 x5.toNat)]) dX11_wish_218 rfl (by decide) rfl ?_
          obtain ⟨s26, h⟩ := h
          refine y_iinc (ls' := [v_P 79, v_I x1, v_I (x2 + 1), v_I x3, v_I 0, v_I (x5 + 1), v_I (M 87 x5.toNat)]) dX11_wish_219 rfl s26 (by decide) rfl ?_
          refine x_goto (tgt := 87) dX11_wish_222 (by decide) ?_
          refine y_forget 6 (ls' := [v_P 79, v_I x1, v_I (x2 + 1), v_I x3, v_I 0, v_I (x5 + 1), v_U]) rfl ?_
          exact h
        · replace h := h.2 hc
          refine x_iconst dX11_wish_199 (by decide) ?_
          refine x_goto (tgt := 204) dX11_wish_200 (by decide) ?_
          refine y_istore (ls' := [v_P 79, v_I x1, v_I x2, v_I x3, v_I 1, v_I x5, v_I (M 87 x5.toNat)]) dX11_wish_204 (by decide) rfl ?_
          refine x_iload_n dX11_wish_206 rfl rfl ?_
          refine x_iload dX11_wish_207 rfl ?_
          refine x_if_eq (tgt := 216) dX11_wish_209 (by decide) (fun hc => absurd hc (by decide)) (fun _ => ?_)
          refine x_iconst dX11_wish_212 (by decide) ?_
          refine x_goto (tgt := 217) dX11_wish_213 (by decide) ?_
          obtain ⟨s27, h⟩ := h
          refine x_iadd dX11_wish_217 s27 ?_
          refine y_istore_n (ls' := [v_P 79, v_I x1, v_I (x2 + 0), v_I x3, v_I 1, v_I x5, v_I (M 87 x5.toNat)]) dX11_wish_218 rfl (by decide) rfl ?_
          obtain ⟨s28, h⟩ := h
          refine y_iinc (ls' := [v_P 79, v_I x1, v_I (x2 + 0), v_I x3, v_I 1, v_I (x5 + 1), v_I (M 87 x5.toNat)]) dX11_wish_219 rfl s28 (by decide) rfl ?_
          refine x_goto (tgt := 87) dX11_wish_222 (by decide) ?_
          refine y_forget 6 (ls' := [v_P 79, v_I x1, v_I (x2 + 0), v_I x3, v_I 1, v_I (x5 + 1), v_U]) rfl ?_
          exact h
theorem wp_X11_alternative_0 {x1 x2 x3 : Int} {M : mM} {Q : Int → mM → Prop} (h : (0 ≤ M 79 8) ∧ (0 ≤ x1 ∧ x1 < M 79 8 → (0 ≤ x1 ∧ x1 < 6) ∧ (m_ir ((M 90 x1.toNat) - 1)) ∧ (0 ≤ x2 ∧ x2 ≤ ((M 90 x1.toNat) - 1) → (0 ≤ x3 ∧ x3 ≤ 5 → (m_ir (6 * x1)) ∧ (m_ir ((6 * x1) + x2)) ∧ (¬ x3 = 0 → (m_ir (5 * ((6 * x1) + x2))) ∧ (m_ir ((5 * ((6 * x1) + x2)) + x3)) ∧ (m_ir (((5 * ((6 * x1) + x2)) + x3) - 1)) ∧ (0 ≤ (((5 * ((6 * x1) + x2)) + x3) - 1) ∧ (((5 * ((6 * x1) + x2)) + x3) - 1) < 180) ∧ Q (M 88 ((((5 * ((6 * x1) + x2)) + x3) - 1).toNat)) M) ∧ (x3 = 0 → (0 ≤ ((6 * x1) + x2) ∧ ((6 * x1) + x2) < 36) ∧ Q (M 89 (((6 * x1) + x2).toNat)) M)) ∧ (¬ (0 ≤ x3 ∧ x3 ≤ 5) → Q (-2) M)) ∧ (¬ (0 ≤ x2 ∧ x2 ≤ ((M 90 x1.toNat) - 1)) → Q (-1) M)) ∧ (¬ (0 ≤ x1 ∧ x1 < M 79 8) → Q (-1) M)) : X_ kk_X11_alternative 0 [v_P 79, v_I x1, v_I x2, v_I x3, v_U] [] M Q := by
  refine x_aload_n dX11_alternative_0 rfl rfl ?_
  refine x_iload_n dX11_alternative_1 rfl rfl ?_
  obtain ⟨s10, h⟩ := h
  refine x_isBuyer (st := []) dX11_alternative_2 ml_X11_123 ⟨by decide, by decide⟩ (fun _ _ => Nat.le_of_ble_eq_true rfl) s10 (fun hc => ?_) (fun hc => ?_)
  · change X_ kk_X11_alternative 5 [v_P 79, v_I x1, v_I x2, v_I x3, v_U] [v_I 1] M Q
    replace h := h.1 hc
    refine x_if_eq (tgt := 26) dX11_alternative_5 (by decide) (fun hc => absurd hc (by decide)) (fun _ => ?_)
    refine x_iload_n dX11_alternative_8 rfl rfl ?_
    refine x_i2l dX11_alternative_9 ?_
    refine x_lconst (z := 0) dX11_alternative_10 (by decide) (by decide) ?_
    refine x_aload_n dX11_alternative_11 rfl rfl ?_
    refine y_getP dX11_alternative_12 sh_79 cf_X11 fl_X11_40 (by decide) (by decide) gg_79_14 ?_
    refine x_iload_n dX11_alternative_15 rfl rfl ?_
    obtain ⟨s1, h⟩ := h
    refine x_iald dX11_alternative_16 sh_90 s1 ?_
    refine x_iconst dX11_alternative_17 (by decide) ?_
    obtain ⟨s2, h⟩ := h
    refine x_isub dX11_alternative_18 s2 ?_
    refine x_i2l dX11_alternative_19 ?_
    refine x_in (st := []) dX11_alternative_20 ml_X11_110 ⟨by decide, by decide⟩ (fun _ _ => Nat.le_of_ble_eq_true rfl) (fun hc => ?_) (fun hc => ?_)
    · change X_ kk_X11_alternative 23 [v_P 79, v_I x1, v_I x2, v_I x3, v_U] [v_I 1] M Q
      replace h := h.1 hc
      refine x_if_ne (tgt := 28) dX11_alternative_23 (by decide) (fun _ => ?_) (fun hc => absurd hc (by decide))
      refine x_iload_n dX11_alternative_28 rfl rfl ?_
      refine x_i2l dX11_alternative_29 ?_
      refine x_lconst (z := 0) dX11_alternative_30 (by decide) (by decide) ?_
      refine x_ldc2 (z := 5) dX11_alternative_31 cl_X11_156 (by decide) (by decide) ?_
      refine x_in (st := []) dX11_alternative_34 ml_X11_110 ⟨by decide, by decide⟩ (fun _ _ => Nat.le_of_ble_eq_true rfl) (fun hc => ?_) (fun hc => ?_)
      · change X_ kk_X11_alternative 37 [v_P 79, v_I x1, v_I x2, v_I x3, v_U] [v_I 1] M Q
        replace h := h.1 hc
        refine x_if_ne (tgt := 43) dX11_alternative_37 (by decide) (fun _ => ?_) (fun hc => absurd hc (by decide))
        refine x_bipush dX11_alternative_43 (by decide) (by decide) ?_
        refine x_iload_n dX11_alternative_45 rfl rfl ?_
        obtain ⟨s3, h⟩ := h
        refine x_imul dX11_alternative_46 s3 ?_
        refine x_iload_n dX11_alternative_47 rfl rfl ?_
        obtain ⟨s4, h⟩ := h
        refine x_iadd dX11_alternative_48 s4 ?_
        refine y_istore (ls' := [v_P 79, v_I x1, v_I x2, v_I x3, v_I ((6 * x1) + x2)]) dX11_alternative_49 (by decide) rfl ?_
        refine x_iload_n dX11_alternative_51 rfl rfl ?_
        refine x_if_ne (tgt := 65) dX11_alternative_52 (by decide) (fun hc => ?_) (fun hc => ?_)
        · replace h := h.1 hc
          refine x_aload_n dX11_alternative_65 rfl rfl ?_
          refine y_getP dX11_alternative_66 sh_79 cf_X11 fl_X11_34 (by decide) (by decide) gg_79_12 ?_
          refine x_iconst dX11_alternative_69 (by decide) ?_
          refine x_iload dX11_alternative_70 rfl ?_
          obtain ⟨s5, h⟩ := h
          refine x_imul dX11_alternative_72 s5 ?_
          refine x_iload_n dX11_alternative_73 rfl rfl ?_
          obtain ⟨s6, h⟩ := h
          refine x_iadd dX11_alternative_74 s6 ?_
          refine x_iconst dX11_alternative_75 (by decide) ?_
          obtain ⟨s7, h⟩ := h
          refine x_isub dX11_alternative_76 s7 ?_
          obtain ⟨s8, h⟩ := h
          refine x_iald dX11_alternative_77 sh_88 s8 ?_
          refine x_iret dX11_alternative_78 rfl (Or.inl rfl) (fun _ _ => h)
        · replace h := h.2 hc
          refine x_aload_n dX11_alternative_55 rfl rfl ?_
          refine y_getP dX11_alternative_56 sh_79 cf_X11 fl_X11_37 (by decide) (by decide) gg_79_13 ?_
          refine x_iload dX11_alternative_59 rfl ?_
          obtain ⟨s9, h⟩ := h
          refine x_iald dX11_alternative_61 sh_89 s9 ?_
          refine x_goto (tgt := 78) dX11_alternative_62 (by decide) ?_
          refine x_iret dX11_alternative_78 rfl (Or.inl rfl) (fun _ _ => h)
      · change X_ kk_X11_alternative 37 [v_P 79, v_I x1, v_I x2, v_I x3, v_U] [v_I 0] M Q
        replace h := h.2 hc
        refine x_if_ne (tgt := 43) dX11_alternative_37 (by decide) (fun hc => absurd hc (by decide)) (fun _ => ?_)
        refine x_bipush dX11_alternative_40 (by decide) (by decide) ?_
        refine x_iret dX11_alternative_42 rfl (Or.inl rfl) (fun _ _ => h)
    · change X_ kk_X11_alternative 23 [v_P 79, v_I x1, v_I x2, v_I x3, v_U] [v_I 0] M Q
      replace h := h.2 hc
      refine x_if_ne (tgt := 28) dX11_alternative_23 (by decide) (fun hc => absurd hc (by decide)) (fun _ => ?_)
      refine x_iconst dX11_alternative_26 (by decide) ?_
      refine x_iret dX11_alternative_27 rfl (Or.inl rfl) (fun _ _ => h)
  · change X_ kk_X11_alternative 5 [v_P 79, v_I x1, v_I x2, v_I x3, v_U] [v_I 0] M Q
    replace h := h.2 hc
    refine x_if_eq (tgt := 26) dX11_alternative_5 (by decide) (fun _ => ?_) (fun hc => absurd hc (by decide))
    refine x_iconst dX11_alternative_26 (by decide) ?_
    refine x_iret dX11_alternative_27 rfl (Or.inl rfl) (fun _ _ => h)
theorem wp_X11_leave_0 {x1 x2 : Int} {M : mM} {Q : Int → mM → Prop} (h : (0 ≤ M 79 8) ∧ (0 ≤ x1 ∧ x1 < M 79 8 → (0 ≤ x1 ∧ x1 < 6) ∧ (m_ir ((m_shl 1 (M 90 x1.toNat)) - 1)) ∧ (0 ≤ x2 ∧ x2 ≤ ((m_shl 1 (M 90 x1.toNat)) - 1) → (0 ≤ x1 ∧ x1 < 6) ∧ (0 ≤ x1 ∧ x1 < 6) ∧ Q (M 91 x1.toNat) (m_up M 91 x1.toNat x2)) ∧ (¬ (0 ≤ x2 ∧ x2 ≤ ((m_shl 1 (M 90 x1.toNat)) - 1)) → Q (-2) M)) ∧ (¬ (0 ≤ x1 ∧ x1 < M 79 8) → Q (-1) M)) : X_ kk_X11_leave 0 [v_P 79, v_I x1, v_I x2, v_U] [] M Q := by
  refine x_aload_n dX11_leave_0 rfl rfl ?_
  refine x_iload_n dX11_leave_1 rfl rfl ?_
  obtain ⟨s5, h⟩ := h
  refine x_isBuyer (st := []) dX11_leave_2 ml_X11_123 ⟨by decide, by decide⟩ (fun _ _ => Nat.le_of_ble_eq_true rfl) s5 (fun hc => ?_) (fun hc => ?_)
  · change X_ kk_X11_leave 5 [v_P 79, v_I x1, v_I x2, v_U] [v_I 1] M Q
    replace h := h.1 hc
    refine x_if_ne (tgt := 10) dX11_leave_5 (by decide) (fun _ => ?_) (fun hc => absurd hc (by decide))
    refine x_iload_n dX11_leave_10 rfl rfl ?_
    refine x_i2l dX11_leave_11 ?_
    refine x_lconst (z := 0) dX11_leave_12 (by decide) (by decide) ?_
    refine x_iconst dX11_leave_13 (by decide) ?_
    refine x_aload_n dX11_leave_14 rfl rfl ?_
    refine y_getP dX11_leave_15 sh_79 cf_X11 fl_X11_40 (by decide) (by decide) gg_79_14 ?_
    refine x_iload_n dX11_leave_18 rfl rfl ?_
    obtain ⟨s1, h⟩ := h
    refine x_iald dX11_leave_19 sh_90 s1 ?_
    refine x_ishl dX11_leave_20 ?_
    refine x_iconst dX11_leave_21 (by decide) ?_
    obtain ⟨s2, h⟩ := h
    refine x_isub dX11_leave_22 s2 ?_
    refine x_i2l dX11_leave_23 ?_
    refine x_in (st := []) dX11_leave_24 ml_X11_110 ⟨by decide, by decide⟩ (fun _ _ => Nat.le_of_ble_eq_true rfl) (fun hc => ?_) (fun hc => ?_)
    · change X_ kk_X11_leave 27 [v_P 79, v_I x1, v_I x2, v_U] [v_I 1] M Q
      replace h := h.1 hc
      refine x_if_ne (tgt := 33) dX11_leave_27 (by decide) (fun _ => ?_) (fun hc => absurd hc (by decide))
      refine x_aload_n dX11_leave_33 rfl rfl ?_
      refine y_getP dX11_leave_34 sh_79 cf_X11 fl_X11_43 (by decide) (by decide) gg_79_15 ?_
      refine x_iload_n dX11_leave_37 rfl rfl ?_
      obtain ⟨s3, h⟩ := h
      refine x_iald dX11_leave_38 sh_91 s3 ?_
      refine y_istore_n (ls' := [v_P 79, v_I x1, v_I x2, v_I (M 91 x1.toNat)]) dX11_leave_39 rfl (by decide) rfl ?_
      refine x_aload_n dX11_leave_40 rfl rfl ?_
      refine y_getP dX11_leave_41 sh_79 cf_X11 fl_X11_43 (by decide) (by decide) gg_79_15 ?_
      refine x_iload_n dX11_leave_44 rfl rfl ?_
      refine x_iload_n dX11_leave_45 rfl rfl ?_
      obtain ⟨s4, h⟩ := h
      refine x_iast dX11_leave_46 sh_91 s4 ?_
      refine x_iload_n dX11_leave_47 rfl rfl ?_
      refine x_iret dX11_leave_48 rfl (Or.inl rfl) (fun _ _ => h)
    · change X_ kk_X11_leave 27 [v_P 79, v_I x1, v_I x2, v_U] [v_I 0] M Q
      replace h := h.2 hc
      refine x_if_ne (tgt := 33) dX11_leave_27 (by decide) (fun hc => absurd hc (by decide)) (fun _ => ?_)
      refine x_bipush dX11_leave_30 (by decide) (by decide) ?_
      refine x_iret dX11_leave_32 rfl (Or.inl rfl) (fun _ _ => h)
  · change X_ kk_X11_leave 5 [v_P 79, v_I x1, v_I x2, v_U] [v_I 0] M Q
    replace h := h.2 hc
    refine x_if_ne (tgt := 10) dX11_leave_5 (by decide) (fun hc => absurd hc (by decide)) (fun _ => ?_)
    refine x_iconst dX11_leave_8 (by decide) ?_
    refine x_iret dX11_leave_9 rfl (Or.inl rfl) (fun _ _ => h)
theorem wp_X11_isMet_0 {x1 x2 : Int} {M : mM} {Q : Int → mM → Prop} (h : X_ kk_X11_isMet 5 [v_P 79, v_I x1, v_I x2, v_I 1, v_I 0, v_U, v_U] [] M Q) : X_ kk_X11_isMet 0 [v_P 79, v_I x1, v_I x2, v_U, v_U, v_U, v_U] [] M Q := by
  refine x_iconst dX11_isMet_0 (by decide) ?_
  refine y_istore_n (ls' := [v_P 79, v_I x1, v_I x2, v_I 1, v_U, v_U, v_U]) dX11_isMet_1 rfl (by decide) rfl ?_
  refine x_iconst dX11_isMet_2 (by decide) ?_
  refine y_istore (ls' := [v_P 79, v_I x1, v_I x2, v_I 1, v_I 0, v_U, v_U]) dX11_isMet_3 (by decide) rfl ?_
  exact h
theorem wp_X11_isMet_5 {x1 x2 x3 x4 : Int} {M : mM} {Q : Int → mM → Prop} (h : (5 ≤ x4 → (x3 = 0 ∨ x3 = 1) ∧ Q x3 M) ∧ (¬ 5 ≤ x4 → X_ kk_X11_isMet 17 [v_P 79, v_I x1, v_I x2, v_I x3, v_I x4, v_I 0, v_I 0] [] M Q)) : X_ kk_X11_isMet 5 [v_P 79, v_I x1, v_I x2, v_I x3, v_I x4, v_U, v_U] [] M Q := by
  refine x_iload dX11_isMet_5 rfl ?_
  refine x_iconst dX11_isMet_7 (by decide) ?_
  refine x_ic_ge (tgt := 96) dX11_isMet_8 (by decide) (fun hc => ?_) (fun hc => ?_)
  · replace h := h.1 hc
    refine x_iload_n dX11_isMet_96 rfl rfl ?_
    refine x_iret dX11_isMet_97 rfl (Or.inr ⟨rfl, h.1⟩) (fun _ _ => h.2)
  · replace h := h.2 hc
    refine x_iconst dX11_isMet_11 (by decide) ?_
    refine y_istore (ls' := [v_P 79, v_I x1, v_I x2, v_I x3, v_I x4, v_I 0, v_U]) dX11_isMet_12 (by decide) rfl ?_
    refine x_iconst dX11_isMet_14 (by decide) ?_
    refine y_istore (ls' := [v_P 79, v_I x1, v_I x2, v_I x3, v_I x4, v_I 0, v_I 0]) dX11_isMet_15 (by decide) rfl ?_
    exact h
theorem wp_X11_isMet_17 {x1 x2 x3 x4 x5 x6 : Int} {M : mM} {Q : Int → mM → Prop} (h : ((M 79 4) ≤ x6 → (x3 = 0 → (m_ir (x4 + 1)) ∧ X_ kk_X11_isMet 5 [v_P 79, v_I x1, v_I x2, v_I 0, v_I (x4 + 1), v_U, v_U] [] M Q) ∧ (¬ x3 = 0 → (m_ir (5 * x1)) ∧ (m_ir ((5 * x1) + x4)) ∧ (0 ≤ ((5 * x1) + x4) ∧ ((5 * x1) + x4) < 180) ∧ (x5 < (M 88 (((5 * x1) + x4).toNat)) → (m_ir (x4 + 1)) ∧ X_ kk_X11_isMet 5 [v_P 79, v_I x1, v_I x2, v_I 0, v_I (x4 + 1), v_U, v_U] [] M Q) ∧ (¬ x5 < (M 88 (((5 * x1) + x4).toNat)) → (m_ir (x4 + 1)) ∧ X_ kk_X11_isMet 5 [v_P 79, v_I x1, v_I x2, v_I 1, v_I (x4 + 1), v_U, v_U] [] M Q))) ∧ (¬ (M 79 4) ≤ x6 → (¬ (m_and (m_shr x2 x6) 1) = 1 → (m_ir (x5 + 0)) ∧ (m_ir (x6 + 1)) ∧ X_ kk_X11_isMet 17 [v_P 79, v_I x1, v_I x2, v_I x3, v_I x4, v_I (x5 + 0), v_I (x6 + 1)] [] M Q) ∧ ((m_and (m_shr x2 x6) 1) = 1 → (0 ≤ x6 ∧ x6 < 8) ∧ (¬ (M 80 x6.toNat) = x4 → (m_ir (x5 + 0)) ∧ (m_ir (x6 + 1)) ∧ X_ kk_X11_isMet 17 [v_P 79, v_I x1, v_I x2, v_I x3, v_I x4, v_I (x5 + 0), v_I (x6 + 1)] [] M Q) ∧ ((M 80 x6.toNat) = x4 → (m_ir (x5 + 1)) ∧ (m_ir (x6 + 1)) ∧ X_ kk_X11_isMet 17 [v_P 79, v_I x1, v_I x2, v_I x3, v_I x4, v_I (x5 + 1), v_I (x6 + 1)] [] M Q)))) : X_ kk_X11_isMet 17 [v_P 79, v_I x1, v_I x2, v_I x3, v_I x4, v_I x5, v_I x6] [] M Q := by
  refine x_iload dX11_isMet_17 rfl ?_
  refine x_aload_n dX11_isMet_19 rfl rfl ?_
  refine x_getI dX11_isMet_20 sh_79 cf_X11 fl_X11_107 (by decide) (by decide) ?_
  refine x_ic_ge (tgt := 64) dX11_isMet_23 (by decide) (fun hc => ?_) (fun hc => ?_)
  · replace h := h.1 hc
    refine x_iload_n dX11_isMet_64 rfl rfl ?_
    refine x_if_eq (tgt := 88) dX11_isMet_65 (by decide) (fun hc => ?_) (fun hc => ?_)
    · replace h := h.1 hc
      refine x_iconst dX11_isMet_88 (by decide) ?_
      refine y_istore_n (ls' := [v_P 79, v_I x1, v_I x2, v_I 0, v_I x4, v_I x5, v_I x6]) dX11_isMet_89 rfl (by decide) rfl ?_
      obtain ⟨s1, h⟩ := h
      refine y_iinc (ls' := [v_P 79, v_I x1, v_I x2, v_I 0, v_I (x4 + 1), v_I x5, v_I x6]) dX11_isMet_90 rfl s1 (by decide) rfl ?_
      refine x_goto (tgt := 5) dX11_isMet_93 (by decide) ?_
      refine y_forget 5 (ls' := [v_P 79, v_I x1, v_I x2, v_I 0, v_I (x4 + 1), v_U, v_I x6]) rfl ?_
      refine y_forget 6 (ls' := [v_P 79, v_I x1, v_I x2, v_I 0, v_I (x4 + 1), v_U, v_U]) rfl ?_
      exact h
    · replace h := h.2 hc
      refine x_iload dX11_isMet_68 rfl ?_
      refine x_aload_n dX11_isMet_70 rfl rfl ?_
      refine y_getP dX11_isMet_71 sh_79 cf_X11 fl_X11_34 (by decide) (by decide) gg_79_12 ?_
      refine x_iconst dX11_isMet_74 (by decide) ?_
      refine x_iload_n dX11_isMet_75 rfl rfl ?_
      obtain ⟨s2, h⟩ := h
      refine x_imul dX11_isMet_76 s2 ?_
      refine x_iload dX11_isMet_77 rfl ?_
      obtain ⟨s3, h⟩ := h
      refine x_iadd dX11_isMet_79 s3 ?_
      obtain ⟨s4, h⟩ := h
      refine x_iald dX11_isMet_80 sh_88 s4 ?_
      refine x_ic_lt (tgt := 88) dX11_isMet_81 (by decide) (fun hc => ?_) (fun hc => ?_)
      · replace h := h.1 hc
        refine x_iconst dX11_isMet_88 (by decide) ?_
        refine y_istore_n (ls' := [v_P 79, v_I x1, v_I x2, v_I 0, v_I x4, v_I x5, v_I x6]) dX11_isMet_89 rfl (by decide) rfl ?_
        obtain ⟨s5, h⟩ := h
        refine y_iinc (ls' := [v_P 79, v_I x1, v_I x2, v_I 0, v_I (x4 + 1), v_I x5, v_I x6]) dX11_isMet_90 rfl s5 (by decide) rfl ?_
        refine x_goto (tgt := 5) dX11_isMet_93 (by decide) ?_
        refine y_forget 5 (ls' := [v_P 79, v_I x1, v_I x2, v_I 0, v_I (x4 + 1), v_U, v_I x6]) rfl ?_
        refine y_forget 6 (ls' := [v_P 79, v_I x1, v_I x2, v_I 0, v_I (x4 + 1), v_U, v_U]) rfl ?_
        exact h
      · replace h := h.2 hc
        refine x_iconst dX11_isMet_84 (by decide) ?_
        refine x_goto (tgt := 89) dX11_isMet_85 (by decide) ?_
        refine y_istore_n (ls' := [v_P 79, v_I x1, v_I x2, v_I 1, v_I x4, v_I x5, v_I x6]) dX11_isMet_89 rfl (by decide) rfl ?_
        obtain ⟨s6, h⟩ := h
        refine y_iinc (ls' := [v_P 79, v_I x1, v_I x2, v_I 1, v_I (x4 + 1), v_I x5, v_I x6]) dX11_isMet_90 rfl s6 (by decide) rfl ?_
        refine x_goto (tgt := 5) dX11_isMet_93 (by decide) ?_
        refine y_forget 5 (ls' := [v_P 79, v_I x1, v_I x2, v_I 1, v_I (x4 + 1), v_U, v_I x6]) rfl ?_
        refine y_forget 6 (ls' := [v_P 79, v_I x1, v_I x2, v_I 1, v_I (x4 + 1), v_U, v_U]) rfl ?_
        exact h
  · replace h := h.2 hc
    refine x_iload dX11_isMet_26 rfl ?_
    refine x_iload_n dX11_isMet_28 rfl rfl ?_
    refine x_iload dX11_isMet_29 rfl ?_
    refine x_ishr dX11_isMet_31 ?_
    refine x_iconst dX11_isMet_32 (by decide) ?_
    refine x_iand dX11_isMet_33 ?_
    refine x_iconst dX11_isMet_34 (by decide) ?_
    refine x_ic_ne (tgt := 54) dX11_isMet_35 (by decide) (fun hc => ?_) (fun hc => ?_)
    · replace h := h.1 hc
      refine x_iconst dX11_isMet_54 (by decide) ?_
      obtain ⟨s7, h⟩ := h
      refine x_iadd dX11_isMet_55 s7 ?_
      refine y_istore (ls' := [v_P 79, v_I x1, v_I x2, v_I x3, v_I x4, v_I (x5 + 0), v_I x6]) dX11_isMet_56 (by decide) rfl ?_
      obtain ⟨s8, h⟩ := h
      refine y_iinc (ls' := [v_P 79, v_I x1, v_I x2, v_I x3, v_I x4, v_I (x5 + 0), v_I (x6 + 1)]) dX11_isMet_58 rfl s8 (by decide) rfl ?_
      refine x_goto (tgt := 17) dX11_isMet_61 (by decide) ?_
      exact h
    · replace h := h.2 hc
      refine x_aload_n dX11_isMet_38 rfl rfl ?_
      refine y_getP dX11_isMet_39 sh_79 cf_X11 fl_X11_7 (by decide) (by decide) gg_79_0 ?_
      refine x_iload dX11_isMet_42 rfl ?_
      obtain ⟨s9, h⟩ := h
      refine x_iald dX11_isMet_44 sh_80 s9 ?_
      refine x_iload dX11_isMet_45 rfl ?_
      refine x_ic_ne (tgt := 54) dX11_isMet_47 (by decide) (fun hc => ?_) (fun hc => ?_)
      · replace h := h.1 hc
        refine x_iconst dX11_isMet_54 (by decide) ?_
        obtain ⟨s10, h⟩ := h
        refine x_iadd dX11_isMet_55 s10 ?_
        refine y_istore (ls' := [v_P 79, v_I x1, v_I x2, v_I x3, v_I x4, v_I (x5 + 0), v_I x6]) dX11_isMet_56 (by decide) rfl ?_
        obtain ⟨s11, h⟩ := h
        refine y_iinc (ls' := [v_P 79, v_I x1, v_I x2, v_I x3, v_I x4, v_I (x5 + 0), v_I (x6 + 1)]) dX11_isMet_58 rfl s11 (by decide) rfl ?_
        refine x_goto (tgt := 17) dX11_isMet_61 (by decide) ?_
        exact h
      · replace h := h.2 hc
        refine x_iconst dX11_isMet_50 (by decide) ?_
        refine x_goto (tgt := 55) dX11_isMet_51 (by decide) ?_
        obtain ⟨s12, h⟩ := h
        refine x_iadd dX11_isMet_55 s12 ?_
        refine y_istore (ls' := [v_P 79, v_I x1, v_I x2, v_I x3, v_I x4, v_I (x5 + 1), v_I x6]) dX11_isMet_56 (by decide) rfl ?_
        obtain ⟨s13, h⟩ := h
        refine y_iinc (ls' := [v_P 79, v_I x1, v_I x2, v_I x3, v_I x4, v_I (x5 + 1), v_I (x6 + 1)]) dX11_isMet_58 rfl s13 (by decide) rfl ?_
        refine x_goto (tgt := 17) dX11_isMet_61 (by decide) ?_
        exact h
theorem wp_X11_bestOf_0 {x1 x2 : Int} {M : mM} {Q : Int → mM → Prop} (h : X_ kk_X11_bestOf 6 [v_P 79, v_I x1, v_I x2, v_I (-6), v_I 0, v_U, v_U] [] M Q) : X_ kk_X11_bestOf 0 [v_P 79, v_I x1, v_I x2, v_U, v_U, v_U, v_U] [] M Q := by
  refine x_bipush dX11_bestOf_0 (by decide) (by decide) ?_
  refine y_istore_n (ls' := [v_P 79, v_I x1, v_I x2, v_I (-6), v_U, v_U, v_U]) dX11_bestOf_2 rfl (by decide) rfl ?_
  refine x_iconst dX11_bestOf_3 (by decide) ?_
  refine y_istore (ls' := [v_P 79, v_I x1, v_I x2, v_I (-6), v_I 0, v_U, v_U]) dX11_bestOf_4 (by decide) rfl ?_
  exact h
theorem wp_X11_bestOf_6 {x1 x2 x3 x4 : Int} {M : mM} {Q : Int → mM → Prop} (h : (0 ≤ x1 ∧ x1 < 6) ∧ ((M 90 x1.toNat) ≤ x4 → Q x3 M) ∧ (¬ (M 90 x1.toNat) ≤ x4 → (m_ir (6 * x1)) ∧ (m_ir ((6 * x1) + x4)) ∧ (0 ≤ x1 ∧ x1 < 6) ∧ (¬ (m_and (m_shr (M 91 x1.toNat) x4) 1) = 0 → (m_ir (x4 + 1)) ∧ X_ kk_X11_bestOf 6 [v_P 79, v_I x1, v_I x2, v_I x3, v_I (x4 + 1), v_U, v_U] [] M Q) ∧ ((m_and (m_shr (M 91 x1.toNat) x4) 1) = 0 → ∃ Qc6 : Int → mM → Prop, C_ kk_X11_isMet [v_P 79, v_I ((6 * x1) + x4), v_I x2] M Qc6 ∧ ∀ (r7 : Int) (M8 : mM), m_ir r7 → m_okM M8 → Qc6 r7 M8 → (r7 = 0 → (m_ir (x4 + 1)) ∧ X_ kk_X11_bestOf 6 [v_P 79, v_I x1, v_I x2, v_I x3, v_I (x4 + 1), v_U, v_U] [] M8 Q) ∧ (¬ r7 = 0 → (x3 < 0 → (m_ir (x4 + 1)) ∧ X_ kk_X11_bestOf 6 [v_P 79, v_I x1, v_I x2, v_I x4, v_I (x4 + 1), v_U, v_U] [] M8 Q) ∧ (¬ x3 < 0 → (0 ≤ ((6 * x1) + x4) ∧ ((6 * x1) + x4) < 36) ∧ (m_ir (6 * x1)) ∧ (m_ir ((6 * x1) + x3)) ∧ (0 ≤ ((6 * x1) + x3) ∧ ((6 * x1) + x3) < 36) ∧ ((M8 89 (((6 * x1) + x4).toNat)) ≤ (M8 89 (((6 * x1) + x3).toNat)) → (m_ir (x4 + 1)) ∧ X_ kk_X11_bestOf 6 [v_P 79, v_I x1, v_I x2, v_I x3, v_I (x4 + 1), v_U, v_U] [] M8 Q) ∧ (¬ (M8 89 (((6 * x1) + x4).toNat)) ≤ (M8 89 (((6 * x1) + x3).toNat)) → (m_ir (x4 + 1)) ∧ X_ kk_X11_bestOf 6 [v_P 79, v_I x1, v_I x2, v_I x4, v_I (x4 + 1), v_U, v_U] [] M8 Q)))))) : X_ kk_X11_bestOf 6 [v_P 79, v_I x1, v_I x2, v_I x3, v_I x4, v_U, v_U] [] M Q := by
  refine x_iload dX11_bestOf_6 rfl ?_
  refine x_aload_n dX11_bestOf_8 rfl rfl ?_
  refine y_getP dX11_bestOf_9 sh_79 cf_X11 fl_X11_40 (by decide) (by decide) gg_79_14 ?_
  refine x_iload_n dX11_bestOf_12 rfl rfl ?_
  obtain ⟨s1, h⟩ := h
  refine x_iald dX11_bestOf_13 sh_90 s1 ?_
  refine x_ic_ge (tgt := 100) dX11_bestOf_14 (by decide) (fun hc => ?_) (fun hc => ?_)
  · replace h := h.1 hc
    refine x_iload_n dX11_bestOf_100 rfl rfl ?_
    refine x_iret dX11_bestOf_101 rfl (Or.inl rfl) (fun _ _ => h)
  · replace h := h.2 hc
    refine x_bipush dX11_bestOf_17 (by decide) (by decide) ?_
    refine x_iload_n dX11_bestOf_19 rfl rfl ?_
    obtain ⟨s2, h⟩ := h
    refine x_imul dX11_bestOf_20 s2 ?_
    refine x_iload dX11_bestOf_21 rfl ?_
    obtain ⟨s3, h⟩ := h
    refine x_iadd dX11_bestOf_23 s3 ?_
    refine y_istore (ls' := [v_P 79, v_I x1, v_I x2, v_I x3, v_I x4, v_I ((6 * x1) + x4), v_U]) dX11_bestOf_24 (by decide) rfl ?_
    refine x_aload_n dX11_bestOf_26 rfl rfl ?_
    refine y_getP dX11_bestOf_27 sh_79 cf_X11 fl_X11_43 (by decide) (by decide) gg_79_15 ?_
    refine x_iload_n dX11_bestOf_30 rfl rfl ?_
    obtain ⟨s4, h⟩ := h
    refine x_iald dX11_bestOf_31 sh_91 s4 ?_
    refine x_iload dX11_bestOf_32 rfl ?_
    refine x_ishr dX11_bestOf_34 ?_
    refine x_iconst dX11_bestOf_35 (by decide) ?_
    refine x_iand dX11_bestOf_36 ?_
    refine x_if_ne (tgt := 54) dX11_bestOf_37 (by decide) (fun hc => ?_) (fun hc => ?_)
    · replace h := h.1 hc
      refine x_iconst dX11_bestOf_54 (by decide) ?_
      refine y_istore (ls' := [v_P 79, v_I x1, v_I x2, v_I x3, v_I x4, v_I ((6 * x1) + x4), v_I 0]) dX11_bestOf_55 (by decide) rfl ?_
      refine x_iload dX11_bestOf_57 rfl ?_
      refine x_if_eq (tgt := 92) dX11_bestOf_59 (by decide) (fun _ => ?_) (fun hc => absurd hc (by decide))
      refine x_iload_n dX11_bestOf_92 rfl rfl ?_
      refine y_istore_n (ls' := [v_P 79, v_I x1, v_I x2, v_I x3, v_I x4, v_I ((6 * x1) + x4), v_I 0]) dX11_bestOf_93 rfl (by decide) rfl ?_
      obtain ⟨s5, h⟩ := h
      refine y_iinc (ls' := [v_P 79, v_I x1, v_I x2, v_I x3, v_I (x4 + 1), v_I ((6 * x1) + x4), v_I 0]) dX11_bestOf_94 rfl s5 (by decide) rfl ?_
      refine x_goto (tgt := 6) dX11_bestOf_97 (by decide) ?_
      refine y_forget 5 (ls' := [v_P 79, v_I x1, v_I x2, v_I x3, v_I (x4 + 1), v_U, v_I 0]) rfl ?_
      refine y_forget 6 (ls' := [v_P 79, v_I x1, v_I x2, v_I x3, v_I (x4 + 1), v_U, v_U]) rfl ?_
      exact h
    · replace h := h.2 hc
      refine x_aload_n dX11_bestOf_40 rfl rfl ?_
      refine x_iload dX11_bestOf_41 rfl ?_
      refine x_iload_n dX11_bestOf_43 rfl rfl ?_
      obtain ⟨Qc6, hc9, h⟩ := h
      refine x_callV (as := [v_I ((6 * x1) + x4), v_I x2]) (st := []) (Qc := Qc6) dX11_bestOf_44 mt_X11_isMet ml_X11_158 ⟨by decide, by decide⟩ sh_79 rfl (fun _ _ => Nat.le_of_ble_eq_true rfl) hc9 (fun r7 M8 hr10 hM11 hq12 => ?_)
      replace h := h r7 M8 hr10 hM11 hq12
      change X_ kk_X11_bestOf 47 [v_P 79, v_I x1, v_I x2, v_I x3, v_I x4, v_I ((6 * x1) + x4), v_U] [v_I r7] M8 Q
      refine x_if_eq (tgt := 54) dX11_bestOf_47 (by decide) (fun hc => ?_) (fun hc => ?_)
      · replace h := h.1 hc
        refine x_iconst dX11_bestOf_54 (by decide) ?_
        refine y_istore (ls' := [v_P 79, v_I x1, v_I x2, v_I x3, v_I x4, v_I ((6 * x1) + x4), v_I 0]) dX11_bestOf_55 (by decide) rfl ?_
        refine x_iload dX11_bestOf_57 rfl ?_
        refine x_if_eq (tgt := 92) dX11_bestOf_59 (by decide) (fun _ => ?_) (fun hc => absurd hc (by decide))
        refine x_iload_n dX11_bestOf_92 rfl rfl ?_
        refine y_istore_n (ls' := [v_P 79, v_I x1, v_I x2, v_I x3, v_I x4, v_I ((6 * x1) + x4), v_I 0]) dX11_bestOf_93 rfl (by decide) rfl ?_
        obtain ⟨s13, h⟩ := h
        refine y_iinc (ls' := [v_P 79, v_I x1, v_I x2, v_I x3, v_I (x4 + 1), v_I ((6 * x1) + x4), v_I 0]) dX11_bestOf_94 rfl s13 (by decide) rfl ?_
        refine x_goto (tgt := 6) dX11_bestOf_97 (by decide) ?_
        refine y_forget 5 (ls' := [v_P 79, v_I x1, v_I x2, v_I x3, v_I (x4 + 1), v_U, v_I 0]) rfl ?_
        refine y_forget 6 (ls' := [v_P 79, v_I x1, v_I x2, v_I x3, v_I (x4 + 1), v_U, v_U]) rfl ?_
        exact h
      · replace h := h.2 hc
        refine x_iconst dX11_bestOf_50 (by decide) ?_
        refine x_goto (tgt := 55) dX11_bestOf_51 (by decide) ?_
        refine y_istore (ls' := [v_P 79, v_I x1, v_I x2, v_I x3, v_I x4, v_I ((6 * x1) + x4), v_I 1]) dX11_bestOf_55 (by decide) rfl ?_
        refine x_iload dX11_bestOf_57 rfl ?_
        refine x_if_eq (tgt := 92) dX11_bestOf_59 (by decide) (fun hc => absurd hc (by decide)) (fun _ => ?_)
        refine x_iload_n dX11_bestOf_62 rfl rfl ?_
        refine x_if_lt (tgt := 87) dX11_bestOf_63 (by decide) (fun hc => ?_) (fun hc => ?_)
        · replace h := h.1 hc
          refine x_iload dX11_bestOf_87 rfl ?_
          refine x_goto (tgt := 93) dX11_bestOf_89 (by decide) ?_
          refine y_istore_n (ls' := [v_P 79, v_I x1, v_I x2, v_I x4, v_I x4, v_I ((6 * x1) + x4), v_I 1]) dX11_bestOf_93 rfl (by decide) rfl ?_
          obtain ⟨s14, h⟩ := h
          refine y_iinc (ls' := [v_P 79, v_I x1, v_I x2, v_I x4, v_I (x4 + 1), v_I ((6 * x1) + x4), v_I 1]) dX11_bestOf_94 rfl s14 (by decide) rfl ?_
          refine x_goto (tgt := 6) dX11_bestOf_97 (by decide) ?_
          refine y_forget 5 (ls' := [v_P 79, v_I x1, v_I x2, v_I x4, v_I (x4 + 1), v_U, v_I 1]) rfl ?_
          refine y_forget 6 (ls' := [v_P 79, v_I x1, v_I x2, v_I x4, v_I (x4 + 1), v_U, v_U]) rfl ?_
          exact h
        · replace h := h.2 hc
          refine x_aload_n dX11_bestOf_66 rfl rfl ?_
          refine y_getP dX11_bestOf_67 sh_79 cf_X11 fl_X11_37 (by decide) (by decide) gg_79_13 ?_
          refine x_iload dX11_bestOf_70 rfl ?_
          obtain ⟨s15, h⟩ := h
          refine x_iald dX11_bestOf_72 sh_89 s15 ?_
          refine x_aload_n dX11_bestOf_73 rfl rfl ?_
          refine y_getP dX11_bestOf_74 sh_79 cf_X11 fl_X11_37 (by decide) (by decide) gg_79_13 ?_
          refine x_bipush dX11_bestOf_77 (by decide) (by decide) ?_
          refine x_iload_n dX11_bestOf_79 rfl rfl ?_
          obtain ⟨s16, h⟩ := h
          refine x_imul dX11_bestOf_80 s16 ?_
          refine x_iload_n dX11_bestOf_81 rfl rfl ?_
          obtain ⟨s17, h⟩ := h
          refine x_iadd dX11_bestOf_82 s17 ?_
          obtain ⟨s18, h⟩ := h
          refine x_iald dX11_bestOf_83 sh_89 s18 ?_
          refine x_ic_le (tgt := 92) dX11_bestOf_84 (by decide) (fun hc => ?_) (fun hc => ?_)
          · replace h := h.1 hc
            refine x_iload_n dX11_bestOf_92 rfl rfl ?_
            refine y_istore_n (ls' := [v_P 79, v_I x1, v_I x2, v_I x3, v_I x4, v_I ((6 * x1) + x4), v_I 1]) dX11_bestOf_93 rfl (by decide) rfl ?_
            obtain ⟨s19, h⟩ := h
            refine y_iinc (ls' := [v_P 79, v_I x1, v_I x2, v_I x3, v_I (x4 + 1), v_I ((6 * x1) + x4), v_I 1]) dX11_bestOf_94 rfl s19 (by decide) rfl ?_
            refine x_goto (tgt := 6) dX11_bestOf_97 (by decide) ?_
            refine y_forget 5 (ls' := [v_P 79, v_I x1, v_I x2, v_I x3, v_I (x4 + 1), v_U, v_I 1]) rfl ?_
            refine y_forget 6 (ls' := [v_P 79, v_I x1, v_I x2, v_I x3, v_I (x4 + 1), v_U, v_U]) rfl ?_
            exact h
          · replace h := h.2 hc
            refine x_iload dX11_bestOf_87 rfl ?_
            refine x_goto (tgt := 93) dX11_bestOf_89 (by decide) ?_
            refine y_istore_n (ls' := [v_P 79, v_I x1, v_I x2, v_I x4, v_I x4, v_I ((6 * x1) + x4), v_I 1]) dX11_bestOf_93 rfl (by decide) rfl ?_
            obtain ⟨s20, h⟩ := h
            refine y_iinc (ls' := [v_P 79, v_I x1, v_I x2, v_I x4, v_I (x4 + 1), v_I ((6 * x1) + x4), v_I 1]) dX11_bestOf_94 rfl s20 (by decide) rfl ?_
            refine x_goto (tgt := 6) dX11_bestOf_97 (by decide) ?_
            refine y_forget 5 (ls' := [v_P 79, v_I x1, v_I x2, v_I x4, v_I (x4 + 1), v_U, v_I 1]) rfl ?_
            refine y_forget 6 (ls' := [v_P 79, v_I x1, v_I x2, v_I x4, v_I (x4 + 1), v_U, v_U]) rfl ?_
            exact h
theorem wp_X11_isHeap_0 {x1 : Int} {M : mM} {Q : Int → mM → Prop} (h : (m_ir ((m_shl 1 (M 79 4)) - 1)) ∧ (0 ≤ x1 ∧ x1 ≤ ((m_shl 1 (M 79 4)) - 1) → Q 1 M) ∧ (¬ (0 ≤ x1 ∧ x1 ≤ ((m_shl 1 (M 79 4)) - 1)) → Q 0 M)) : X_ kk_X11_isHeap 0 [v_P 79, v_I x1] [] M Q := by
  refine x_iload_n dX11_isHeap_0 rfl rfl ?_
  refine x_i2l dX11_isHeap_1 ?_
  refine x_lconst (z := 0) dX11_isHeap_2 (by decide) (by decide) ?_
  refine x_iconst dX11_isHeap_3 (by decide) ?_
  refine x_aload_n dX11_isHeap_4 rfl rfl ?_
  refine x_getI dX11_isHeap_5 sh_79 cf_X11 fl_X11_107 (by decide) (by decide) ?_
  refine x_ishl dX11_isHeap_8 ?_
  refine x_iconst dX11_isHeap_9 (by decide) ?_
  obtain ⟨s1, h⟩ := h
  refine x_isub dX11_isHeap_10 s1 ?_
  refine x_i2l dX11_isHeap_11 ?_
  refine x_in (st := []) dX11_isHeap_12 ml_X11_110 ⟨by decide, by decide⟩ (fun _ _ => Nat.le_of_ble_eq_true rfl) (fun hc => ?_) (fun hc => ?_)
  · change X_ kk_X11_isHeap 15 [v_P 79, v_I x1] [v_I 1] M Q
    replace h := h.1 hc
    refine x_iret dX11_isHeap_15 rfl (Or.inr ⟨rfl, Or.inr rfl⟩) (fun _ _ => h)
  · change X_ kk_X11_isHeap 15 [v_P 79, v_I x1] [v_I 0] M Q
    replace h := h.2 hc
    refine x_iret dX11_isHeap_15 rfl (Or.inr ⟨rfl, Or.inl rfl⟩) (fun _ _ => h)
theorem wp_X11_worth_0 {x1 x2 : Int} {M : mM} {Q : Int → mM → Prop} (h : (0 ≤ M 79 8) ∧ (0 ≤ x1 ∧ x1 < M 79 8 → ∃ Qc1 : Int → mM → Prop, C_ kk_X11_isHeap [v_P 79, v_I x2] M Qc1 ∧ ∀ (r2 : Int) (M3 : mM), m_ir r2 → m_okM M3 → Qc1 r2 M3 → (¬ r2 = 0 → ∃ Qc8 : Int → mM → Prop, C_ kk_X11_bestOf [v_P 79, v_I x1, v_I x2] M3 Qc8 ∧ ∀ (r9 : Int) (M10 : mM), m_ir r9 → m_okM M10 → Qc8 r9 M10 → (0 ≤ r9 → (m_ir (6 * x1)) ∧ (m_ir ((6 * x1) + r9)) ∧ (0 ≤ ((6 * x1) + r9) ∧ ((6 * x1) + r9) < 36) ∧ Q (M10 89 (((6 * x1) + r9).toNat)) M10) ∧ (¬ 0 ≤ r9 → Q 0 M10)) ∧ (r2 = 0 → Q (-2) M3)) ∧ (¬ (0 ≤ x1 ∧ x1 < M 79 8) → Q (-1) M)) : X_ kk_X11_worth 0 [v_P 79, v_I x1, v_I x2, v_U] [] M Q := by
  refine x_aload_n dX11_worth_0 rfl rfl ?_
  refine x_iload_n dX11_worth_1 rfl rfl ?_
  obtain ⟨s18, h⟩ := h
  refine x_isBuyer (st := []) dX11_worth_2 ml_X11_123 ⟨by decide, by decide⟩ (fun _ _ => Nat.le_of_ble_eq_true rfl) s18 (fun hc => ?_) (fun hc => ?_)
  · change X_ kk_X11_worth 5 [v_P 79, v_I x1, v_I x2, v_U] [v_I 1] M Q
    replace h := h.1 hc
    refine x_if_ne (tgt := 10) dX11_worth_5 (by decide) (fun _ => ?_) (fun hc => absurd hc (by decide))
    refine x_aload_n dX11_worth_10 rfl rfl ?_
    refine x_iload_n dX11_worth_11 rfl rfl ?_
    obtain ⟨Qc1, hc4, h⟩ := h
    refine x_callV (as := [v_I x2]) (st := []) (Qc := Qc1) dX11_worth_12 mt_X11_isHeap ml_X11_162 ⟨by decide, by decide⟩ sh_79 rfl (fun _ _ => Nat.le_of_ble_eq_true rfl) hc4 (fun r2 M3 hr5 hM6 hq7 => ?_)
    replace h := h r2 M3 hr5 hM6 hq7
    change X_ kk_X11_worth 15 [v_P 79, v_I x1, v_I x2, v_U] [v_I r2] M3 Q
    refine x_if_ne (tgt := 21) dX11_worth_15 (by decide) (fun hc => ?_) (fun hc => ?_)
    · replace h := h.1 hc
      refine x_aload_n dX11_worth_21 rfl rfl ?_
      refine x_iload_n dX11_worth_22 rfl rfl ?_
      refine x_iload_n dX11_worth_23 rfl rfl ?_
      obtain ⟨Qc8, hc11, h⟩ := h
      refine x_callV (as := [v_I x1, v_I x2]) (st := []) (Qc := Qc8) dX11_worth_24 mt_X11_bestOf ml_X11_165 ⟨by decide, by decide⟩ sh_79 rfl (fun _ _ => Nat.le_of_ble_eq_true rfl) hc11 (fun r9 M10 hr12 hM13 hq14 => ?_)
      replace h := h r9 M10 hr12 hM13 hq14
      change X_ kk_X11_worth 27 [v_P 79, v_I x1, v_I x2, v_U] [v_I r9] M10 Q
      refine y_istore_n (ls' := [v_P 79, v_I x1, v_I x2, v_I r9]) dX11_worth_27 rfl (by decide) rfl ?_
      refine x_iload_n dX11_worth_28 rfl rfl ?_
      refine x_if_ge (tgt := 36) dX11_worth_29 (by decide) (fun hc => ?_) (fun hc => ?_)
      · replace h := h.1 hc
        refine x_aload_n dX11_worth_36 rfl rfl ?_
        refine y_getP dX11_worth_37 sh_79 cf_X11 fl_X11_37 (by decide) (by decide) gg_79_13 ?_
        refine x_bipush dX11_worth_40 (by decide) (by decide) ?_
        refine x_iload_n dX11_worth_42 rfl rfl ?_
        obtain ⟨s15, h⟩ := h
        refine x_imul dX11_worth_43 s15 ?_
        refine x_iload_n dX11_worth_44 rfl rfl ?_
        obtain ⟨s16, h⟩ := h
        refine x_iadd dX11_worth_45 s16 ?_
        obtain ⟨s17, h⟩ := h
        refine x_iald dX11_worth_46 sh_89 s17 ?_
        refine x_iret dX11_worth_47 rfl (Or.inl rfl) (fun _ _ => h)
      · replace h := h.2 hc
        refine x_iconst dX11_worth_32 (by decide) ?_
        refine x_goto (tgt := 47) dX11_worth_33 (by decide) ?_
        refine x_iret dX11_worth_47 rfl (Or.inl rfl) (fun _ _ => h)
    · replace h := h.2 hc
      refine x_bipush dX11_worth_18 (by decide) (by decide) ?_
      refine x_iret dX11_worth_20 rfl (Or.inl rfl) (fun _ _ => h)
  · change X_ kk_X11_worth 5 [v_P 79, v_I x1, v_I x2, v_U] [v_I 0] M Q
    replace h := h.2 hc
    refine x_if_ne (tgt := 10) dX11_worth_5 (by decide) (fun hc => absurd hc (by decide)) (fun _ => ?_)
    refine x_iconst dX11_worth_8 (by decide) ?_
    refine x_iret dX11_worth_9 rfl (Or.inl rfl) (fun _ _ => h)
theorem wp_X11_why_0 {x1 x2 : Int} {M : mM} {Q : Int → mM → Prop} (h : (0 ≤ M 79 8) ∧ (0 ≤ x1 ∧ x1 < M 79 8 → ∃ Qc1 : Int → mM → Prop, C_ kk_X11_isHeap [v_P 79, v_I x2] M Qc1 ∧ ∀ (r2 : Int) (M3 : mM), m_ir r2 → m_okM M3 → Qc1 r2 M3 → (r2 = 0 → Q (-2) M3) ∧ (¬ r2 = 0 → ∃ Qc8 : Int → mM → Prop, C_ kk_X11_bestOf [v_P 79, v_I x1, v_I x2] M3 Qc8 ∧ ∀ (r9 : Int) (M10 : mM), m_ir r9 → m_okM M10 → Qc8 r9 M10 → Q r9 M10)) ∧ (¬ (0 ≤ x1 ∧ x1 < M 79 8) → Q (-1) M)) : X_ kk_X11_why 0 [v_P 79, v_I x1, v_I x2] [] M Q := by
  refine x_aload_n dX11_why_0 rfl rfl ?_
  refine x_iload_n dX11_why_1 rfl rfl ?_
  obtain ⟨s15, h⟩ := h
  refine x_isBuyer (st := []) dX11_why_2 ml_X11_123 ⟨by decide, by decide⟩ (fun _ _ => Nat.le_of_ble_eq_true rfl) s15 (fun hc => ?_) (fun hc => ?_)
  · change X_ kk_X11_why 5 [v_P 79, v_I x1, v_I x2] [v_I 1] M Q
    replace h := h.1 hc
    refine x_if_ne (tgt := 10) dX11_why_5 (by decide) (fun _ => ?_) (fun hc => absurd hc (by decide))
    refine x_aload_n dX11_why_10 rfl rfl ?_
    refine x_iload_n dX11_why_11 rfl rfl ?_
    obtain ⟨Qc1, hc4, h⟩ := h
    refine x_callV (as := [v_I x2]) (st := []) (Qc := Qc1) dX11_why_12 mt_X11_isHeap ml_X11_162 ⟨by decide, by decide⟩ sh_79 rfl (fun _ _ => Nat.le_of_ble_eq_true rfl) hc4 (fun r2 M3 hr5 hM6 hq7 => ?_)
    replace h := h r2 M3 hr5 hM6 hq7
    change X_ kk_X11_why 15 [v_P 79, v_I x1, v_I x2] [v_I r2] M3 Q
    refine x_if_eq (tgt := 27) dX11_why_15 (by decide) (fun hc => ?_) (fun hc => ?_)
    · replace h := h.1 hc
      refine x_bipush dX11_why_27 (by decide) (by decide) ?_
      refine x_iret dX11_why_29 rfl (Or.inl rfl) (fun _ _ => h)
    · replace h := h.2 hc
      refine x_aload_n dX11_why_18 rfl rfl ?_
      refine x_iload_n dX11_why_19 rfl rfl ?_
      refine x_iload_n dX11_why_20 rfl rfl ?_
      obtain ⟨Qc8, hc11, h⟩ := h
      refine x_callV (as := [v_I x1, v_I x2]) (st := []) (Qc := Qc8) dX11_why_21 mt_X11_bestOf ml_X11_165 ⟨by decide, by decide⟩ sh_79 rfl (fun _ _ => Nat.le_of_ble_eq_true rfl) hc11 (fun r9 M10 hr12 hM13 hq14 => ?_)
      replace h := h r9 M10 hr12 hM13 hq14
      change X_ kk_X11_why 24 [v_P 79, v_I x1, v_I x2] [v_I r9] M10 Q
      refine x_goto (tgt := 29) dX11_why_24 (by decide) ?_
      refine x_iret dX11_why_29 rfl (Or.inl rfl) (fun _ _ => h)
  · change X_ kk_X11_why 5 [v_P 79, v_I x1, v_I x2] [v_I 0] M Q
    replace h := h.2 hc
    refine x_if_ne (tgt := 10) dX11_why_5 (by decide) (fun hc => absurd hc (by decide)) (fun _ => ?_)
    refine x_iconst dX11_why_8 (by decide) ?_
    refine x_iret dX11_why_9 rfl (Or.inl rfl) (fun _ _ => h)
theorem wp_X11_layWorths_0 {M : mM} {Q : Int → mM → Prop} (h : X_ kk_X11_layWorths 2 [v_P 79, v_I 0, v_U, v_U] [] M Q) : X_ kk_X11_layWorths 0 [v_P 79, v_U, v_U, v_U] [] M Q := by
  refine x_iconst dX11_layWorths_0 (by decide) ?_
  refine y_istore_n (ls' := [v_P 79, v_I 0, v_U, v_U]) dX11_layWorths_1 rfl (by decide) rfl ?_
  exact h
theorem wp_X11_layWorths_2 {x1 : Int} {M : mM} {Q : Int → mM → Prop} (h : ((M 79 8) ≤ x1 → Q 0 M) ∧ (¬ (M 79 8) ≤ x1 → X_ kk_X11_layWorths 12 [v_P 79, v_I x1, v_I 0, v_U] [] M Q)) : X_ kk_X11_layWorths 2 [v_P 79, v_I x1, v_U, v_U] [] M Q := by
  refine x_iload_n dX11_layWorths_2 rfl rfl ?_
  refine x_aload_n dX11_layWorths_3 rfl rfl ?_
  refine x_getI dX11_layWorths_4 sh_79 cf_X11 fl_X11_114 (by decide) (by decide) ?_
  refine x_ic_ge (tgt := 72) dX11_layWorths_7 (by decide) (fun hc => ?_) (fun hc => ?_)
  · replace h := h.1 hc
    refine x_ret dX11_layWorths_72 rfl (fun _ => h)
  · replace h := h.2 hc
    refine x_iconst dX11_layWorths_10 (by decide) ?_
    refine y_istore_n (ls' := [v_P 79, v_I x1, v_I 0, v_U]) dX11_layWorths_11 rfl (by decide) rfl ?_
    exact h
theorem wp_X11_layWorths_12 {x1 x2 : Int} {M : mM} {Q : Int → mM → Prop} (h : ((m_shl 1 (M 79 4)) ≤ x2 → (m_ir (x1 + 1)) ∧ X_ kk_X11_layWorths 2 [v_P 79, v_I (x1 + 1), v_U, v_U] [] M Q) ∧ (¬ (m_shl 1 (M 79 4)) ≤ x2 → ∃ Qc2 : Int → mM → Prop, C_ kk_X11_bestOf [v_P 79, v_I x1, v_I x2] M Qc2 ∧ ∀ (r3 : Int) (M4 : mM), m_ir r3 → m_okM M4 → Qc2 r3 M4 → (m_ir (256 * x1)) ∧ (m_ir ((256 * x1) + x2)) ∧ (0 ≤ r3 → (m_ir (6 * x1)) ∧ (m_ir ((6 * x1) + r3)) ∧ (0 ≤ ((6 * x1) + r3) ∧ ((6 * x1) + r3) < 36) ∧ (0 ≤ ((256 * x1) + x2) ∧ ((256 * x1) + x2) < 1536) ∧ (m_ir (x2 + 1)) ∧ X_ kk_X11_layWorths 12 [v_P 79, v_I x1, v_I (x2 + 1), v_U] [] (m_up M4 92 (((256 * x1) + x2).toNat) (M4 89 (((6 * x1) + r3).toNat))) Q) ∧ (¬ 0 ≤ r3 → (0 ≤ ((256 * x1) + x2) ∧ ((256 * x1) + x2) < 1536) ∧ (m_ir (x2 + 1)) ∧ X_ kk_X11_layWorths 12 [v_P 79, v_I x1, v_I (x2 + 1), v_U] [] (m_up M4 92 (((256 * x1) + x2).toNat) 0) Q))) : X_ kk_X11_layWorths 12 [v_P 79, v_I x1, v_I x2, v_U] [] M Q := by
  refine x_iload_n dX11_layWorths_12 rfl rfl ?_
  refine x_iconst dX11_layWorths_13 (by decide) ?_
  refine x_aload_n dX11_layWorths_14 rfl rfl ?_
  refine x_getI dX11_layWorths_15 sh_79 cf_X11 fl_X11_107 (by decide) (by decide) ?_
  refine x_ishl dX11_layWorths_18 ?_
  refine x_ic_ge (tgt := 66) dX11_layWorths_19 (by decide) (fun hc => ?_) (fun hc => ?_)
  · replace h := h.1 hc
    obtain ⟨s1, h⟩ := h
    refine y_iinc (ls' := [v_P 79, v_I (x1 + 1), v_I x2, v_U]) dX11_layWorths_66 rfl s1 (by decide) rfl ?_
    refine x_goto (tgt := 2) dX11_layWorths_69 (by decide) ?_
    refine y_forget 2 (ls' := [v_P 79, v_I (x1 + 1), v_U, v_U]) rfl ?_
    exact h
  · replace h := h.2 hc
    refine x_aload_n dX11_layWorths_22 rfl rfl ?_
    refine x_iload_n dX11_layWorths_23 rfl rfl ?_
    refine x_iload_n dX11_layWorths_24 rfl rfl ?_
    obtain ⟨Qc2, hc5, h⟩ := h
    refine x_callV (as := [v_I x1, v_I x2]) (st := []) (Qc := Qc2) dX11_layWorths_25 mt_X11_bestOf ml_X11_165 ⟨by decide, by decide⟩ sh_79 rfl (fun _ _ => Nat.le_of_ble_eq_true rfl) hc5 (fun r3 M4 hr6 hM7 hq8 => ?_)
    replace h := h r3 M4 hr6 hM7 hq8
    change X_ kk_X11_layWorths 28 [v_P 79, v_I x1, v_I x2, v_U] [v_I r3] M4 Q
    refine y_istore_n (ls' := [v_P 79, v_I x1, v_I x2, v_I r3]) dX11_layWorths_28 rfl (by decide) rfl ?_
    refine x_aload_n dX11_layWorths_29 rfl rfl ?_
    refine y_getP dX11_layWorths_30 sh_79 cf_X11 fl_X11_46 (by decide) (by decide) gg_79_16 ?_
    refine x_sipush dX11_layWorths_33 (by decide) (by decide) ?_
    refine x_iload_n dX11_layWorths_36 rfl rfl ?_
    obtain ⟨s9, h⟩ := h
    refine x_imul dX11_layWorths_37 s9 ?_
    refine x_iload_n dX11_layWorths_38 rfl rfl ?_
    obtain ⟨s10, h⟩ := h
    refine x_iadd dX11_layWorths_39 s10 ?_
    refine x_iload_n dX11_layWorths_40 rfl rfl ?_
    refine x_if_ge (tgt := 48) dX11_layWorths_41 (by decide) (fun hc => ?_) (fun hc => ?_)
    · replace h := h.1 hc
      refine x_aload_n dX11_layWorths_48 rfl rfl ?_
      refine y_getP dX11_layWorths_49 sh_79 cf_X11 fl_X11_37 (by decide) (by decide) gg_79_13 ?_
      refine x_bipush dX11_layWorths_52 (by decide) (by decide) ?_
      refine x_iload_n dX11_layWorths_54 rfl rfl ?_
      obtain ⟨s11, h⟩ := h
      refine x_imul dX11_layWorths_55 s11 ?_
      refine x_iload_n dX11_layWorths_56 rfl rfl ?_
      obtain ⟨s12, h⟩ := h
      refine x_iadd dX11_layWorths_57 s12 ?_
      obtain ⟨s13, h⟩ := h
      refine x_iald dX11_layWorths_58 sh_89 s13 ?_
      obtain ⟨s14, h⟩ := h
      refine x_iast dX11_layWorths_59 sh_92 s14 ?_
      obtain ⟨s15, h⟩ := h
      refine y_iinc (ls' := [v_P 79, v_I x1, v_I (x2 + 1), v_I r3]) dX11_layWorths_60 rfl s15 (by decide) rfl ?_
      refine x_goto (tgt := 12) dX11_layWorths_63 (by decide) ?_
      refine y_forget 3 (ls' := [v_P 79, v_I x1, v_I (x2 + 1), v_U]) rfl ?_
      exact h
    · replace h := h.2 hc
      refine x_iconst dX11_layWorths_44 (by decide) ?_
      refine x_goto (tgt := 59) dX11_layWorths_45 (by decide) ?_
      obtain ⟨s16, h⟩ := h
      refine x_iast dX11_layWorths_59 sh_92 s16 ?_
      obtain ⟨s17, h⟩ := h
      refine y_iinc (ls' := [v_P 79, v_I x1, v_I (x2 + 1), v_I r3]) dX11_layWorths_60 rfl s17 (by decide) rfl ?_
      refine x_goto (tgt := 12) dX11_layWorths_63 (by decide) ?_
      refine y_forget 3 (ls' := [v_P 79, v_I x1, v_I (x2 + 1), v_U]) rfl ?_
      exact h
theorem wp_X11_top_0 {x1 : Int} {M : mM} {Q : Int → mM → Prop} (h : (1 ≤ x1 ∧ x1 ≤ 200 → Q (M 79 9) (m_up M 79 9 x1)) ∧ (¬ (1 ≤ x1 ∧ x1 ≤ 200) → Q (-2) M)) : X_ kk_X11_top 0 [v_P 79, v_I x1, v_U] [] M Q := by
  refine x_iload_n dX11_top_0 rfl rfl ?_
  refine x_i2l dX11_top_1 ?_
  refine x_lconst (z := 1) dX11_top_2 (by decide) (by decide) ?_
  refine x_ldc2 (z := 200) dX11_top_3 cl_X11_121 (by decide) (by decide) ?_
  refine x_in (st := []) dX11_top_6 ml_X11_110 ⟨by decide, by decide⟩ (fun _ _ => Nat.le_of_ble_eq_true rfl) (fun hc => ?_) (fun hc => ?_)
  · change X_ kk_X11_top 9 [v_P 79, v_I x1, v_U] [v_I 1] M Q
    replace h := h.1 hc
    refine x_if_ne (tgt := 15) dX11_top_9 (by decide) (fun _ => ?_) (fun hc => absurd hc (by decide))
    refine x_aload_n dX11_top_15 rfl rfl ?_
    refine x_getI dX11_top_16 sh_79 cf_X11 fl_X11_103 (by decide) (by decide) ?_
    refine y_istore_n (ls' := [v_P 79, v_I x1, v_I (M 79 9)]) dX11_top_19 rfl (by decide) rfl ?_
    refine x_aload_n dX11_top_20 rfl rfl ?_
    refine x_iload_n dX11_top_21 rfl rfl ?_
    refine x_putI dX11_top_22 sh_79 cf_X11 fl_X11_103 (by decide) rfl (by decide) (Or.inl rfl) ?_
    refine x_iload_n dX11_top_25 rfl rfl ?_
    refine x_iret dX11_top_26 rfl (Or.inl rfl) (fun _ _ => h)
  · change X_ kk_X11_top 9 [v_P 79, v_I x1, v_U] [v_I 0] M Q
    replace h := h.2 hc
    refine x_if_ne (tgt := 15) dX11_top_9 (by decide) (fun hc => absurd hc (by decide)) (fun _ => ?_)
    refine x_bipush dX11_top_12 (by decide) (by decide) ?_
    refine x_iret dX11_top_14 rfl (Or.inl rfl) (fun _ _ => h)
theorem wp_X11_swap_0 {x1 x2 : Int} {M : mM} {Q : Int → mM → Prop} (h : (0 ≤ M 79 4) ∧ (0 ≤ x1 ∧ x1 < M 79 4 → (0 ≤ M 79 4) ∧ (0 ≤ x2 ∧ x2 < M 79 4 → X_ kk_X11_swap 20 [v_P 79, v_I x1, v_I x2, v_I 0, v_U] [] M Q) ∧ (¬ (0 ≤ x2 ∧ x2 < M 79 4) → Q (-1) M)) ∧ (¬ (0 ≤ x1 ∧ x1 < M 79 4) → Q (-1) M)) : X_ kk_X11_swap 0 [v_P 79, v_I x1, v_I x2, v_U, v_U] [] M Q := by
  refine x_aload_n dX11_swap_0 rfl rfl ?_
  refine x_iload_n dX11_swap_1 rfl rfl ?_
  obtain ⟨s2, h⟩ := h
  refine x_isLot (st := []) dX11_swap_2 ml_X11_169 ⟨by decide, by decide⟩ (fun _ _ => Nat.le_of_ble_eq_true rfl) s2 (fun hc => ?_) (fun hc => ?_)
  · change X_ kk_X11_swap 5 [v_P 79, v_I x1, v_I x2, v_U, v_U] [v_I 1] M Q
    replace h := h.1 hc
    refine x_if_eq (tgt := 16) dX11_swap_5 (by decide) (fun hc => absurd hc (by decide)) (fun _ => ?_)
    refine x_aload_n dX11_swap_8 rfl rfl ?_
    refine x_iload_n dX11_swap_9 rfl rfl ?_
    obtain ⟨s1, h⟩ := h
    refine x_isLot (st := []) dX11_swap_10 ml_X11_169 ⟨by decide, by decide⟩ (fun _ _ => Nat.le_of_ble_eq_true rfl) s1 (fun hc => ?_) (fun hc => ?_)
    · change X_ kk_X11_swap 13 [v_P 79, v_I x1, v_I x2, v_U, v_U] [v_I 1] M Q
      replace h := h.1 hc
      refine x_if_ne (tgt := 18) dX11_swap_13 (by decide) (fun _ => ?_) (fun hc => absurd hc (by decide))
      refine x_iconst dX11_swap_18 (by decide) ?_
      refine y_istore_n (ls' := [v_P 79, v_I x1, v_I x2, v_I 0, v_U]) dX11_swap_19 rfl (by decide) rfl ?_
      exact h
    · change X_ kk_X11_swap 13 [v_P 79, v_I x1, v_I x2, v_U, v_U] [v_I 0] M Q
      replace h := h.2 hc
      refine x_if_ne (tgt := 18) dX11_swap_13 (by decide) (fun hc => absurd hc (by decide)) (fun _ => ?_)
      refine x_iconst dX11_swap_16 (by decide) ?_
      refine x_iret dX11_swap_17 rfl (Or.inl rfl) (fun _ _ => h)
  · change X_ kk_X11_swap 5 [v_P 79, v_I x1, v_I x2, v_U, v_U] [v_I 0] M Q
    replace h := h.2 hc
    refine x_if_eq (tgt := 16) dX11_swap_5 (by decide) (fun _ => ?_) (fun hc => absurd hc (by decide))
    refine x_iconst dX11_swap_16 (by decide) ?_
    refine x_iret dX11_swap_17 rfl (Or.inl rfl) (fun _ _ => h)
theorem wp_X11_swap_20 {x1 x2 x3 : Int} {M : mM} {Q : Int → mM → Prop} (h : ((M 79 4) ≤ x3 → Q 1 M) ∧ (¬ (M 79 4) ≤ x3 → (0 ≤ x3 ∧ x3 < 8) ∧ (¬ (M 83 x3.toNat) = x1 → (¬ (M 83 x3.toNat) = x2 → (0 ≤ x3 ∧ x3 < 8) ∧ (m_ir (x3 + 1)) ∧ X_ kk_X11_swap 20 [v_P 79, v_I x1, v_I x2, v_I (x3 + 1), v_U] [] (m_up M 83 x3.toNat (M 83 x3.toNat)) Q) ∧ ((M 83 x3.toNat) = x2 → (0 ≤ x3 ∧ x3 < 8) ∧ (m_ir (x3 + 1)) ∧ X_ kk_X11_swap 20 [v_P 79, v_I x1, v_I x2, v_I (x3 + 1), v_U] [] (m_up M 83 x3.toNat x1) Q)) ∧ ((M 83 x3.toNat) = x1 → (0 ≤ x3 ∧ x3 < 8) ∧ (m_ir (x3 + 1)) ∧ X_ kk_X11_swap 20 [v_P 79, v_I x1, v_I x2, v_I (x3 + 1), v_U] [] (m_up M 83 x3.toNat x2) Q))) : X_ kk_X11_swap 20 [v_P 79, v_I x1, v_I x2, v_I x3, v_U] [] M Q := by
  refine x_iload_n dX11_swap_20 rfl rfl ?_
  refine x_aload_n dX11_swap_21 rfl rfl ?_
  refine x_getI dX11_swap_22 sh_79 cf_X11 fl_X11_107 (by decide) (by decide) ?_
  refine x_ic_ge (tgt := 70) dX11_swap_25 (by decide) (fun hc => ?_) (fun hc => ?_)
  · replace h := h.1 hc
    refine x_iconst dX11_swap_70 (by decide) ?_
    refine x_iret dX11_swap_71 rfl (Or.inl rfl) (fun _ _ => h)
  · replace h := h.2 hc
    refine x_aload_n dX11_swap_28 rfl rfl ?_
    refine y_getP dX11_swap_29 sh_79 cf_X11 fl_X11_19 (by decide) (by decide) gg_79_3 ?_
    refine x_iload_n dX11_swap_32 rfl rfl ?_
    obtain ⟨s1, h⟩ := h
    refine x_iald dX11_swap_33 sh_83 s1 ?_
    refine y_istore (ls' := [v_P 79, v_I x1, v_I x2, v_I x3, v_I (M 83 x3.toNat)]) dX11_swap_34 (by decide) rfl ?_
    refine x_aload_n dX11_swap_36 rfl rfl ?_
    refine y_getP dX11_swap_37 sh_79 cf_X11 fl_X11_19 (by decide) (by decide) gg_79_3 ?_
    refine x_iload_n dX11_swap_40 rfl rfl ?_
    refine x_iload dX11_swap_41 rfl ?_
    refine x_iload_n dX11_swap_43 rfl rfl ?_
    refine x_ic_ne (tgt := 51) dX11_swap_44 (by decide) (fun hc => ?_) (fun hc => ?_)
    · replace h := h.1 hc
      refine x_iload dX11_swap_51 rfl ?_
      refine x_iload_n dX11_swap_53 rfl rfl ?_
      refine x_ic_ne (tgt := 61) dX11_swap_54 (by decide) (fun hc => ?_) (fun hc => ?_)
      · replace h := h.1 hc
        refine x_iload dX11_swap_61 rfl ?_
        obtain ⟨s2, h⟩ := h
        refine x_iast dX11_swap_63 sh_83 s2 ?_
        obtain ⟨s3, h⟩ := h
        refine y_iinc (ls' := [v_P 79, v_I x1, v_I x2, v_I (x3 + 1), v_I (M 83 x3.toNat)]) dX11_swap_64 rfl s3 (by decide) rfl ?_
        refine x_goto (tgt := 20) dX11_swap_67 (by decide) ?_
        refine y_forget 4 (ls' := [v_P 79, v_I x1, v_I x2, v_I (x3 + 1), v_U]) rfl ?_
        exact h
      · replace h := h.2 hc
        refine x_iload_n dX11_swap_57 rfl rfl ?_
        refine x_goto (tgt := 63) dX11_swap_58 (by decide) ?_
        obtain ⟨s4, h⟩ := h
        refine x_iast dX11_swap_63 sh_83 s4 ?_
        obtain ⟨s5, h⟩ := h
        refine y_iinc (ls' := [v_P 79, v_I x1, v_I x2, v_I (x3 + 1), v_I (M 83 x3.toNat)]) dX11_swap_64 rfl s5 (by decide) rfl ?_
        refine x_goto (tgt := 20) dX11_swap_67 (by decide) ?_
        refine y_forget 4 (ls' := [v_P 79, v_I x1, v_I x2, v_I (x3 + 1), v_U]) rfl ?_
        exact h
    · replace h := h.2 hc
      refine x_iload_n dX11_swap_47 rfl rfl ?_
      refine x_goto (tgt := 63) dX11_swap_48 (by decide) ?_
      obtain ⟨s6, h⟩ := h
      refine x_iast dX11_swap_63 sh_83 s6 ?_
      obtain ⟨s7, h⟩ := h
      refine y_iinc (ls' := [v_P 79, v_I x1, v_I x2, v_I (x3 + 1), v_I (M 83 x3.toNat)]) dX11_swap_64 rfl s7 (by decide) rfl ?_
      refine x_goto (tgt := 20) dX11_swap_67 (by decide) ?_
      refine y_forget 4 (ls' := [v_P 79, v_I x1, v_I x2, v_I (x3 + 1), v_U]) rfl ?_
      exact h
theorem wp_X11_order_0 {x1 : Int} {M : mM} {Q : Int → mM → Prop} (h : (m_ir ((M 79 4) - 1)) ∧ (0 ≤ x1 ∧ x1 ≤ ((M 79 4) - 1) → (0 ≤ x1 ∧ x1 < 8) ∧ Q (M 83 x1.toNat) M) ∧ (¬ (0 ≤ x1 ∧ x1 ≤ ((M 79 4) - 1)) → Q (-6) M)) : X_ kk_X11_order 0 [v_P 79, v_I x1] [] M Q := by
  refine x_iload_n dX11_order_0 rfl rfl ?_
  refine x_i2l dX11_order_1 ?_
  refine x_lconst (z := 0) dX11_order_2 (by decide) (by decide) ?_
  refine x_aload_n dX11_order_3 rfl rfl ?_
  refine x_getI dX11_order_4 sh_79 cf_X11 fl_X11_107 (by decide) (by decide) ?_
  refine x_iconst dX11_order_7 (by decide) ?_
  obtain ⟨s1, h⟩ := h
  refine x_isub dX11_order_8 s1 ?_
  refine x_i2l dX11_order_9 ?_
  refine x_in (st := []) dX11_order_10 ml_X11_110 ⟨by decide, by decide⟩ (fun _ _ => Nat.le_of_ble_eq_true rfl) (fun hc => ?_) (fun hc => ?_)
  · change X_ kk_X11_order 13 [v_P 79, v_I x1] [v_I 1] M Q
    replace h := h.1 hc
    refine x_if_eq (tgt := 25) dX11_order_13 (by decide) (fun hc => absurd hc (by decide)) (fun _ => ?_)
    refine x_aload_n dX11_order_16 rfl rfl ?_
    refine y_getP dX11_order_17 sh_79 cf_X11 fl_X11_19 (by decide) (by decide) gg_79_3 ?_
    refine x_iload_n dX11_order_20 rfl rfl ?_
    obtain ⟨s2, h⟩ := h
    refine x_iald dX11_order_21 sh_83 s2 ?_
    refine x_goto (tgt := 27) dX11_order_22 (by decide) ?_
    refine x_iret dX11_order_27 rfl (Or.inl rfl) (fun _ _ => h)
  · change X_ kk_X11_order 13 [v_P 79, v_I x1] [v_I 0] M Q
    replace h := h.2 hc
    refine x_if_eq (tgt := 25) dX11_order_13 (by decide) (fun _ => ?_) (fun hc => absurd hc (by decide))
    refine x_bipush dX11_order_25 (by decide) (by decide) ?_
    refine x_iret dX11_order_27 rfl (Or.inl rfl) (fun _ _ => h)
theorem wp_X11_nextPlace_0 {x1 x2 : Int} {M : mM} {Q : Int → mM → Prop} (h : X_ kk_X11_nextPlace 2 [v_P 79, v_I x1, v_U, v_I x2] [] M Q) : X_ kk_X11_nextPlace 0 [v_P 79, v_I x1, v_I x2, v_U] [] M Q := by
  refine x_iload_n dX11_nextPlace_0 rfl rfl ?_
  refine y_istore_n (ls' := [v_P 79, v_I x1, v_I x2, v_I x2]) dX11_nextPlace_1 rfl (by decide) rfl ?_
  refine y_forget 2 (ls' := [v_P 79, v_I x1, v_U, v_I x2]) rfl ?_
  exact h
theorem wp_X11_nextPlace_2 {x1 x3 : Int} {M : mM} {Q : Int → mM → Prop} (h : ((M 79 4) ≤ x3 → Q x3 M) ∧ (¬ (M 79 4) ≤ x3 → (0 ≤ x3 ∧ x3 < 8) ∧ (0 ≤ (M 83 x3.toNat) ∧ (M 83 x3.toNat) < 8) ∧ ((M 81 ((M 83 x3.toNat).toNat)) = x1 → Q x3 M) ∧ (¬ (M 81 ((M 83 x3.toNat).toNat)) = x1 → (m_ir (x3 + 1)) ∧ X_ kk_X11_nextPlace 2 [v_P 79, v_I x1, v_U, v_I (x3 + 1)] [] M Q))) : X_ kk_X11_nextPlace 2 [v_P 79, v_I x1, v_U, v_I x3] [] M Q := by
  refine x_iload_n dX11_nextPlace_2 rfl rfl ?_
  refine x_aload_n dX11_nextPlace_3 rfl rfl ?_
  refine x_getI dX11_nextPlace_4 sh_79 cf_X11 fl_X11_107 (by decide) (by decide) ?_
  refine x_ic_ge (tgt := 31) dX11_nextPlace_7 (by decide) (fun hc => ?_) (fun hc => ?_)
  · replace h := h.1 hc
    refine x_iload_n dX11_nextPlace_31 rfl rfl ?_
    refine x_iret dX11_nextPlace_32 rfl (Or.inl rfl) (fun _ _ => h)
  · replace h := h.2 hc
    refine x_aload_n dX11_nextPlace_10 rfl rfl ?_
    refine y_getP dX11_nextPlace_11 sh_79 cf_X11 fl_X11_13 (by decide) (by decide) gg_79_1 ?_
    refine x_aload_n dX11_nextPlace_14 rfl rfl ?_
    refine y_getP dX11_nextPlace_15 sh_79 cf_X11 fl_X11_19 (by decide) (by decide) gg_79_3 ?_
    refine x_iload_n dX11_nextPlace_18 rfl rfl ?_
    obtain ⟨s1, h⟩ := h
    refine x_iald dX11_nextPlace_19 sh_83 s1 ?_
    obtain ⟨s2, h⟩ := h
    refine x_iald dX11_nextPlace_20 sh_81 s2 ?_
    refine x_iload_n dX11_nextPlace_21 rfl rfl ?_
    refine x_ic_eq (tgt := 31) dX11_nextPlace_22 (by decide) (fun hc => ?_) (fun hc => ?_)
    · replace h := h.1 hc
      refine x_iload_n dX11_nextPlace_31 rfl rfl ?_
      refine x_iret dX11_nextPlace_32 rfl (Or.inl rfl) (fun _ _ => h)
    · replace h := h.2 hc
      obtain ⟨s3, h⟩ := h
      refine y_iinc (ls' := [v_P 79, v_I x1, v_U, v_I (x3 + 1)]) dX11_nextPlace_25 rfl s3 (by decide) rfl ?_
      refine x_goto (tgt := 2) dX11_nextPlace_28 (by decide) ?_
      exact h
theorem wp_X11_presser_0 {x1 x2 : Int} {M : mM} {Q : Int → mM → Prop} (h : X_ kk_X11_presser 6 [v_P 79, v_I x1, v_I x2, v_I (-6), v_I 0, v_U, v_U, v_U] [] M Q) : X_ kk_X11_presser 0 [v_P 79, v_I x1, v_I x2, v_U, v_U, v_U, v_U, v_U] [] M Q := by
  refine x_bipush dX11_presser_0 (by decide) (by decide) ?_
  refine y_istore_n (ls' := [v_P 79, v_I x1, v_I x2, v_I (-6), v_U, v_U, v_U, v_U]) dX11_presser_2 rfl (by decide) rfl ?_
  refine x_iconst dX11_presser_3 (by decide) ?_
  refine y_istore (ls' := [v_P 79, v_I x1, v_I x2, v_I (-6), v_I 0, v_U, v_U, v_U]) dX11_presser_4 (by decide) rfl ?_
  exact h
theorem wp_X11_presser_6 {x1 x2 x3 x4 : Int} {M : mM} {Q : Int → mM → Prop} (h : ((M 79 8) ≤ x4 → Q x3 M) ∧ (¬ (M 79 8) ≤ x4 → (m_ir (256 * x4)) ∧ (0 ≤ x4 ∧ x4 < 6) ∧ (m_ir ((256 * x4) + (m_or (M 96 x4.toNat) (m_shl 1 x1)))) ∧ (0 ≤ ((256 * x4) + (m_or (M 96 x4.toNat) (m_shl 1 x1))) ∧ ((256 * x4) + (m_or (M 96 x4.toNat) (m_shl 1 x1))) < 1536) ∧ (m_ir (256 * x4)) ∧ (0 ≤ x4 ∧ x4 < 6) ∧ (m_ir ((256 * x4) + (M 96 x4.toNat))) ∧ (0 ≤ ((256 * x4) + (M 96 x4.toNat)) ∧ ((256 * x4) + (M 96 x4.toNat)) < 1536) ∧ (m_ir ((M 92 (((256 * x4) + (m_or (M 96 x4.toNat) (m_shl 1 x1))).toNat)) - (M 92 (((256 * x4) + (M 96 x4.toNat)).toNat)))) ∧ (0 ≤ x4 ∧ x4 < 6) ∧ (m_ir (100 - (M 85 x4.toNat))) ∧ (m_ir (((M 92 (((256 * x4) + (m_or (M 96 x4.toNat) (m_shl 1 x1))).toNat)) - (M 92 (((256 * x4) + (M 96 x4.toNat)).toNat))) * (100 - (M 85 x4.toNat)))) ∧ (0 ≤ x1 ∧ x1 < 8) ∧ (x2 < (M 82 x1.toNat) → (m_ir (x4 + 1)) ∧ X_ kk_X11_presser 6 [v_P 79, v_I x1, v_I x2, v_I x3, v_I (x4 + 1), v_U, v_U, v_U] [] M Q) ∧ (¬ x2 < (M 82 x1.toNat) → ((Int.tdiv (((M 92 (((256 * x4) + (m_or (M 96 x4.toNat) (m_shl 1 x1))).toNat)) - (M 92 (((256 * x4) + (M 96 x4.toNat)).toNat))) * (100 - (M 85 x4.toNat))) 100) < 1 → (m_ir (x4 + 1)) ∧ X_ kk_X11_presser 6 [v_P 79, v_I x1, v_I x2, v_I x3, v_I (x4 + 1), v_U, v_U, v_U] [] M Q) ∧ (¬ (Int.tdiv (((M 92 (((256 * x4) + (m_or (M 96 x4.toNat) (m_shl 1 x1))).toNat)) - (M 92 (((256 * x4) + (M 96 x4.toNat)).toNat))) * (100 - (M 85 x4.toNat))) 100) < 1 → ((Int.tdiv (((M 92 (((256 * x4) + (m_or (M 96 x4.toNat) (m_shl 1 x1))).toNat)) - (M 92 (((256 * x4) + (M 96 x4.toNat)).toNat))) * (100 - (M 85 x4.toNat))) 100) < x2 → (m_ir (x4 + 1)) ∧ X_ kk_X11_presser 6 [v_P 79, v_I x1, v_I x2, v_I x3, v_I (x4 + 1), v_U, v_U, v_U] [] M Q) ∧ (¬ (Int.tdiv (((M 92 (((256 * x4) + (m_or (M 96 x4.toNat) (m_shl 1 x1))).toNat)) - (M 92 (((256 * x4) + (M 96 x4.toNat)).toNat))) * (100 - (M 85 x4.toNat))) 100) < x2 → (0 ≤ x4 ∧ x4 < 6) ∧ ((M 97 x4.toNat) < x2 → (m_ir (x4 + 1)) ∧ X_ kk_X11_presser 6 [v_P 79, v_I x1, v_I x2, v_I x3, v_I (x4 + 1), v_U, v_U, v_U] [] M Q) ∧ (¬ (M 97 x4.toNat) < x2 → (x3 < 0 → (m_ir (x4 + 1)) ∧ X_ kk_X11_presser 6 [v_P 79, v_I x1, v_I x2, v_I x4, v_I (x4 + 1), v_U, v_U, v_U] [] M Q) ∧ (¬ x3 < 0 → (0 ≤ x4 ∧ x4 < 6) ∧ (0 ≤ x3 ∧ x3 < 6) ∧ ((M 86 x3.toNat) ≤ (M 86 x4.toNat) → (m_ir (x4 + 1)) ∧ X_ kk_X11_presser 6 [v_P 79, v_I x1, v_I x2, v_I x3, v_I (x4 + 1), v_U, v_U, v_U] [] M Q) ∧ (¬ (M 86 x3.toNat) ≤ (M 86 x4.toNat) → (m_ir (x4 + 1)) ∧ X_ kk_X11_presser 6 [v_P 79, v_I x1, v_I x2, v_I x4, v_I (x4 + 1), v_U, v_U, v_U] [] M Q)))))))) : X_ kk_X11_presser 6 [v_P 79, v_I x1, v_I x2, v_I x3, v_I x4, v_U, v_U, v_U] [] M Q := by
  refine x_iload dX11_presser_6 rfl ?_
  refine x_aload_n dX11_presser_8 rfl rfl ?_
  refine x_getI dX11_presser_9 sh_79 cf_X11 fl_X11_114 (by decide) (by decide) ?_
  refine x_ic_ge (tgt := 156) dX11_presser_12 (by decide) (fun hc => ?_) (fun hc => ?_)
  · replace h := h.1 hc
    refine x_iload_n dX11_presser_156 rfl rfl ?_
    refine x_iret dX11_presser_157 rfl (Or.inl rfl) (fun _ _ => h)
  · replace h := h.2 hc
    refine x_aload_n dX11_presser_15 rfl rfl ?_
    refine y_getP dX11_presser_16 sh_79 cf_X11 fl_X11_46 (by decide) (by decide) gg_79_16 ?_
    refine x_sipush dX11_presser_19 (by decide) (by decide) ?_
    refine x_iload dX11_presser_22 rfl ?_
    obtain ⟨s1, h⟩ := h
    refine x_imul dX11_presser_24 s1 ?_
    refine x_aload_n dX11_presser_25 rfl rfl ?_
    refine y_getP dX11_presser_26 sh_79 cf_X11 fl_X11_58 (by decide) (by decide) gg_79_20 ?_
    refine x_iload dX11_presser_29 rfl ?_
    obtain ⟨s2, h⟩ := h
    refine x_iald dX11_presser_31 sh_96 s2 ?_
    refine x_iconst dX11_presser_32 (by decide) ?_
    refine x_iload_n dX11_presser_33 rfl rfl ?_
    refine x_ishl dX11_presser_34 ?_
    refine x_ior dX11_presser_35 ?_
    obtain ⟨s3, h⟩ := h
    refine x_iadd dX11_presser_36 s3 ?_
    obtain ⟨s4, h⟩ := h
    refine x_iald dX11_presser_37 sh_92 s4 ?_
    refine x_aload_n dX11_presser_38 rfl rfl ?_
    refine y_getP dX11_presser_39 sh_79 cf_X11 fl_X11_46 (by decide) (by decide) gg_79_16 ?_
    refine x_sipush dX11_presser_42 (by decide) (by decide) ?_
    refine x_iload dX11_presser_45 rfl ?_
    obtain ⟨s5, h⟩ := h
    refine x_imul dX11_presser_47 s5 ?_
    refine x_aload_n dX11_presser_48 rfl rfl ?_
    refine y_getP dX11_presser_49 sh_79 cf_X11 fl_X11_58 (by decide) (by decide) gg_79_20 ?_
    refine x_iload dX11_presser_52 rfl ?_
    obtain ⟨s6, h⟩ := h
    refine x_iald dX11_presser_54 sh_96 s6 ?_
    obtain ⟨s7, h⟩ := h
    refine x_iadd dX11_presser_55 s7 ?_
    obtain ⟨s8, h⟩ := h
    refine x_iald dX11_presser_56 sh_92 s8 ?_
    obtain ⟨s9, h⟩ := h
    refine x_isub dX11_presser_57 s9 ?_
    refine y_istore (ls' := [v_P 79, v_I x1, v_I x2, v_I x3, v_I x4, v_I ((M 92 (((256 * x4) + (m_or (M 96 x4.toNat) (m_shl 1 x1))).toNat)) - (M 92 (((256 * x4) + (M 96 x4.toNat)).toNat))), v_U, v_U]) dX11_presser_58 (by decide) rfl ?_
    refine x_iload dX11_presser_60 rfl ?_
    refine x_bipush dX11_presser_62 (by decide) (by decide) ?_
    refine x_aload_n dX11_presser_64 rfl rfl ?_
    refine y_getP dX11_presser_65 sh_79 cf_X11 fl_X11_25 (by decide) (by decide) gg_79_6 ?_
    refine x_iload dX11_presser_68 rfl ?_
    obtain ⟨s10, h⟩ := h
    refine x_iald dX11_presser_70 sh_85 s10 ?_
    obtain ⟨s11, h⟩ := h
    refine x_isub dX11_presser_71 s11 ?_
    obtain ⟨s12, h⟩ := h
    refine x_imul dX11_presser_72 s12 ?_
    refine x_bipush dX11_presser_73 (by decide) (by decide) ?_
    refine x_idiv dX11_presser_75 (by clear h; omega) (by decide) ?_
    refine y_istore (ls' := [v_P 79, v_I x1, v_I x2, v_I x3, v_I x4, v_I ((M 92 (((256 * x4) + (m_or (M 96 x4.toNat) (m_shl 1 x1))).toNat)) - (M 92 (((256 * x4) + (M 96 x4.toNat)).toNat))), v_I (Int.tdiv (((M 92 (((256 * x4) + (m_or (M 96 x4.toNat) (m_shl 1 x1))).toNat)) - (M 92 (((256 * x4) + (M 96 x4.toNat)).toNat))) * (100 - (M 85 x4.toNat))) 100), v_U]) dX11_presser_76 (by decide) rfl ?_
    refine x_iload_n dX11_presser_78 rfl rfl ?_
    refine x_aload_n dX11_presser_79 rfl rfl ?_
    refine y_getP dX11_presser_80 sh_79 cf_X11 fl_X11_16 (by decide) (by decide) gg_79_2 ?_
    refine x_iload_n dX11_presser_83 rfl rfl ?_
    obtain ⟨s13, h⟩ := h
    refine x_iald dX11_presser_84 sh_82 s13 ?_
    refine x_ic_lt (tgt := 115) dX11_presser_85 (by decide) (fun hc => ?_) (fun hc => ?_)
    · replace h := h.1 hc
      refine x_iconst dX11_presser_115 (by decide) ?_
      refine y_istore (ls' := [v_P 79, v_I x1, v_I x2, v_I x3, v_I x4, v_I ((M 92 (((256 * x4) + (m_or (M 96 x4.toNat) (m_shl 1 x1))).toNat)) - (M 92 (((256 * x4) + (M 96 x4.toNat)).toNat))), v_I (Int.tdiv (((M 92 (((256 * x4) + (m_or (M 96 x4.toNat) (m_shl 1 x1))).toNat)) - (M 92 (((256 * x4) + (M 96 x4.toNat)).toNat))) * (100 - (M 85 x4.toNat))) 100), v_I 0]) dX11_presser_116 (by decide) rfl ?_
      refine x_iload dX11_presser_118 rfl ?_
      refine x_if_eq (tgt := 148) dX11_presser_120 (by decide) (fun _ => ?_) (fun hc => absurd hc (by decide))
      refine x_iload_n dX11_presser_148 rfl rfl ?_
      refine y_istore_n (ls' := [v_P 79, v_I x1, v_I x2, v_I x3, v_I x4, v_I ((M 92 (((256 * x4) + (m_or (M 96 x4.toNat) (m_shl 1 x1))).toNat)) - (M 92 (((256 * x4) + (M 96 x4.toNat)).toNat))), v_I (Int.tdiv (((M 92 (((256 * x4) + (m_or (M 96 x4.toNat) (m_shl 1 x1))).toNat)) - (M 92 (((256 * x4) + (M 96 x4.toNat)).toNat))) * (100 - (M 85 x4.toNat))) 100), v_I 0]) dX11_presser_149 rfl (by decide) rfl ?_
      obtain ⟨s14, h⟩ := h
      refine y_iinc (ls' := [v_P 79, v_I x1, v_I x2, v_I x3, v_I (x4 + 1), v_I ((M 92 (((256 * x4) + (m_or (M 96 x4.toNat) (m_shl 1 x1))).toNat)) - (M 92 (((256 * x4) + (M 96 x4.toNat)).toNat))), v_I (Int.tdiv (((M 92 (((256 * x4) + (m_or (M 96 x4.toNat) (m_shl 1 x1))).toNat)) - (M 92 (((256 * x4) + (M 96 x4.toNat)).toNat))) * (100 - (M 85 x4.toNat))) 100), v_I 0]) dX11_presser_150 rfl s14 (by decide) rfl ?_
      refine x_goto (tgt := 6) dX11_presser_153 (by decide) ?_
      refine y_forget 5 (ls' := [v_P 79, v_I x1, v_I x2, v_I x3, v_I (x4 + 1), v_U, v_I (Int.tdiv (((M 92 (((256 * x4) + (m_or (M 96 x4.toNat) (m_shl 1 x1))).toNat)) - (M 92 (((256 * x4) + (M 96 x4.toNat)).toNat))) * (100 - (M 85 x4.toNat))) 100), v_I 0]) rfl ?_
      refine y_forget 6 (ls' := [v_P 79, v_I x1, v_I x2, v_I x3, v_I (x4 + 1), v_U, v_U, v_I 0]) rfl ?_
      refine y_forget 7 (ls' := [v_P 79, v_I x1, v_I x2, v_I x3, v_I (x4 + 1), v_U, v_U, v_U]) rfl ?_
      exact h
    · replace h := h.2 hc
      refine x_iload dX11_presser_88 rfl ?_
      refine x_iconst dX11_presser_90 (by decide) ?_
      refine x_ic_lt (tgt := 115) dX11_presser_91 (by decide) (fun hc => ?_) (fun hc => ?_)
      · replace h := h.1 hc
        refine x_iconst dX11_presser_115 (by decide) ?_
        refine y_istore (ls' := [v_P 79, v_I x1, v_I x2, v_I x3, v_I x4, v_I ((M 92 (((256 * x4) + (m_or (M 96 x4.toNat) (m_shl 1 x1))).toNat)) - (M 92 (((256 * x4) + (M 96 x4.toNat)).toNat))), v_I (Int.tdiv (((M 92 (((256 * x4) + (m_or (M 96 x4.toNat) (m_shl 1 x1))).toNat)) - (M 92 (((256 * x4) + (M 96 x4.toNat)).toNat))) * (100 - (M 85 x4.toNat))) 100), v_I 0]) dX11_presser_116 (by decide) rfl ?_
        refine x_iload dX11_presser_118 rfl ?_
        refine x_if_eq (tgt := 148) dX11_presser_120 (by decide) (fun _ => ?_) (fun hc => absurd hc (by decide))
        refine x_iload_n dX11_presser_148 rfl rfl ?_
        refine y_istore_n (ls' := [v_P 79, v_I x1, v_I x2, v_I x3, v_I x4, v_I ((M 92 (((256 * x4) + (m_or (M 96 x4.toNat) (m_shl 1 x1))).toNat)) - (M 92 (((256 * x4) + (M 96 x4.toNat)).toNat))), v_I (Int.tdiv (((M 92 (((256 * x4) + (m_or (M 96 x4.toNat) (m_shl 1 x1))).toNat)) - (M 92 (((256 * x4) + (M 96 x4.toNat)).toNat))) * (100 - (M 85 x4.toNat))) 100), v_I 0]) dX11_presser_149 rfl (by decide) rfl ?_
        obtain ⟨s15, h⟩ := h
        refine y_iinc (ls' := [v_P 79, v_I x1, v_I x2, v_I x3, v_I (x4 + 1), v_I ((M 92 (((256 * x4) + (m_or (M 96 x4.toNat) (m_shl 1 x1))).toNat)) - (M 92 (((256 * x4) + (M 96 x4.toNat)).toNat))), v_I (Int.tdiv (((M 92 (((256 * x4) + (m_or (M 96 x4.toNat) (m_shl 1 x1))).toNat)) - (M 92 (((256 * x4) + (M 96 x4.toNat)).toNat))) * (100 - (M 85 x4.toNat))) 100), v_I 0]) dX11_presser_150 rfl s15 (by decide) rfl ?_
        refine x_goto (tgt := 6) dX11_presser_153 (by decide) ?_
        refine y_forget 5 (ls' := [v_P 79, v_I x1, v_I x2, v_I x3, v_I (x4 + 1), v_U, v_I (Int.tdiv (((M 92 (((256 * x4) + (m_or (M 96 x4.toNat) (m_shl 1 x1))).toNat)) - (M 92 (((256 * x4) + (M 96 x4.toNat)).toNat))) * (100 - (M 85 x4.toNat))) 100), v_I 0]) rfl ?_
        refine y_forget 6 (ls' := [v_P 79, v_I x1, v_I x2, v_I x3, v_I (x4 + 1), v_U, v_U, v_I 0]) rfl ?_
        refine y_forget 7 (ls' := [v_P 79, v_I x1, v_I x2, v_I x3, v_I (x4 + 1), v_U, v_U, v_U]) rfl ?_
        exact h
      · replace h := h.2 hc
        refine x_iload dX11_presser_94 rfl ?_
        refine x_iload_n dX11_presser_96 rfl rfl ?_
        refine x_ic_lt (tgt := 115) dX11_presser_97 (by decide) (fun hc => ?_) (fun hc => ?_)
        · replace h := h.1 hc
          refine x_iconst dX11_presser_115 (by decide) ?_
          refine y_istore (ls' := [v_P 79, v_I x1, v_I x2, v_I x3, v_I x4, v_I ((M 92 (((256 * x4) + (m_or (M 96 x4.toNat) (m_shl 1 x1))).toNat)) - (M 92 (((256 * x4) + (M 96 x4.toNat)).toNat))), v_I (Int.tdiv (((M 92 (((256 * x4) + (m_or (M 96 x4.toNat) (m_shl 1 x1))).toNat)) - (M 92 (((256 * x4) + (M 96 x4.toNat)).toNat))) * (100 - (M 85 x4.toNat))) 100), v_I 0]) dX11_presser_116 (by decide) rfl ?_
          refine x_iload dX11_presser_118 rfl ?_
          refine x_if_eq (tgt := 148) dX11_presser_120 (by decide) (fun _ => ?_) (fun hc => absurd hc (by decide))
          refine x_iload_n dX11_presser_148 rfl rfl ?_
          refine y_istore_n (ls' := [v_P 79, v_I x1, v_I x2, v_I x3, v_I x4, v_I ((M 92 (((256 * x4) + (m_or (M 96 x4.toNat) (m_shl 1 x1))).toNat)) - (M 92 (((256 * x4) + (M 96 x4.toNat)).toNat))), v_I (Int.tdiv (((M 92 (((256 * x4) + (m_or (M 96 x4.toNat) (m_shl 1 x1))).toNat)) - (M 92 (((256 * x4) + (M 96 x4.toNat)).toNat))) * (100 - (M 85 x4.toNat))) 100), v_I 0]) dX11_presser_149 rfl (by decide) rfl ?_
          obtain ⟨s16, h⟩ := h
          refine y_iinc (ls' := [v_P 79, v_I x1, v_I x2, v_I x3, v_I (x4 + 1), v_I ((M 92 (((256 * x4) + (m_or (M 96 x4.toNat) (m_shl 1 x1))).toNat)) - (M 92 (((256 * x4) + (M 96 x4.toNat)).toNat))), v_I (Int.tdiv (((M 92 (((256 * x4) + (m_or (M 96 x4.toNat) (m_shl 1 x1))).toNat)) - (M 92 (((256 * x4) + (M 96 x4.toNat)).toNat))) * (100 - (M 85 x4.toNat))) 100), v_I 0]) dX11_presser_150 rfl s16 (by decide) rfl ?_
          refine x_goto (tgt := 6) dX11_presser_153 (by decide) ?_
          refine y_forget 5 (ls' := [v_P 79, v_I x1, v_I x2, v_I x3, v_I (x4 + 1), v_U, v_I (Int.tdiv (((M 92 (((256 * x4) + (m_or (M 96 x4.toNat) (m_shl 1 x1))).toNat)) - (M 92 (((256 * x4) + (M 96 x4.toNat)).toNat))) * (100 - (M 85 x4.toNat))) 100), v_I 0]) rfl ?_
          refine y_forget 6 (ls' := [v_P 79, v_I x1, v_I x2, v_I x3, v_I (x4 + 1), v_U, v_U, v_I 0]) rfl ?_
          refine y_forget 7 (ls' := [v_P 79, v_I x1, v_I x2, v_I x3, v_I (x4 + 1), v_U, v_U, v_U]) rfl ?_
          exact h
        · replace h := h.2 hc
          refine x_aload_n dX11_presser_100 rfl rfl ?_
          refine y_getP dX11_presser_101 sh_79 cf_X11 fl_X11_61 (by decide) (by decide) gg_79_21 ?_
          refine x_iload dX11_presser_104 rfl ?_
          obtain ⟨s17, h⟩ := h
          refine x_iald dX11_presser_106 sh_97 s17 ?_
          refine x_iload_n dX11_presser_107 rfl rfl ?_
          refine x_ic_lt (tgt := 115) dX11_presser_108 (by decide) (fun hc => ?_) (fun hc => ?_)
          · replace h := h.1 hc
            refine x_iconst dX11_presser_115 (by decide) ?_
            refine y_istore (ls' := [v_P 79, v_I x1, v_I x2, v_I x3, v_I x4, v_I ((M 92 (((256 * x4) + (m_or (M 96 x4.toNat) (m_shl 1 x1))).toNat)) - (M 92 (((256 * x4) + (M 96 x4.toNat)).toNat))), v_I (Int.tdiv (((M 92 (((256 * x4) + (m_or (M 96 x4.toNat) (m_shl 1 x1))).toNat)) - (M 92 (((256 * x4) + (M 96 x4.toNat)).toNat))) * (100 - (M 85 x4.toNat))) 100), v_I 0]) dX11_presser_116 (by decide) rfl ?_
            refine x_iload dX11_presser_118 rfl ?_
            refine x_if_eq (tgt := 148) dX11_presser_120 (by decide) (fun _ => ?_) (fun hc => absurd hc (by decide))
            refine x_iload_n dX11_presser_148 rfl rfl ?_
            refine y_istore_n (ls' := [v_P 79, v_I x1, v_I x2, v_I x3, v_I x4, v_I ((M 92 (((256 * x4) + (m_or (M 96 x4.toNat) (m_shl 1 x1))).toNat)) - (M 92 (((256 * x4) + (M 96 x4.toNat)).toNat))), v_I (Int.tdiv (((M 92 (((256 * x4) + (m_or (M 96 x4.toNat) (m_shl 1 x1))).toNat)) - (M 92 (((256 * x4) + (M 96 x4.toNat)).toNat))) * (100 - (M 85 x4.toNat))) 100), v_I 0]) dX11_presser_149 rfl (by decide) rfl ?_
            obtain ⟨s18, h⟩ := h
            refine y_iinc (ls' := [v_P 79, v_I x1, v_I x2, v_I x3, v_I (x4 + 1), v_I ((M 92 (((256 * x4) + (m_or (M 96 x4.toNat) (m_shl 1 x1))).toNat)) - (M 92 (((256 * x4) + (M 96 x4.toNat)).toNat))), v_I (Int.tdiv (((M 92 (((256 * x4) + (m_or (M 96 x4.toNat) (m_shl 1 x1))).toNat)) - (M 92 (((256 * x4) + (M 96 x4.toNat)).toNat))) * (100 - (M 85 x4.toNat))) 100), v_I 0]) dX11_presser_150 rfl s18 (by decide) rfl ?_
            refine x_goto (tgt := 6) dX11_presser_153 (by decide) ?_
            refine y_forget 5 (ls' := [v_P 79, v_I x1, v_I x2, v_I x3, v_I (x4 + 1), v_U, v_I (Int.tdiv (((M 92 (((256 * x4) + (m_or (M 96 x4.toNat) (m_shl 1 x1))).toNat)) - (M 92 (((256 * x4) + (M 96 x4.toNat)).toNat))) * (100 - (M 85 x4.toNat))) 100), v_I 0]) rfl ?_
            refine y_forget 6 (ls' := [v_P 79, v_I x1, v_I x2, v_I x3, v_I (x4 + 1), v_U, v_U, v_I 0]) rfl ?_
            refine y_forget 7 (ls' := [v_P 79, v_I x1, v_I x2, v_I x3, v_I (x4 + 1), v_U, v_U, v_U]) rfl ?_
            exact h
          · replace h := h.2 hc
            refine x_iconst dX11_presser_111 (by decide) ?_
            refine x_goto (tgt := 116) dX11_presser_112 (by decide) ?_
            refine y_istore (ls' := [v_P 79, v_I x1, v_I x2, v_I x3, v_I x4, v_I ((M 92 (((256 * x4) + (m_or (M 96 x4.toNat) (m_shl 1 x1))).toNat)) - (M 92 (((256 * x4) + (M 96 x4.toNat)).toNat))), v_I (Int.tdiv (((M 92 (((256 * x4) + (m_or (M 96 x4.toNat) (m_shl 1 x1))).toNat)) - (M 92 (((256 * x4) + (M 96 x4.toNat)).toNat))) * (100 - (M 85 x4.toNat))) 100), v_I 1]) dX11_presser_116 (by decide) rfl ?_
            refine x_iload dX11_presser_118 rfl ?_
            refine x_if_eq (tgt := 148) dX11_presser_120 (by decide) (fun hc => absurd hc (by decide)) (fun _ => ?_)
            refine x_iload_n dX11_presser_123 rfl rfl ?_
            refine x_if_lt (tgt := 143) dX11_presser_124 (by decide) (fun hc => ?_) (fun hc => ?_)
            · replace h := h.1 hc
              refine x_iload dX11_presser_143 rfl ?_
              refine x_goto (tgt := 149) dX11_presser_145 (by decide) ?_
              refine y_istore_n (ls' := [v_P 79, v_I x1, v_I x2, v_I x4, v_I x4, v_I ((M 92 (((256 * x4) + (m_or (M 96 x4.toNat) (m_shl 1 x1))).toNat)) - (M 92 (((256 * x4) + (M 96 x4.toNat)).toNat))), v_I (Int.tdiv (((M 92 (((256 * x4) + (m_or (M 96 x4.toNat) (m_shl 1 x1))).toNat)) - (M 92 (((256 * x4) + (M 96 x4.toNat)).toNat))) * (100 - (M 85 x4.toNat))) 100), v_I 1]) dX11_presser_149 rfl (by decide) rfl ?_
              obtain ⟨s19, h⟩ := h
              refine y_iinc (ls' := [v_P 79, v_I x1, v_I x2, v_I x4, v_I (x4 + 1), v_I ((M 92 (((256 * x4) + (m_or (M 96 x4.toNat) (m_shl 1 x1))).toNat)) - (M 92 (((256 * x4) + (M 96 x4.toNat)).toNat))), v_I (Int.tdiv (((M 92 (((256 * x4) + (m_or (M 96 x4.toNat) (m_shl 1 x1))).toNat)) - (M 92 (((256 * x4) + (M 96 x4.toNat)).toNat))) * (100 - (M 85 x4.toNat))) 100), v_I 1]) dX11_presser_150 rfl s19 (by decide) rfl ?_
              refine x_goto (tgt := 6) dX11_presser_153 (by decide) ?_
              refine y_forget 5 (ls' := [v_P 79, v_I x1, v_I x2, v_I x4, v_I (x4 + 1), v_U, v_I (Int.tdiv (((M 92 (((256 * x4) + (m_or (M 96 x4.toNat) (m_shl 1 x1))).toNat)) - (M 92 (((256 * x4) + (M 96 x4.toNat)).toNat))) * (100 - (M 85 x4.toNat))) 100), v_I 1]) rfl ?_
              refine y_forget 6 (ls' := [v_P 79, v_I x1, v_I x2, v_I x4, v_I (x4 + 1), v_U, v_U, v_I 1]) rfl ?_
              refine y_forget 7 (ls' := [v_P 79, v_I x1, v_I x2, v_I x4, v_I (x4 + 1), v_U, v_U, v_U]) rfl ?_
              exact h
            · replace h := h.2 hc
              refine x_aload_n dX11_presser_127 rfl rfl ?_
              refine y_getP dX11_presser_128 sh_79 cf_X11 fl_X11_28 (by decide) (by decide) gg_79_7 ?_
              refine x_iload dX11_presser_131 rfl ?_
              obtain ⟨s20, h⟩ := h
              refine x_iald dX11_presser_133 sh_86 s20 ?_
              refine x_aload_n dX11_presser_134 rfl rfl ?_
              refine y_getP dX11_presser_135 sh_79 cf_X11 fl_X11_28 (by decide) (by decide) gg_79_7 ?_
              refine x_iload_n dX11_presser_138 rfl rfl ?_
              obtain ⟨s21, h⟩ := h
              refine x_iald dX11_presser_139 sh_86 s21 ?_
              refine x_ic_ge (tgt := 148) dX11_presser_140 (by decide) (fun hc => ?_) (fun hc => ?_)
              · replace h := h.1 hc
                refine x_iload_n dX11_presser_148 rfl rfl ?_
                refine y_istore_n (ls' := [v_P 79, v_I x1, v_I x2, v_I x3, v_I x4, v_I ((M 92 (((256 * x4) + (m_or (M 96 x4.toNat) (m_shl 1 x1))).toNat)) - (M 92 (((256 * x4) + (M 96 x4.toNat)).toNat))), v_I (Int.tdiv (((M 92 (((256 * x4) + (m_or (M 96 x4.toNat) (m_shl 1 x1))).toNat)) - (M 92 (((256 * x4) + (M 96 x4.toNat)).toNat))) * (100 - (M 85 x4.toNat))) 100), v_I 1]) dX11_presser_149 rfl (by decide) rfl ?_
                obtain ⟨s22, h⟩ := h
                refine y_iinc (ls' := [v_P 79, v_I x1, v_I x2, v_I x3, v_I (x4 + 1), v_I ((M 92 (((256 * x4) + (m_or (M 96 x4.toNat) (m_shl 1 x1))).toNat)) - (M 92 (((256 * x4) + (M 96 x4.toNat)).toNat))), v_I (Int.tdiv (((M 92 (((256 * x4) + (m_or (M 96 x4.toNat) (m_shl 1 x1))).toNat)) - (M 92 (((256 * x4) + (M 96 x4.toNat)).toNat))) * (100 - (M 85 x4.toNat))) 100), v_I 1]) dX11_presser_150 rfl s22 (by decide) rfl ?_
                refine x_goto (tgt := 6) dX11_presser_153 (by decide) ?_
                refine y_forget 5 (ls' := [v_P 79, v_I x1, v_I x2, v_I x3, v_I (x4 + 1), v_U, v_I (Int.tdiv (((M 92 (((256 * x4) + (m_or (M 96 x4.toNat) (m_shl 1 x1))).toNat)) - (M 92 (((256 * x4) + (M 96 x4.toNat)).toNat))) * (100 - (M 85 x4.toNat))) 100), v_I 1]) rfl ?_
                refine y_forget 6 (ls' := [v_P 79, v_I x1, v_I x2, v_I x3, v_I (x4 + 1), v_U, v_U, v_I 1]) rfl ?_
                refine y_forget 7 (ls' := [v_P 79, v_I x1, v_I x2, v_I x3, v_I (x4 + 1), v_U, v_U, v_U]) rfl ?_
                exact h
              · replace h := h.2 hc
                refine x_iload dX11_presser_143 rfl ?_
                refine x_goto (tgt := 149) dX11_presser_145 (by decide) ?_
                refine y_istore_n (ls' := [v_P 79, v_I x1, v_I x2, v_I x4, v_I x4, v_I ((M 92 (((256 * x4) + (m_or (M 96 x4.toNat) (m_shl 1 x1))).toNat)) - (M 92 (((256 * x4) + (M 96 x4.toNat)).toNat))), v_I (Int.tdiv (((M 92 (((256 * x4) + (m_or (M 96 x4.toNat) (m_shl 1 x1))).toNat)) - (M 92 (((256 * x4) + (M 96 x4.toNat)).toNat))) * (100 - (M 85 x4.toNat))) 100), v_I 1]) dX11_presser_149 rfl (by decide) rfl ?_
                obtain ⟨s23, h⟩ := h
                refine y_iinc (ls' := [v_P 79, v_I x1, v_I x2, v_I x4, v_I (x4 + 1), v_I ((M 92 (((256 * x4) + (m_or (M 96 x4.toNat) (m_shl 1 x1))).toNat)) - (M 92 (((256 * x4) + (M 96 x4.toNat)).toNat))), v_I (Int.tdiv (((M 92 (((256 * x4) + (m_or (M 96 x4.toNat) (m_shl 1 x1))).toNat)) - (M 92 (((256 * x4) + (M 96 x4.toNat)).toNat))) * (100 - (M 85 x4.toNat))) 100), v_I 1]) dX11_presser_150 rfl s23 (by decide) rfl ?_
                refine x_goto (tgt := 6) dX11_presser_153 (by decide) ?_
                refine y_forget 5 (ls' := [v_P 79, v_I x1, v_I x2, v_I x4, v_I (x4 + 1), v_U, v_I (Int.tdiv (((M 92 (((256 * x4) + (m_or (M 96 x4.toNat) (m_shl 1 x1))).toNat)) - (M 92 (((256 * x4) + (M 96 x4.toNat)).toNat))) * (100 - (M 85 x4.toNat))) 100), v_I 1]) rfl ?_
                refine y_forget 6 (ls' := [v_P 79, v_I x1, v_I x2, v_I x4, v_I (x4 + 1), v_U, v_U, v_I 1]) rfl ?_
                refine y_forget 7 (ls' := [v_P 79, v_I x1, v_I x2, v_I x4, v_I (x4 + 1), v_U, v_U, v_U]) rfl ?_
                exact h
theorem wp_X11_runDay_0 {x1 : Int} {M : mM} {Q : Int → mM → Prop} (h : X_ kk_X11_runDay 2 [v_P 79, v_I x1, v_I 0, v_U, v_U, v_U, v_U, v_U] [] M Q) : X_ kk_X11_runDay 0 [v_P 79, v_I x1, v_U, v_U, v_U, v_U, v_U, v_U] [] M Q := by
  refine x_iconst dX11_runDay_0 (by decide) ?_
  refine y_istore_n (ls' := [v_P 79, v_I x1, v_I 0, v_U, v_U, v_U, v_U, v_U]) dX11_runDay_1 rfl (by decide) rfl ?_
  exact h
theorem wp_X11_runDay_2 {x1 x2 : Int} {M : mM} {Q : Int → mM → Prop} (h : ((M 79 8) ≤ x2 → X_ kk_X11_runDay 37 [v_P 79, v_I x1, v_I 0, v_U, v_U, v_U, v_U, v_U] [] M Q) ∧ (¬ (M 79 8) ≤ x2 → (0 ≤ x2 ∧ x2 < 6) ∧ (0 ≤ x2 ∧ x2 < 6) ∧ (0 ≤ x2 ∧ x2 < 6) ∧ (m_ir (x2 + 1)) ∧ X_ kk_X11_runDay 2 [v_P 79, v_I x1, v_I (x2 + 1), v_U, v_U, v_U, v_U, v_U] [] (m_up (m_up M 96 x2.toNat 0) 97 x2.toNat (M 84 x2.toNat)) Q)) : X_ kk_X11_runDay 2 [v_P 79, v_I x1, v_I x2, v_U, v_U, v_U, v_U, v_U] [] M Q := by
  refine x_iload_n dX11_runDay_2 rfl rfl ?_
  refine x_aload_n dX11_runDay_3 rfl rfl ?_
  refine x_getI dX11_runDay_4 sh_79 cf_X11 fl_X11_114 (by decide) (by decide) ?_
  refine x_ic_ge (tgt := 35) dX11_runDay_7 (by decide) (fun hc => ?_) (fun hc => ?_)
  · replace h := h.1 hc
    refine x_iconst dX11_runDay_35 (by decide) ?_
    refine y_istore_n (ls' := [v_P 79, v_I x1, v_I 0, v_U, v_U, v_U, v_U, v_U]) dX11_runDay_36 rfl (by decide) rfl ?_
    exact h
  · replace h := h.2 hc
    refine x_aload_n dX11_runDay_10 rfl rfl ?_
    refine y_getP dX11_runDay_11 sh_79 cf_X11 fl_X11_58 (by decide) (by decide) gg_79_20 ?_
    refine x_iload_n dX11_runDay_14 rfl rfl ?_
    refine x_iconst dX11_runDay_15 (by decide) ?_
    obtain ⟨s1, h⟩ := h
    refine x_iast dX11_runDay_16 sh_96 s1 ?_
    refine x_aload_n dX11_runDay_17 rfl rfl ?_
    refine y_getP dX11_runDay_18 sh_79 cf_X11 fl_X11_61 (by decide) (by decide) gg_79_21 ?_
    refine x_iload_n dX11_runDay_21 rfl rfl ?_
    refine x_aload_n dX11_runDay_22 rfl rfl ?_
    refine y_getP dX11_runDay_23 sh_79 cf_X11 fl_X11_22 (by decide) (by decide) gg_79_5 ?_
    refine x_iload_n dX11_runDay_26 rfl rfl ?_
    obtain ⟨s2, h⟩ := h
    refine y_iald (v := (M 84 x2.toNat)) dX11_runDay_27 sh_84 s2 (m_up_ne (Or.inl (by decide))) ?_
    obtain ⟨s3, h⟩ := h
    refine x_iast dX11_runDay_28 sh_97 s3 ?_
    obtain ⟨s4, h⟩ := h
    refine y_iinc (ls' := [v_P 79, v_I x1, v_I (x2 + 1), v_U, v_U, v_U, v_U, v_U]) dX11_runDay_29 rfl s4 (by decide) rfl ?_
    refine x_goto (tgt := 2) dX11_runDay_32 (by decide) ?_
    exact h
theorem wp_X11_runDay_37 {x1 x2 : Int} {M : mM} {Q : Int → mM → Prop} (h : (3 ≤ x2 → X_ kk_X11_runDay 74 [v_P 79, v_I x1, v_I (M 79 4), v_I 0, v_U, v_U, v_U, v_U] [] M Q) ∧ (¬ 3 ≤ x2 → ∃ Qc1 : Int → mM → Prop, C_ kk_X11_nextPlace [v_P 79, v_I x2, v_I 0] M Qc1 ∧ ∀ (r2 : Int) (M3 : mM), m_ir r2 → m_okM M3 → Qc1 r2 M3 → (0 ≤ x2 ∧ x2 < 3) ∧ (0 ≤ x2 ∧ x2 < 3) ∧ (m_ir (x2 + 1)) ∧ X_ kk_X11_runDay 37 [v_P 79, v_I x1, v_I (x2 + 1), v_U, v_U, v_U, v_U, v_U] [] (m_up (m_up M3 98 x2.toNat r2) 99 x2.toNat 0) Q)) : X_ kk_X11_runDay 37 [v_P 79, v_I x1, v_I x2, v_U, v_U, v_U, v_U, v_U] [] M Q := by
  refine x_iload_n dX11_runDay_37 rfl rfl ?_
  refine x_iconst dX11_runDay_38 (by decide) ?_
  refine x_ic_ge (tgt := 67) dX11_runDay_39 (by decide) (fun hc => ?_) (fun hc => ?_)
  · replace h := h.1 hc
    refine x_aload_n dX11_runDay_67 rfl rfl ?_
    refine x_getI dX11_runDay_68 sh_79 cf_X11 fl_X11_107 (by decide) (by decide) ?_
    refine y_istore_n (ls' := [v_P 79, v_I x1, v_I (M 79 4), v_U, v_U, v_U, v_U, v_U]) dX11_runDay_71 rfl (by decide) rfl ?_
    refine x_iconst dX11_runDay_72 (by decide) ?_
    refine y_istore_n (ls' := [v_P 79, v_I x1, v_I (M 79 4), v_I 0, v_U, v_U, v_U, v_U]) dX11_runDay_73 rfl (by decide) rfl ?_
    exact h
  · replace h := h.2 hc
    refine x_aload_n dX11_runDay_42 rfl rfl ?_
    refine y_getP dX11_runDay_43 sh_79 cf_X11 fl_X11_64 (by decide) (by decide) gg_79_22 ?_
    refine x_iload_n dX11_runDay_46 rfl rfl ?_
    refine x_aload_n dX11_runDay_47 rfl rfl ?_
    refine x_iload_n dX11_runDay_48 rfl rfl ?_
    refine x_iconst dX11_runDay_49 (by decide) ?_
    obtain ⟨Qc1, hc4, h⟩ := h
    refine x_callV (as := [v_I x2, v_I 0]) (st := [v_I x2, v_P 98]) (Qc := Qc1) dX11_runDay_50 mt_X11_nextPlace ml_X11_172 ⟨by decide, by decide⟩ sh_79 rfl (fun _ _ => Nat.le_of_ble_eq_true rfl) hc4 (fun r2 M3 hr5 hM6 hq7 => ?_)
    replace h := h r2 M3 hr5 hM6 hq7
    change X_ kk_X11_runDay 53 [v_P 79, v_I x1, v_I x2, v_U, v_U, v_U, v_U, v_U] [v_I r2, v_I x2, v_P 98] M3 Q
    obtain ⟨s8, h⟩ := h
    refine x_iast dX11_runDay_53 sh_98 s8 ?_
    refine x_aload_n dX11_runDay_54 rfl rfl ?_
    refine y_getP dX11_runDay_55 sh_79 cf_X11 fl_X11_67 (by decide) (by decide) gg_79_23 ?_
    refine x_iload_n dX11_runDay_58 rfl rfl ?_
    refine x_iconst dX11_runDay_59 (by decide) ?_
    obtain ⟨s9, h⟩ := h
    refine x_iast dX11_runDay_60 sh_99 s9 ?_
    obtain ⟨s10, h⟩ := h
    refine y_iinc (ls' := [v_P 79, v_I x1, v_I (x2 + 1), v_U, v_U, v_U, v_U, v_U]) dX11_runDay_61 rfl s10 (by decide) rfl ?_
    refine x_goto (tgt := 37) dX11_runDay_64 (by decide) ?_
    exact h
theorem wp_X11_runDay_74 {x1 x2 x3 : Int} {M : mM} {Q : Int → mM → Prop} (h : (x2 ≤ 0 → Q 0 M) ∧ (¬ x2 ≤ 0 → X_ kk_X11_runDay 81 [v_P 79, v_I x1, v_I x2, v_I x3, v_I 0, v_U, v_U, v_U] [] M Q)) : X_ kk_X11_runDay 74 [v_P 79, v_I x1, v_I x2, v_I x3, v_U, v_U, v_U, v_U] [] M Q := by
  refine x_iload_n dX11_runDay_74 rfl rfl ?_
  refine x_if_le (tgt := 224) dX11_runDay_75 (by decide) (fun hc => ?_) (fun hc => ?_)
  · replace h := h.1 hc
    refine x_ret dX11_runDay_224 rfl (fun _ => h)
  · replace h := h.2 hc
    refine x_iconst dX11_runDay_78 (by decide) ?_
    refine y_istore (ls' := [v_P 79, v_I x1, v_I x2, v_I x3, v_I 0, v_U, v_U, v_U]) dX11_runDay_79 (by decide) rfl ?_
    exact h
theorem wp_X11_runDay_81 {x1 x2 x3 x4 : Int} {M : mM} {Q : Int → mM → Prop} (h : (3 ≤ x4 → (m_ir (x3 + 1)) ∧ X_ kk_X11_runDay 74 [v_P 79, v_I x1, v_I x2, v_I (x3 + 1), v_U, v_U, v_U, v_U] [] M Q) ∧ (¬ 3 ≤ x4 → (0 ≤ x4 ∧ x4 < 3) ∧ ((M 79 4) ≤ (M 98 x4.toNat) → (m_ir (x4 + 1)) ∧ X_ kk_X11_runDay 81 [v_P 79, v_I x1, v_I x2, v_I x3, v_I (x4 + 1), v_U, v_U, v_U] [] M Q) ∧ (¬ (M 79 4) ≤ (M 98 x4.toNat) → (0 ≤ x4 ∧ x4 < 3) ∧ (x3 < (M 99 x4.toNat) → (m_ir (x4 + 1)) ∧ X_ kk_X11_runDay 81 [v_P 79, v_I x1, v_I x2, v_I x3, v_I (x4 + 1), v_U, v_U, v_U] [] M Q) ∧ (¬ x3 < (M 99 x4.toNat) → (0 ≤ x4 ∧ x4 < 3) ∧ (0 ≤ (M 98 x4.toNat) ∧ (M 98 x4.toNat) < 8) ∧ (0 ≤ x4 ∧ x4 < 3) ∧ (m_ir (x3 - (M 99 x4.toNat))) ∧ (m_ir (x1 - (x3 - (M 99 x4.toNat)))) ∧ ∃ Qc11 : Int → mM → Prop, C_ kk_X11_presser [v_P 79, v_I (M 83 ((M 98 x4.toNat).toNat)), v_I (x1 - (x3 - (M 99 x4.toNat)))] M Qc11 ∧ ∀ (r12 : Int) (M13 : mM), m_ir r12 → m_okM M13 → Qc11 r12 M13 → (0 ≤ r12 → ∃ Qc18 : Int → mM → Prop, C_ kk_X11_sell [v_P 79, v_I (M 83 ((M 98 x4.toNat).toNat)), v_I r12, v_I (x1 - (x3 - (M 99 x4.toNat))), v_I x3] M13 Qc18 ∧ ∀ (r19 : Int) (M20 : mM), m_ir r19 → m_okM M20 → Qc18 r19 M20 → (0 ≤ x4 ∧ x4 < 3) ∧ (m_ir ((M20 98 x4.toNat) + 1)) ∧ ∃ Qc27 : Int → mM → Prop, C_ kk_X11_nextPlace [v_P 79, v_I x4, v_I ((M20 98 x4.toNat) + 1)] M20 Qc27 ∧ ∀ (r28 : Int) (M29 : mM), m_ir r28 → m_okM M29 → Qc27 r28 M29 → (0 ≤ x4 ∧ x4 < 3) ∧ (m_ir (x3 + 1)) ∧ (0 ≤ x4 ∧ x4 < 3) ∧ (m_ir (x2 + (-1))) ∧ (m_ir (x4 + 1)) ∧ X_ kk_X11_runDay 81 [v_P 79, v_I x1, v_I (x2 + (-1)), v_I x3, v_I (x4 + 1), v_U, v_U, v_U] [] (m_up (m_up M29 98 x4.toNat r28) 99 x4.toNat (x3 + 1)) Q) ∧ (¬ 0 ≤ r12 → (0 ≤ (M 83 ((M 98 x4.toNat).toNat)) ∧ (M 83 ((M 98 x4.toNat).toNat)) < 8) ∧ ((M13 82 ((M 83 ((M 98 x4.toNat).toNat)).toNat)) < (x1 - (x3 - (M 99 x4.toNat))) → (m_ir (x4 + 1)) ∧ X_ kk_X11_runDay 81 [v_P 79, v_I x1, v_I x2, v_I x3, v_I (x4 + 1), v_U, v_U, v_U] [] M13 Q) ∧ (¬ (M13 82 ((M 83 ((M 98 x4.toNat).toNat)).toNat)) < (x1 - (x3 - (M 99 x4.toNat))) → ∃ Qc41 : Int → mM → Prop, C_ kk_X11_sell [v_P 79, v_I (M 83 ((M 98 x4.toNat).toNat)), v_I r12, v_I (x1 - (x3 - (M 99 x4.toNat))), v_I x3] M13 Qc41 ∧ ∀ (r42 : Int) (M43 : mM), m_ir r42 → m_okM M43 → Qc41 r42 M43 → (0 ≤ x4 ∧ x4 < 3) ∧ (m_ir ((M43 98 x4.toNat) + 1)) ∧ ∃ Qc50 : Int → mM → Prop, C_ kk_X11_nextPlace [v_P 79, v_I x4, v_I ((M43 98 x4.toNat) + 1)] M43 Qc50 ∧ ∀ (r51 : Int) (M52 : mM), m_ir r51 → m_okM M52 → Qc50 r51 M52 → (0 ≤ x4 ∧ x4 < 3) ∧ (m_ir (x3 + 1)) ∧ (0 ≤ x4 ∧ x4 < 3) ∧ (m_ir (x2 + (-1))) ∧ (m_ir (x4 + 1)) ∧ X_ kk_X11_runDay 81 [v_P 79, v_I x1, v_I (x2 + (-1)), v_I x3, v_I (x4 + 1), v_U, v_U, v_U] [] (m_up (m_up M52 98 x4.toNat r51) 99 x4.toNat (x3 + 1)) Q)))))) : X_ kk_X11_runDay 81 [v_P 79, v_I x1, v_I x2, v_I x3, v_I x4, v_U, v_U, v_U] [] M Q := by
  refine x_iload dX11_runDay_81 rfl ?_
  refine x_iconst dX11_runDay_83 (by decide) ?_
  refine x_ic_ge (tgt := 218) dX11_runDay_84 (by decide) (fun hc => ?_) (fun hc => ?_)
  · replace h := h.1 hc
    obtain ⟨s1, h⟩ := h
    refine y_iinc (ls' := [v_P 79, v_I x1, v_I x2, v_I (x3 + 1), v_I x4, v_U, v_U, v_U]) dX11_runDay_218 rfl s1 (by decide) rfl ?_
    refine x_goto (tgt := 74) dX11_runDay_221 (by decide) ?_
    refine y_forget 4 (ls' := [v_P 79, v_I x1, v_I x2, v_I (x3 + 1), v_U, v_U, v_U, v_U]) rfl ?_
    exact h
  · replace h := h.2 hc
    refine x_aload_n dX11_runDay_87 rfl rfl ?_
    refine y_getP dX11_runDay_88 sh_79 cf_X11 fl_X11_64 (by decide) (by decide) gg_79_22 ?_
    refine x_iload dX11_runDay_91 rfl ?_
    obtain ⟨s2, h⟩ := h
    refine x_iald dX11_runDay_93 sh_98 s2 ?_
    refine x_aload_n dX11_runDay_94 rfl rfl ?_
    refine x_getI dX11_runDay_95 sh_79 cf_X11 fl_X11_107 (by decide) (by decide) ?_
    refine x_ic_ge (tgt := 212) dX11_runDay_98 (by decide) (fun hc => ?_) (fun hc => ?_)
    · replace h := h.1 hc
      obtain ⟨s3, h⟩ := h
      refine y_iinc (ls' := [v_P 79, v_I x1, v_I x2, v_I x3, v_I (x4 + 1), v_U, v_U, v_U]) dX11_runDay_212 rfl s3 (by decide) rfl ?_
      refine x_goto (tgt := 81) dX11_runDay_215 (by decide) ?_
      exact h
    · replace h := h.2 hc
      refine x_aload_n dX11_runDay_101 rfl rfl ?_
      refine y_getP dX11_runDay_102 sh_79 cf_X11 fl_X11_67 (by decide) (by decide) gg_79_23 ?_
      refine x_iload dX11_runDay_105 rfl ?_
      obtain ⟨s4, h⟩ := h
      refine x_iald dX11_runDay_107 sh_99 s4 ?_
      refine x_iload_n dX11_runDay_108 rfl rfl ?_
      refine x_ic_gt (tgt := 212) dX11_runDay_109 (by decide) (fun hc => ?_) (fun hc => ?_)
      · replace h := h.1 hc
        obtain ⟨s5, h⟩ := h
        refine y_iinc (ls' := [v_P 79, v_I x1, v_I x2, v_I x3, v_I (x4 + 1), v_U, v_U, v_U]) dX11_runDay_212 rfl s5 (by decide) rfl ?_
        refine x_goto (tgt := 81) dX11_runDay_215 (by decide) ?_
        exact h
      · replace h := h.2 hc
        refine x_aload_n dX11_runDay_112 rfl rfl ?_
        refine y_getP dX11_runDay_113 sh_79 cf_X11 fl_X11_19 (by decide) (by decide) gg_79_3 ?_
        refine x_aload_n dX11_runDay_116 rfl rfl ?_
        refine y_getP dX11_runDay_117 sh_79 cf_X11 fl_X11_64 (by decide) (by decide) gg_79_22 ?_
        refine x_iload dX11_runDay_120 rfl ?_
        obtain ⟨s6, h⟩ := h
        refine x_iald dX11_runDay_122 sh_98 s6 ?_
        obtain ⟨s7, h⟩ := h
        refine x_iald dX11_runDay_123 sh_83 s7 ?_
        refine y_istore (ls' := [v_P 79, v_I x1, v_I x2, v_I x3, v_I x4, v_I (M 83 ((M 98 x4.toNat).toNat)), v_U, v_U]) dX11_runDay_124 (by decide) rfl ?_
        refine x_iload_n dX11_runDay_126 rfl rfl ?_
        refine x_iload_n dX11_runDay_127 rfl rfl ?_
        refine x_aload_n dX11_runDay_128 rfl rfl ?_
        refine y_getP dX11_runDay_129 sh_79 cf_X11 fl_X11_67 (by decide) (by decide) gg_79_23 ?_
        refine x_iload dX11_runDay_132 rfl ?_
        obtain ⟨s8, h⟩ := h
        refine x_iald dX11_runDay_134 sh_99 s8 ?_
        obtain ⟨s9, h⟩ := h
        refine x_isub dX11_runDay_135 s9 ?_
        obtain ⟨s10, h⟩ := h
        refine x_isub dX11_runDay_136 s10 ?_
        refine y_istore (ls' := [v_P 79, v_I x1, v_I x2, v_I x3, v_I x4, v_I (M 83 ((M 98 x4.toNat).toNat)), v_I (x1 - (x3 - (M 99 x4.toNat))), v_U]) dX11_runDay_137 (by decide) rfl ?_
        refine x_aload_n dX11_runDay_139 rfl rfl ?_
        refine x_iload dX11_runDay_140 rfl ?_
        refine x_iload dX11_runDay_142 rfl ?_
        obtain ⟨Qc11, hc14, h⟩ := h
        refine x_callV (as := [v_I (M 83 ((M 98 x4.toNat).toNat)), v_I (x1 - (x3 - (M 99 x4.toNat)))]) (st := []) (Qc := Qc11) dX11_runDay_144 mt_X11_presser ml_X11_175 ⟨by decide, by decide⟩ sh_79 rfl (fun _ _ => Nat.le_of_ble_eq_true rfl) hc14 (fun r12 M13 hr15 hM16 hq17 => ?_)
        replace h := h r12 M13 hr15 hM16 hq17
        change X_ kk_X11_runDay 147 [v_P 79, v_I x1, v_I x2, v_I x3, v_I x4, v_I (M 83 ((M 98 x4.toNat).toNat)), v_I (x1 - (x3 - (M 99 x4.toNat))), v_U] [v_I r12] M13 Q
        refine y_istore (ls' := [v_P 79, v_I x1, v_I x2, v_I x3, v_I x4, v_I (M 83 ((M 98 x4.toNat).toNat)), v_I (x1 - (x3 - (M 99 x4.toNat))), v_I r12]) dX11_runDay_147 (by decide) rfl ?_
        refine x_iload dX11_runDay_149 rfl ?_
        refine x_if_ge (tgt := 166) dX11_runDay_151 (by decide) (fun hc => ?_) (fun hc => ?_)
        · replace h := h.1 hc
          refine x_aload_n dX11_runDay_166 rfl rfl ?_
          refine x_iload dX11_runDay_167 rfl ?_
          refine x_iload dX11_runDay_169 rfl ?_
          refine x_iload dX11_runDay_171 rfl ?_
          refine x_iload_n dX11_runDay_173 rfl rfl ?_
          obtain ⟨Qc18, hc21, h⟩ := h
          refine x_callV (as := [v_I (M 83 ((M 98 x4.toNat).toNat)), v_I r12, v_I (x1 - (x3 - (M 99 x4.toNat))), v_I x3]) (st := []) (Qc := Qc18) dX11_runDay_174 mt_X11_sell ml_X11_178 ⟨by decide, by decide⟩ sh_79 rfl (fun _ _ => Nat.le_of_ble_eq_true rfl) hc21 (fun r19 M20 hr22 hM23 hq24 => ?_)
          replace h := h r19 M20 hr22 hM23 hq24
          change X_ kk_X11_runDay 177 [v_P 79, v_I x1, v_I x2, v_I x3, v_I x4, v_I (M 83 ((M 98 x4.toNat).toNat)), v_I (x1 - (x3 - (M 99 x4.toNat))), v_I r12] [] M20 Q
          refine x_aload_n dX11_runDay_177 rfl rfl ?_
          refine y_getP dX11_runDay_178 sh_79 cf_X11 fl_X11_64 (by decide) (by decide) gg_79_22 ?_
          refine x_iload dX11_runDay_181 rfl ?_
          refine x_aload_n dX11_runDay_183 rfl rfl ?_
          refine x_iload dX11_runDay_184 rfl ?_
          refine x_aload_n dX11_runDay_186 rfl rfl ?_
          refine y_getP dX11_runDay_187 sh_79 cf_X11 fl_X11_64 (by decide) (by decide) gg_79_22 ?_
          refine x_iload dX11_runDay_190 rfl ?_
          obtain ⟨s25, h⟩ := h
          refine x_iald dX11_runDay_192 sh_98 s25 ?_
          refine x_iconst dX11_runDay_193 (by decide) ?_
          obtain ⟨s26, h⟩ := h
          refine x_iadd dX11_runDay_194 s26 ?_
          obtain ⟨Qc27, hc30, h⟩ := h
          refine x_callV (as := [v_I x4, v_I ((M20 98 x4.toNat) + 1)]) (st := [v_I x4, v_P 98]) (Qc := Qc27) dX11_runDay_195 mt_X11_nextPlace ml_X11_172 ⟨by decide, by decide⟩ sh_79 rfl (fun _ _ => Nat.le_of_ble_eq_true rfl) hc30 (fun r28 M29 hr31 hM32 hq33 => ?_)
          replace h := h r28 M29 hr31 hM32 hq33
          change X_ kk_X11_runDay 198 [v_P 79, v_I x1, v_I x2, v_I x3, v_I x4, v_I (M 83 ((M 98 x4.toNat).toNat)), v_I (x1 - (x3 - (M 99 x4.toNat))), v_I r12] [v_I r28, v_I x4, v_P 98] M29 Q
          obtain ⟨s34, h⟩ := h
          refine x_iast dX11_runDay_198 sh_98 s34 ?_
          refine x_aload_n dX11_runDay_199 rfl rfl ?_
          refine y_getP dX11_runDay_200 sh_79 cf_X11 fl_X11_67 (by decide) (by decide) gg_79_23 ?_
          refine x_iload dX11_runDay_203 rfl ?_
          refine x_iload_n dX11_runDay_205 rfl rfl ?_
          refine x_iconst dX11_runDay_206 (by decide) ?_
          obtain ⟨s35, h⟩ := h
          refine x_iadd dX11_runDay_207 s35 ?_
          obtain ⟨s36, h⟩ := h
          refine x_iast dX11_runDay_208 sh_99 s36 ?_
          obtain ⟨s37, h⟩ := h
          refine y_iinc (ls' := [v_P 79, v_I x1, v_I (x2 + (-1)), v_I x3, v_I x4, v_I (M 83 ((M 98 x4.toNat).toNat)), v_I (x1 - (x3 - (M 99 x4.toNat))), v_I r12]) dX11_runDay_209 rfl s37 (by decide) rfl ?_
          obtain ⟨s38, h⟩ := h
          refine y_iinc (ls' := [v_P 79, v_I x1, v_I (x2 + (-1)), v_I x3, v_I (x4 + 1), v_I (M 83 ((M 98 x4.toNat).toNat)), v_I (x1 - (x3 - (M 99 x4.toNat))), v_I r12]) dX11_runDay_212 rfl s38 (by decide) rfl ?_
          refine x_goto (tgt := 81) dX11_runDay_215 (by decide) ?_
          refine y_forget 5 (ls' := [v_P 79, v_I x1, v_I (x2 + (-1)), v_I x3, v_I (x4 + 1), v_U, v_I (x1 - (x3 - (M 99 x4.toNat))), v_I r12]) rfl ?_
          refine y_forget 6 (ls' := [v_P 79, v_I x1, v_I (x2 + (-1)), v_I x3, v_I (x4 + 1), v_U, v_U, v_I r12]) rfl ?_
          refine y_forget 7 (ls' := [v_P 79, v_I x1, v_I (x2 + (-1)), v_I x3, v_I (x4 + 1), v_U, v_U, v_U]) rfl ?_
          exact h
        · replace h := h.2 hc
          refine x_iload dX11_runDay_154 rfl ?_
          refine x_aload_n dX11_runDay_156 rfl rfl ?_
          refine y_getP dX11_runDay_157 sh_79 cf_X11 fl_X11_16 (by decide) (by decide) gg_79_2 ?_
          refine x_iload dX11_runDay_160 rfl ?_
          obtain ⟨s39, h⟩ := h
          refine x_iald dX11_runDay_162 sh_82 s39 ?_
          refine x_ic_gt (tgt := 212) dX11_runDay_163 (by decide) (fun hc => ?_) (fun hc => ?_)
          · replace h := h.1 hc
            obtain ⟨s40, h⟩ := h
            refine y_iinc (ls' := [v_P 79, v_I x1, v_I x2, v_I x3, v_I (x4 + 1), v_I (M 83 ((M 98 x4.toNat).toNat)), v_I (x1 - (x3 - (M 99 x4.toNat))), v_I r12]) dX11_runDay_212 rfl s40 (by decide) rfl ?_
            refine x_goto (tgt := 81) dX11_runDay_215 (by decide) ?_
            refine y_forget 5 (ls' := [v_P 79, v_I x1, v_I x2, v_I x3, v_I (x4 + 1), v_U, v_I (x1 - (x3 - (M 99 x4.toNat))), v_I r12]) rfl ?_
            refine y_forget 6 (ls' := [v_P 79, v_I x1, v_I x2, v_I x3, v_I (x4 + 1), v_U, v_U, v_I r12]) rfl ?_
            refine y_forget 7 (ls' := [v_P 79, v_I x1, v_I x2, v_I x3, v_I (x4 + 1), v_U, v_U, v_U]) rfl ?_
            exact h
          · replace h := h.2 hc
            refine x_aload_n dX11_runDay_166 rfl rfl ?_
            refine x_iload dX11_runDay_167 rfl ?_
            refine x_iload dX11_runDay_169 rfl ?_
            refine x_iload dX11_runDay_171 rfl ?_
            refine x_iload_n dX11_runDay_173 rfl rfl ?_
            obtain ⟨Qc41, hc44, h⟩ := h
            refine x_callV (as := [v_I (M 83 ((M 98 x4.toNat).toNat)), v_I r12, v_I (x1 - (x3 - (M 99 x4.toNat))), v_I x3]) (st := []) (Qc := Qc41) dX11_runDay_174 mt_X11_sell ml_X11_178 ⟨by decide, by decide⟩ sh_79 rfl (fun _ _ => Nat.le_of_ble_eq_true rfl) hc44 (fun r42 M43 hr45 hM46 hq47 => ?_)
            replace h := h r42 M43 hr45 hM46 hq47
            change X_ kk_X11_runDay 177 [v_P 79, v_I x1, v_I x2, v_I x3, v_I x4, v_I (M 83 ((M 98 x4.toNat).toNat)), v_I (x1 - (x3 - (M 99 x4.toNat))), v_I r12] [] M43 Q
            refine x_aload_n dX11_runDay_177 rfl rfl ?_
            refine y_getP dX11_runDay_178 sh_79 cf_X11 fl_X11_64 (by decide) (by decide) gg_79_22 ?_
            refine x_iload dX11_runDay_181 rfl ?_
            refine x_aload_n dX11_runDay_183 rfl rfl ?_
            refine x_iload dX11_runDay_184 rfl ?_
            refine x_aload_n dX11_runDay_186 rfl rfl ?_
            refine y_getP dX11_runDay_187 sh_79 cf_X11 fl_X11_64 (by decide) (by decide) gg_79_22 ?_
            refine x_iload dX11_runDay_190 rfl ?_
            obtain ⟨s48, h⟩ := h
            refine x_iald dX11_runDay_192 sh_98 s48 ?_
            refine x_iconst dX11_runDay_193 (by decide) ?_
            obtain ⟨s49, h⟩ := h
            refine x_iadd dX11_runDay_194 s49 ?_
            obtain ⟨Qc50, hc53, h⟩ := h
            refine x_callV (as := [v_I x4, v_I ((M43 98 x4.toNat) + 1)]) (st := [v_I x4, v_P 98]) (Qc := Qc50) dX11_runDay_195 mt_X11_nextPlace ml_X11_172 ⟨by decide, by decide⟩ sh_79 rfl (fun _ _ => Nat.le_of_ble_eq_true rfl) hc53 (fun r51 M52 hr54 hM55 hq56 => ?_)
            replace h := h r51 M52 hr54 hM55 hq56
            change X_ kk_X11_runDay 198 [v_P 79, v_I x1, v_I x2, v_I x3, v_I x4, v_I (M 83 ((M 98 x4.toNat).toNat)), v_I (x1 - (x3 - (M 99 x4.toNat))), v_I r12] [v_I r51, v_I x4, v_P 98] M52 Q
            obtain ⟨s57, h⟩ := h
            refine x_iast dX11_runDay_198 sh_98 s57 ?_
            refine x_aload_n dX11_runDay_199 rfl rfl ?_
            refine y_getP dX11_runDay_200 sh_79 cf_X11 fl_X11_67 (by decide) (by decide) gg_79_23 ?_
            refine x_iload dX11_runDay_203 rfl ?_
            refine x_iload_n dX11_runDay_205 rfl rfl ?_
            refine x_iconst dX11_runDay_206 (by decide) ?_
            obtain ⟨s58, h⟩ := h
            refine x_iadd dX11_runDay_207 s58 ?_
            obtain ⟨s59, h⟩ := h
            refine x_iast dX11_runDay_208 sh_99 s59 ?_
            obtain ⟨s60, h⟩ := h
            refine y_iinc (ls' := [v_P 79, v_I x1, v_I (x2 + (-1)), v_I x3, v_I x4, v_I (M 83 ((M 98 x4.toNat).toNat)), v_I (x1 - (x3 - (M 99 x4.toNat))), v_I r12]) dX11_runDay_209 rfl s60 (by decide) rfl ?_
            obtain ⟨s61, h⟩ := h
            refine y_iinc (ls' := [v_P 79, v_I x1, v_I (x2 + (-1)), v_I x3, v_I (x4 + 1), v_I (M 83 ((M 98 x4.toNat).toNat)), v_I (x1 - (x3 - (M 99 x4.toNat))), v_I r12]) dX11_runDay_212 rfl s61 (by decide) rfl ?_
            refine x_goto (tgt := 81) dX11_runDay_215 (by decide) ?_
            refine y_forget 5 (ls' := [v_P 79, v_I x1, v_I (x2 + (-1)), v_I x3, v_I (x4 + 1), v_U, v_I (x1 - (x3 - (M 99 x4.toNat))), v_I r12]) rfl ?_
            refine y_forget 6 (ls' := [v_P 79, v_I x1, v_I (x2 + (-1)), v_I x3, v_I (x4 + 1), v_U, v_U, v_I r12]) rfl ?_
            refine y_forget 7 (ls' := [v_P 79, v_I x1, v_I (x2 + (-1)), v_I x3, v_I (x4 + 1), v_U, v_U, v_U]) rfl ?_
            exact h
theorem wp_X11_sell_0 {x1 x2 x3 x4 : Int} {M : mM} {Q : Int → mM → Prop} (h : (0 ≤ x1 ∧ x1 < 8) ∧ (0 ≤ x2 → (0 ≤ x1 ∧ x1 < 8) ∧ (0 ≤ x1 ∧ x1 < 8) ∧ (x2 < 0 → Q 0 (m_up (m_up (m_up M 93 x1.toNat x2) 94 x1.toNat x3) 95 x1.toNat x4)) ∧ (¬ x2 < 0 → (0 ≤ x2 ∧ x2 < 6) ∧ (0 ≤ x2 ∧ x2 < 6) ∧ ∀ M6 : mM, M6 = m_up (m_up (m_up (m_up M 93 x1.toNat x2) 94 x1.toNat x3) 95 x1.toNat x4) 96 x2.toNat (m_or (M 96 x2.toNat) (m_shl 1 x1)) → (0 ≤ x2 ∧ x2 < 6) ∧ (m_ir ((M 97 x2.toNat) - x3)) ∧ (0 ≤ x2 ∧ x2 < 6) ∧ Q 0 (m_up M6 97 x2.toNat ((M 97 x2.toNat) - x3)))) ∧ (¬ 0 ≤ x2 → (0 ≤ x1 ∧ x1 < 8) ∧ (0 ≤ x1 ∧ x1 < 8) ∧ (x2 < 0 → Q 0 (m_up (m_up (m_up M 93 x1.toNat x2) 94 x1.toNat (-6)) 95 x1.toNat x4)) ∧ (¬ x2 < 0 → (0 ≤ x2 ∧ x2 < 6) ∧ (0 ≤ x2 ∧ x2 < 6) ∧ ∀ M15 : mM, M15 = m_up (m_up (m_up (m_up M 93 x1.toNat x2) 94 x1.toNat (-6)) 95 x1.toNat x4) 96 x2.toNat (m_or (M 96 x2.toNat) (m_shl 1 x1)) → (0 ≤ x2 ∧ x2 < 6) ∧ (m_ir ((M 97 x2.toNat) - x3)) ∧ (0 ≤ x2 ∧ x2 < 6) ∧ Q 0 (m_up M15 97 x2.toNat ((M 97 x2.toNat) - x3))))) : X_ kk_X11_sell 0 [v_P 79, v_I x1, v_I x2, v_I x3, v_I x4] [] M Q := by
  refine x_aload_n dX11_sell_0 rfl rfl ?_
  refine y_getP dX11_sell_1 sh_79 cf_X11 fl_X11_49 (by decide) (by decide) gg_79_17 ?_
  refine x_iload_n dX11_sell_4 rfl rfl ?_
  refine x_iload_n dX11_sell_5 rfl rfl ?_
  obtain ⟨s1, h⟩ := h
  refine x_iast dX11_sell_6 sh_93 s1 ?_
  refine x_aload_n dX11_sell_7 rfl rfl ?_
  refine y_getP dX11_sell_8 sh_79 cf_X11 fl_X11_52 (by decide) (by decide) gg_79_18 ?_
  refine x_iload_n dX11_sell_11 rfl rfl ?_
  refine x_iload_n dX11_sell_12 rfl rfl ?_
  refine x_if_ge (tgt := 21) dX11_sell_13 (by decide) (fun hc => ?_) (fun hc => ?_)
  · replace h := h.1 hc
    refine x_iload_n dX11_sell_21 rfl rfl ?_
    obtain ⟨s2, h⟩ := h
    refine x_iast dX11_sell_22 sh_94 s2 ?_
    refine x_aload_n dX11_sell_23 rfl rfl ?_
    refine y_getP dX11_sell_24 sh_79 cf_X11 fl_X11_55 (by decide) (by decide) gg_79_19 ?_
    refine x_iload_n dX11_sell_27 rfl rfl ?_
    refine x_iload dX11_sell_28 rfl ?_
    obtain ⟨s3, h⟩ := h
    refine x_iast dX11_sell_30 sh_95 s3 ?_
    refine x_iload_n dX11_sell_31 rfl rfl ?_
    refine x_if_lt (tgt := 57) dX11_sell_32 (by decide) (fun hc => ?_) (fun hc => ?_)
    · replace h := h.1 hc
      refine x_ret dX11_sell_57 rfl (fun _ => h)
    · replace h := h.2 hc
      refine x_aload_n dX11_sell_35 rfl rfl ?_
      refine y_getP dX11_sell_36 sh_79 cf_X11 fl_X11_58 (by decide) (by decide) gg_79_20 ?_
      refine x_iload_n dX11_sell_39 rfl rfl ?_
      refine x_dup2 dX11_sell_40 (fun _ _ => rfl) (fun _ _ => rfl) ?_
      obtain ⟨s4, h⟩ := h
      refine y_iald (v := (M 96 x2.toNat)) dX11_sell_41 sh_96 s4 ((m_up_ne (Or.inl (by decide))).trans ((m_up_ne (Or.inl (by decide))).trans (m_up_ne (Or.inl (by decide))))) ?_
      refine x_iconst dX11_sell_42 (by decide) ?_
      refine x_iload_n dX11_sell_43 rfl rfl ?_
      refine x_ishl dX11_sell_44 ?_
      refine x_ior dX11_sell_45 ?_
      obtain ⟨s5, h⟩ := h
      refine x_iast dX11_sell_46 sh_96 s5 ?_
      obtain ⟨M6, e7⟩ : ∃ z : mM, z = m_up (m_up (m_up (m_up M 93 x1.toNat x2) 94 x1.toNat x3) 95 x1.toNat x4) 96 x2.toNat (m_or (M 96 x2.toNat) (m_shl 1 x1)) := ⟨_, rfl⟩
      rw [← e7]
      replace h := h M6 e7
      refine x_aload_n dX11_sell_47 rfl rfl ?_
      refine y_getP dX11_sell_48 sh_79 cf_X11 fl_X11_61 (by decide) (by decide) gg_79_21 ?_
      refine x_iload_n dX11_sell_51 rfl rfl ?_
      refine x_dup2 dX11_sell_52 (fun _ _ => rfl) (fun _ _ => rfl) ?_
      obtain ⟨s8, h⟩ := h
      refine y_iald (v := (M 97 x2.toNat)) dX11_sell_53 sh_97 s8 ((congrFun (congrFun e7 97) x2.toNat).trans ((m_up_ne (Or.inl (by decide))).trans ((m_up_ne (Or.inl (by decide))).trans ((m_up_ne (Or.inl (by decide))).trans (m_up_ne (Or.inl (by decide))))))) ?_
      refine x_iload_n dX11_sell_54 rfl rfl ?_
      obtain ⟨s9, h⟩ := h
      refine x_isub dX11_sell_55 s9 ?_
      obtain ⟨s10, h⟩ := h
      refine x_iast dX11_sell_56 sh_97 s10 ?_
      refine x_ret dX11_sell_57 rfl (fun _ => h)
  · replace h := h.2 hc
    refine x_bipush dX11_sell_16 (by decide) (by decide) ?_
    refine x_goto (tgt := 22) dX11_sell_18 (by decide) ?_
    obtain ⟨s11, h⟩ := h
    refine x_iast dX11_sell_22 sh_94 s11 ?_
    refine x_aload_n dX11_sell_23 rfl rfl ?_
    refine y_getP dX11_sell_24 sh_79 cf_X11 fl_X11_55 (by decide) (by decide) gg_79_19 ?_
    refine x_iload_n dX11_sell_27 rfl rfl ?_
    refine x_iload dX11_sell_28 rfl ?_
    obtain ⟨s12, h⟩ := h
    refine x_iast dX11_sell_30 sh_95 s12 ?_
    refine x_iload_n dX11_sell_31 rfl rfl ?_
    refine x_if_lt (tgt := 57) dX11_sell_32 (by decide) (fun hc => ?_) (fun hc => ?_)
    · replace h := h.1 hc
      refine x_ret dX11_sell_57 rfl (fun _ => h)
    · replace h := h.2 hc
      refine x_aload_n dX11_sell_35 rfl rfl ?_
      refine y_getP dX11_sell_36 sh_79 cf_X11 fl_X11_58 (by decide) (by decide) gg_79_20 ?_
      refine x_iload_n dX11_sell_39 rfl rfl ?_
      refine x_dup2 dX11_sell_40 (fun _ _ => rfl) (fun _ _ => rfl) ?_
      obtain ⟨s13, h⟩ := h
      refine y_iald (v := (M 96 x2.toNat)) dX11_sell_41 sh_96 s13 ((m_up_ne (Or.inl (by decide))).trans ((m_up_ne (Or.inl (by decide))).trans (m_up_ne (Or.inl (by decide))))) ?_
      refine x_iconst dX11_sell_42 (by decide) ?_
      refine x_iload_n dX11_sell_43 rfl rfl ?_
      refine x_ishl dX11_sell_44 ?_
      refine x_ior dX11_sell_45 ?_
      obtain ⟨s14, h⟩ := h
      refine x_iast dX11_sell_46 sh_96 s14 ?_
      obtain ⟨M15, e16⟩ : ∃ z : mM, z = m_up (m_up (m_up (m_up M 93 x1.toNat x2) 94 x1.toNat (-6)) 95 x1.toNat x4) 96 x2.toNat (m_or (M 96 x2.toNat) (m_shl 1 x1)) := ⟨_, rfl⟩
      rw [← e16]
      replace h := h M15 e16
      refine x_aload_n dX11_sell_47 rfl rfl ?_
      refine y_getP dX11_sell_48 sh_79 cf_X11 fl_X11_61 (by decide) (by decide) gg_79_21 ?_
      refine x_iload_n dX11_sell_51 rfl rfl ?_
      refine x_dup2 dX11_sell_52 (fun _ _ => rfl) (fun _ _ => rfl) ?_
      obtain ⟨s17, h⟩ := h
      refine y_iald (v := (M 97 x2.toNat)) dX11_sell_53 sh_97 s17 ((congrFun (congrFun e16 97) x2.toNat).trans ((m_up_ne (Or.inl (by decide))).trans ((m_up_ne (Or.inl (by decide))).trans ((m_up_ne (Or.inl (by decide))).trans (m_up_ne (Or.inl (by decide))))))) ?_
      refine x_iload_n dX11_sell_54 rfl rfl ?_
      obtain ⟨s18, h⟩ := h
      refine x_isub dX11_sell_55 s18 ?_
      obtain ⟨s19, h⟩ := h
      refine x_iast dX11_sell_56 sh_97 s19 ?_
      refine x_ret dX11_sell_57 rfl (fun _ => h)
theorem wp_X11_sold_0 {x1 x2 : Int} {M : mM} {Q : Int → mM → Prop} (h : (0 ≤ M 79 4) ∧ (0 ≤ x1 ∧ x1 < M 79 4 → (0 ≤ x2 ∧ x2 ≤ 2 → ∃ Qc1 : Int → mM → Prop, C_ kk_X11_layWorths [v_P 79] M Qc1 ∧ ∀ (r2 : Int) (M3 : mM), m_ir r2 → m_okM M3 → Qc1 r2 M3 → ∃ Qc8 : Int → mM → Prop, C_ kk_X11_runDay [v_P 79, v_I (M3 79 9)] M3 Qc8 ∧ ∀ (r9 : Int) (M10 : mM), m_ir r9 → m_okM M10 → Qc8 r9 M10 → (¬ x2 = 0 → (¬ x2 = 1 → (0 ≤ x1 ∧ x1 < 8) ∧ Q (M10 95 x1.toNat) M10) ∧ (x2 = 1 → (0 ≤ x1 ∧ x1 < 8) ∧ Q (M10 94 x1.toNat) M10)) ∧ (x2 = 0 → (0 ≤ x1 ∧ x1 < 8) ∧ Q (M10 93 x1.toNat) M10)) ∧ (¬ (0 ≤ x2 ∧ x2 ≤ 2) → Q (-2) M)) ∧ (¬ (0 ≤ x1 ∧ x1 < M 79 4) → Q (-1) M)) : X_ kk_X11_sold 0 [v_P 79, v_I x1, v_I x2] [] M Q := by
  refine x_aload_n dX11_sold_0 rfl rfl ?_
  refine x_iload_n dX11_sold_1 rfl rfl ?_
  obtain ⟨s18, h⟩ := h
  refine x_isLot (st := []) dX11_sold_2 ml_X11_169 ⟨by decide, by decide⟩ (fun _ _ => Nat.le_of_ble_eq_true rfl) s18 (fun hc => ?_) (fun hc => ?_)
  · change X_ kk_X11_sold 5 [v_P 79, v_I x1, v_I x2] [v_I 1] M Q
    replace h := h.1 hc
    refine x_if_ne (tgt := 10) dX11_sold_5 (by decide) (fun _ => ?_) (fun hc => absurd hc (by decide))
    refine x_iload_n dX11_sold_10 rfl rfl ?_
    refine x_i2l dX11_sold_11 ?_
    refine x_lconst (z := 0) dX11_sold_12 (by decide) (by decide) ?_
    refine x_ldc2 (z := 2) dX11_sold_13 cl_X11_119 (by decide) (by decide) ?_
    refine x_in (st := []) dX11_sold_16 ml_X11_110 ⟨by decide, by decide⟩ (fun _ _ => Nat.le_of_ble_eq_true rfl) (fun hc => ?_) (fun hc => ?_)
    · change X_ kk_X11_sold 19 [v_P 79, v_I x1, v_I x2] [v_I 1] M Q
      replace h := h.1 hc
      refine x_if_ne (tgt := 25) dX11_sold_19 (by decide) (fun _ => ?_) (fun hc => absurd hc (by decide))
      refine x_aload_n dX11_sold_25 rfl rfl ?_
      obtain ⟨Qc1, hc4, h⟩ := h
      refine x_callV (as := []) (st := []) (Qc := Qc1) dX11_sold_26 mt_X11_layWorths ml_X11_182 ⟨by decide, by decide⟩ sh_79 rfl (fun _ _ => Nat.le_of_ble_eq_true rfl) hc4 (fun r2 M3 hr5 hM6 hq7 => ?_)
      replace h := h r2 M3 hr5 hM6 hq7
      change X_ kk_X11_sold 29 [v_P 79, v_I x1, v_I x2] [] M3 Q
      refine x_aload_n dX11_sold_29 rfl rfl ?_
      refine x_aload_n dX11_sold_30 rfl rfl ?_
      refine x_getI dX11_sold_31 sh_79 cf_X11 fl_X11_103 (by decide) (by decide) ?_
      obtain ⟨Qc8, hc11, h⟩ := h
      refine x_callV (as := [v_I (M3 79 9)]) (st := []) (Qc := Qc8) dX11_sold_34 mt_X11_runDay ml_X11_185 ⟨by decide, by decide⟩ sh_79 rfl (fun _ _ => Nat.le_of_ble_eq_true rfl) hc11 (fun r9 M10 hr12 hM13 hq14 => ?_)
      replace h := h r9 M10 hr12 hM13 hq14
      change X_ kk_X11_sold 37 [v_P 79, v_I x1, v_I x2] [] M10 Q
      refine x_iload_n dX11_sold_37 rfl rfl ?_
      refine x_if_ne (tgt := 50) dX11_sold_38 (by decide) (fun hc => ?_) (fun hc => ?_)
      · replace h := h.1 hc
        refine x_iload_n dX11_sold_50 rfl rfl ?_
        refine x_iconst dX11_sold_51 (by decide) ?_
        refine x_ic_ne (tgt := 64) dX11_sold_52 (by decide) (fun hc => ?_) (fun hc => ?_)
        · replace h := h.1 hc
          refine x_aload_n dX11_sold_64 rfl rfl ?_
          refine y_getP dX11_sold_65 sh_79 cf_X11 fl_X11_55 (by decide) (by decide) gg_79_19 ?_
          refine x_iload_n dX11_sold_68 rfl rfl ?_
          obtain ⟨s15, h⟩ := h
          refine x_iald dX11_sold_69 sh_95 s15 ?_
          refine x_iret dX11_sold_70 rfl (Or.inl rfl) (fun _ _ => h)
        · replace h := h.2 hc
          refine x_aload_n dX11_sold_55 rfl rfl ?_
          refine y_getP dX11_sold_56 sh_79 cf_X11 fl_X11_52 (by decide) (by decide) gg_79_18 ?_
          refine x_iload_n dX11_sold_59 rfl rfl ?_
          obtain ⟨s16, h⟩ := h
          refine x_iald dX11_sold_60 sh_94 s16 ?_
          refine x_goto (tgt := 70) dX11_sold_61 (by decide) ?_
          refine x_iret dX11_sold_70 rfl (Or.inl rfl) (fun _ _ => h)
      · replace h := h.2 hc
        refine x_aload_n dX11_sold_41 rfl rfl ?_
        refine y_getP dX11_sold_42 sh_79 cf_X11 fl_X11_49 (by decide) (by decide) gg_79_17 ?_
        refine x_iload_n dX11_sold_45 rfl rfl ?_
        obtain ⟨s17, h⟩ := h
        refine x_iald dX11_sold_46 sh_93 s17 ?_
        refine x_goto (tgt := 70) dX11_sold_47 (by decide) ?_
        refine x_iret dX11_sold_70 rfl (Or.inl rfl) (fun _ _ => h)
    · change X_ kk_X11_sold 19 [v_P 79, v_I x1, v_I x2] [v_I 0] M Q
      replace h := h.2 hc
      refine x_if_ne (tgt := 25) dX11_sold_19 (by decide) (fun hc => absurd hc (by decide)) (fun _ => ?_)
      refine x_bipush dX11_sold_22 (by decide) (by decide) ?_
      refine x_iret dX11_sold_24 rfl (Or.inl rfl) (fun _ _ => h)
  · change X_ kk_X11_sold 5 [v_P 79, v_I x1, v_I x2] [v_I 0] M Q
    replace h := h.2 hc
    refine x_if_ne (tgt := 10) dX11_sold_5 (by decide) (fun hc => absurd hc (by decide)) (fun _ => ?_)
    refine x_iconst dX11_sold_8 (by decide) ?_
    refine x_iret dX11_sold_9 rfl (Or.inl rfl) (fun _ _ => h)
theorem wp_X11_worthOfDay_0 {x1 : Int} {M : mM} {Q : Int → mM → Prop} (h : (m_ir (256 * x1)) ∧ (0 ≤ x1 ∧ x1 < 6) ∧ (m_ir ((256 * x1) + (M 96 x1.toNat))) ∧ (0 ≤ ((256 * x1) + (M 96 x1.toNat)) ∧ ((256 * x1) + (M 96 x1.toNat)) < 1536) ∧ Q (M 92 (((256 * x1) + (M 96 x1.toNat)).toNat)) M) : X_ kk_X11_worthOfDay 0 [v_P 79, v_I x1] [] M Q := by
  refine x_aload_n dX11_worthOfDay_0 rfl rfl ?_
  refine y_getP dX11_worthOfDay_1 sh_79 cf_X11 fl_X11_46 (by decide) (by decide) gg_79_16 ?_
  refine x_sipush dX11_worthOfDay_4 (by decide) (by decide) ?_
  refine x_iload_n dX11_worthOfDay_7 rfl rfl ?_
  obtain ⟨s1, h⟩ := h
  refine x_imul dX11_worthOfDay_8 s1 ?_
  refine x_aload_n dX11_worthOfDay_9 rfl rfl ?_
  refine y_getP dX11_worthOfDay_10 sh_79 cf_X11 fl_X11_58 (by decide) (by decide) gg_79_20 ?_
  refine x_iload_n dX11_worthOfDay_13 rfl rfl ?_
  obtain ⟨s2, h⟩ := h
  refine x_iald dX11_worthOfDay_14 sh_96 s2 ?_
  obtain ⟨s3, h⟩ := h
  refine x_iadd dX11_worthOfDay_15 s3 ?_
  obtain ⟨s4, h⟩ := h
  refine x_iald dX11_worthOfDay_16 sh_92 s4 ?_
  refine x_iret dX11_worthOfDay_17 rfl (Or.inl rfl) (fun _ _ => h)
theorem wp_X11_day_0 {x1 x2 : Int} {M : mM} {Q : Int → mM → Prop} (h : (0 ≤ M 79 8) ∧ (0 ≤ x1 ∧ x1 < M 79 8 → (0 ≤ x2 ∧ x2 ≤ 3 → ∃ Qc1 : Int → mM → Prop, C_ kk_X11_layWorths [v_P 79] M Qc1 ∧ ∀ (r2 : Int) (M3 : mM), m_ir r2 → m_okM M3 → Qc1 r2 M3 → ∃ Qc8 : Int → mM → Prop, C_ kk_X11_runDay [v_P 79, v_I (M3 79 9)] M3 Qc8 ∧ ∀ (r9 : Int) (M10 : mM), m_ir r9 → m_okM M10 → Qc8 r9 M10 → (¬ x2 = 0 → (¬ x2 = 1 → (¬ x2 = 2 → (0 ≤ x1 ∧ x1 < 6) ∧ Q (M10 97 x1.toNat) M10) ∧ (x2 = 2 → (0 ≤ x1 ∧ x1 < 6) ∧ (0 ≤ x1 ∧ x1 < 6) ∧ (m_ir ((M10 84 x1.toNat) - (M10 97 x1.toNat))) ∧ Q ((M10 84 x1.toNat) - (M10 97 x1.toNat)) M10)) ∧ (x2 = 1 → ∃ Qc19 : Int → mM → Prop, C_ kk_X11_worthOfDay [v_P 79, v_I x1] M10 Qc19 ∧ ∀ (r20 : Int) (M21 : mM), m_ir r20 → m_okM M21 → Qc19 r20 M21 → Q r20 M21)) ∧ (x2 = 0 → (0 ≤ x1 ∧ x1 < 6) ∧ Q (M10 96 x1.toNat) M10)) ∧ (¬ (0 ≤ x2 ∧ x2 ≤ 3) → Q (-2) M)) ∧ (¬ (0 ≤ x1 ∧ x1 < M 79 8) → Q (-1) M)) : X_ kk_X11_day 0 [v_P 79, v_I x1, v_I x2] [] M Q := by
  refine x_aload_n dX11_day_0 rfl rfl ?_
  refine x_iload_n dX11_day_1 rfl rfl ?_
  obtain ⟨s27, h⟩ := h
  refine x_isBuyer (st := []) dX11_day_2 ml_X11_123 ⟨by decide, by decide⟩ (fun _ _ => Nat.le_of_ble_eq_true rfl) s27 (fun hc => ?_) (fun hc => ?_)
  · change X_ kk_X11_day 5 [v_P 79, v_I x1, v_I x2] [v_I 1] M Q
    replace h := h.1 hc
    refine x_if_ne (tgt := 10) dX11_day_5 (by decide) (fun _ => ?_) (fun hc => absurd hc (by decide))
    refine x_iload_n dX11_day_10 rfl rfl ?_
    refine x_i2l dX11_day_11 ?_
    refine x_lconst (z := 0) dX11_day_12 (by decide) (by decide) ?_
    refine x_ldc2 (z := 3) dX11_day_13 cl_X11_189 (by decide) (by decide) ?_
    refine x_in (st := []) dX11_day_16 ml_X11_110 ⟨by decide, by decide⟩ (fun _ _ => Nat.le_of_ble_eq_true rfl) (fun hc => ?_) (fun hc => ?_)
    · change X_ kk_X11_day 19 [v_P 79, v_I x1, v_I x2] [v_I 1] M Q
      replace h := h.1 hc
      refine x_if_ne (tgt := 25) dX11_day_19 (by decide) (fun _ => ?_) (fun hc => absurd hc (by decide))
      refine x_aload_n dX11_day_25 rfl rfl ?_
      obtain ⟨Qc1, hc4, h⟩ := h
      refine x_callV (as := []) (st := []) (Qc := Qc1) dX11_day_26 mt_X11_layWorths ml_X11_182 ⟨by decide, by decide⟩ sh_79 rfl (fun _ _ => Nat.le_of_ble_eq_true rfl) hc4 (fun r2 M3 hr5 hM6 hq7 => ?_)
      replace h := h r2 M3 hr5 hM6 hq7
      change X_ kk_X11_day 29 [v_P 79, v_I x1, v_I x2] [] M3 Q
      refine x_aload_n dX11_day_29 rfl rfl ?_
      refine x_aload_n dX11_day_30 rfl rfl ?_
      refine x_getI dX11_day_31 sh_79 cf_X11 fl_X11_103 (by decide) (by decide) ?_
      obtain ⟨Qc8, hc11, h⟩ := h
      refine x_callV (as := [v_I (M3 79 9)]) (st := []) (Qc := Qc8) dX11_day_34 mt_X11_runDay ml_X11_185 ⟨by decide, by decide⟩ sh_79 rfl (fun _ _ => Nat.le_of_ble_eq_true rfl) hc11 (fun r9 M10 hr12 hM13 hq14 => ?_)
      replace h := h r9 M10 hr12 hM13 hq14
      change X_ kk_X11_day 37 [v_P 79, v_I x1, v_I x2] [] M10 Q
      refine x_iload_n dX11_day_37 rfl rfl ?_
      refine x_if_ne (tgt := 50) dX11_day_38 (by decide) (fun hc => ?_) (fun hc => ?_)
      · replace h := h.1 hc
        refine x_iload_n dX11_day_50 rfl rfl ?_
        refine x_iconst dX11_day_51 (by decide) ?_
        refine x_ic_ne (tgt := 63) dX11_day_52 (by decide) (fun hc => ?_) (fun hc => ?_)
        · replace h := h.1 hc
          refine x_iload_n dX11_day_63 rfl rfl ?_
          refine x_iconst dX11_day_64 (by decide) ?_
          refine x_ic_ne (tgt := 84) dX11_day_65 (by decide) (fun hc => ?_) (fun hc => ?_)
          · replace h := h.1 hc
            refine x_aload_n dX11_day_84 rfl rfl ?_
            refine y_getP dX11_day_85 sh_79 cf_X11 fl_X11_61 (by decide) (by decide) gg_79_21 ?_
            refine x_iload_n dX11_day_88 rfl rfl ?_
            obtain ⟨s15, h⟩ := h
            refine x_iald dX11_day_89 sh_97 s15 ?_
            refine x_iret dX11_day_90 rfl (Or.inl rfl) (fun _ _ => h)
          · replace h := h.2 hc
            refine x_aload_n dX11_day_68 rfl rfl ?_
            refine y_getP dX11_day_69 sh_79 cf_X11 fl_X11_22 (by decide) (by decide) gg_79_5 ?_
            refine x_iload_n dX11_day_72 rfl rfl ?_
            obtain ⟨s16, h⟩ := h
            refine x_iald dX11_day_73 sh_84 s16 ?_
            refine x_aload_n dX11_day_74 rfl rfl ?_
            refine y_getP dX11_day_75 sh_79 cf_X11 fl_X11_61 (by decide) (by decide) gg_79_21 ?_
            refine x_iload_n dX11_day_78 rfl rfl ?_
            obtain ⟨s17, h⟩ := h
            refine x_iald dX11_day_79 sh_97 s17 ?_
            obtain ⟨s18, h⟩ := h
            refine x_isub dX11_day_80 s18 ?_
            refine x_goto (tgt := 90) dX11_day_81 (by decide) ?_
            refine x_iret dX11_day_90 rfl (Or.inl rfl) (fun _ _ => h)
        · replace h := h.2 hc
          refine x_aload_n dX11_day_55 rfl rfl ?_
          refine x_iload_n dX11_day_56 rfl rfl ?_
          obtain ⟨Qc19, hc22, h⟩ := h
          refine x_callV (as := [v_I x1]) (st := []) (Qc := Qc19) dX11_day_57 mt_X11_worthOfDay ml_X11_191 ⟨by decide, by decide⟩ sh_79 rfl (fun _ _ => Nat.le_of_ble_eq_true rfl) hc22 (fun r20 M21 hr23 hM24 hq25 => ?_)
          replace h := h r20 M21 hr23 hM24 hq25
          change X_ kk_X11_day 60 [v_P 79, v_I x1, v_I x2] [v_I r20] M21 Q
          refine x_goto (tgt := 90) dX11_day_60 (by decide) ?_
          refine x_iret dX11_day_90 rfl (Or.inl rfl) (fun _ _ => h)
      · replace h := h.2 hc
        refine x_aload_n dX11_day_41 rfl rfl ?_
        refine y_getP dX11_day_42 sh_79 cf_X11 fl_X11_58 (by decide) (by decide) gg_79_20 ?_
        refine x_iload_n dX11_day_45 rfl rfl ?_
        obtain ⟨s26, h⟩ := h
        refine x_iald dX11_day_46 sh_96 s26 ?_
        refine x_goto (tgt := 90) dX11_day_47 (by decide) ?_
        refine x_iret dX11_day_90 rfl (Or.inl rfl) (fun _ _ => h)
    · change X_ kk_X11_day 19 [v_P 79, v_I x1, v_I x2] [v_I 0] M Q
      replace h := h.2 hc
      refine x_if_ne (tgt := 25) dX11_day_19 (by decide) (fun hc => absurd hc (by decide)) (fun _ => ?_)
      refine x_bipush dX11_day_22 (by decide) (by decide) ?_
      refine x_iret dX11_day_24 rfl (Or.inl rfl) (fun _ _ => h)
  · change X_ kk_X11_day 5 [v_P 79, v_I x1, v_I x2] [v_I 0] M Q
    replace h := h.2 hc
    refine x_if_ne (tgt := 10) dX11_day_5 (by decide) (fun hc => absurd hc (by decide)) (fun _ => ?_)
    refine x_iconst dX11_day_8 (by decide) ?_
    refine x_iret dX11_day_9 rfl (Or.inl rfl) (fun _ _ => h)
theorem wp_X11_findDealt_0 {M : mM} {Q : Int → mM → Prop} (h : X_ kk_X11_findDealt 2 [v_P 79, v_I 0, v_U, v_U, v_U, v_U] [] M Q) : X_ kk_X11_findDealt 0 [v_P 79, v_U, v_U, v_U, v_U, v_U] [] M Q := by
  refine x_iconst dX11_findDealt_0 (by decide) ?_
  refine y_istore_n (ls' := [v_P 79, v_I 0, v_U, v_U, v_U, v_U]) dX11_findDealt_1 rfl (by decide) rfl ?_
  exact h
theorem wp_X11_findDealt_2 {x1 : Int} {M : mM} {Q : Int → mM → Prop} (h : ((m_shl 1 (M 79 4)) ≤ x1 → (m_ir ((M 79 8) - 1)) ∧ X_ kk_X11_findDealt 41 [v_P 79, v_I ((M 79 8) - 1), v_U, v_U, v_U, v_U] [] M Q) ∧ (¬ (m_shl 1 (M 79 4)) ≤ x1 → (m_ir (256 * (M 79 8))) ∧ (m_ir ((256 * (M 79 8)) + x1)) ∧ (0 ≤ ((256 * (M 79 8)) + x1) ∧ ((256 * (M 79 8)) + x1) < 1792) ∧ (m_ir (x1 + 1)) ∧ X_ kk_X11_findDealt 2 [v_P 79, v_I (x1 + 1), v_U, v_U, v_U, v_U] [] (m_up M 100 (((256 * (M 79 8)) + x1).toNat) 0) Q)) : X_ kk_X11_findDealt 2 [v_P 79, v_I x1, v_U, v_U, v_U, v_U] [] M Q := by
  refine x_iload_n dX11_findDealt_2 rfl rfl ?_
  refine x_iconst dX11_findDealt_3 (by decide) ?_
  refine x_aload_n dX11_findDealt_4 rfl rfl ?_
  refine x_getI dX11_findDealt_5 sh_79 cf_X11 fl_X11_107 (by decide) (by decide) ?_
  refine x_ishl dX11_findDealt_8 ?_
  refine x_ic_ge (tgt := 34) dX11_findDealt_9 (by decide) (fun hc => ?_) (fun hc => ?_)
  · replace h := h.1 hc
    refine x_aload_n dX11_findDealt_34 rfl rfl ?_
    refine x_getI dX11_findDealt_35 sh_79 cf_X11 fl_X11_114 (by decide) (by decide) ?_
    refine x_iconst dX11_findDealt_38 (by decide) ?_
    obtain ⟨s1, h⟩ := h
    refine x_isub dX11_findDealt_39 s1 ?_
    refine y_istore_n (ls' := [v_P 79, v_I ((M 79 8) - 1), v_U, v_U, v_U, v_U]) dX11_findDealt_40 rfl (by decide) rfl ?_
    exact h
  · replace h := h.2 hc
    refine x_aload_n dX11_findDealt_12 rfl rfl ?_
    refine y_getP dX11_findDealt_13 sh_79 cf_X11 fl_X11_70 (by decide) (by decide) gg_79_24 ?_
    refine x_sipush dX11_findDealt_16 (by decide) (by decide) ?_
    refine x_aload_n dX11_findDealt_19 rfl rfl ?_
    refine x_getI dX11_findDealt_20 sh_79 cf_X11 fl_X11_114 (by decide) (by decide) ?_
    obtain ⟨s2, h⟩ := h
    refine x_imul dX11_findDealt_23 s2 ?_
    refine x_iload_n dX11_findDealt_24 rfl rfl ?_
    obtain ⟨s3, h⟩ := h
    refine x_iadd dX11_findDealt_25 s3 ?_
    refine x_iconst dX11_findDealt_26 (by decide) ?_
    obtain ⟨s4, h⟩ := h
    refine x_iast dX11_findDealt_27 sh_100 s4 ?_
    obtain ⟨s5, h⟩ := h
    refine y_iinc (ls' := [v_P 79, v_I (x1 + 1), v_U, v_U, v_U, v_U]) dX11_findDealt_28 rfl s5 (by decide) rfl ?_
    refine x_goto (tgt := 2) dX11_findDealt_31 (by decide) ?_
    exact h
theorem wp_X11_findDealt_41 {x1 : Int} {M : mM} {Q : Int → mM → Prop} (h : (x1 < 0 → Q 0 M) ∧ (¬ x1 < 0 → X_ kk_X11_findDealt 47 [v_P 79, v_I x1, v_I 0, v_U, v_U, v_U] [] M Q)) : X_ kk_X11_findDealt 41 [v_P 79, v_I x1, v_U, v_U, v_U, v_U] [] M Q := by
  refine x_iload_n dX11_findDealt_41 rfl rfl ?_
  refine x_if_lt (tgt := 202) dX11_findDealt_42 (by decide) (fun hc => ?_) (fun hc => ?_)
  · replace h := h.1 hc
    refine x_ret dX11_findDealt_202 rfl (fun _ => h)
  · replace h := h.2 hc
    refine x_iconst dX11_findDealt_45 (by decide) ?_
    refine y_istore_n (ls' := [v_P 79, v_I x1, v_I 0, v_U, v_U, v_U]) dX11_findDealt_46 rfl (by decide) rfl ?_
    exact h
theorem wp_X11_findDealt_47 {x1 x2 : Int} {M : mM} {Q : Int → mM → Prop} (h : ((m_shl 1 (M 79 4)) ≤ x2 → (m_ir (x1 + (-1))) ∧ X_ kk_X11_findDealt 41 [v_P 79, v_I (x1 + (-1)), v_U, v_U, v_U, v_U] [] M Q) ∧ (¬ (m_shl 1 (M 79 4)) ≤ x2 → (m_ir (x1 + 1)) ∧ (m_ir (256 * (x1 + 1))) ∧ (m_ir ((256 * (x1 + 1)) + x2)) ∧ (0 ≤ ((256 * (x1 + 1)) + x2) ∧ ((256 * (x1 + 1)) + x2) < 1792) ∧ X_ kk_X11_findDealt 75 [v_P 79, v_I x1, v_I x2, v_I (M 100 (((256 * (x1 + 1)) + x2).toNat)), v_I x2, v_U] [] M Q)) : X_ kk_X11_findDealt 47 [v_P 79, v_I x1, v_I x2, v_U, v_U, v_U] [] M Q := by
  refine x_iload_n dX11_findDealt_47 rfl rfl ?_
  refine x_iconst dX11_findDealt_48 (by decide) ?_
  refine x_aload_n dX11_findDealt_49 rfl rfl ?_
  refine x_getI dX11_findDealt_50 sh_79 cf_X11 fl_X11_107 (by decide) (by decide) ?_
  refine x_ishl dX11_findDealt_53 ?_
  refine x_ic_ge (tgt := 196) dX11_findDealt_54 (by decide) (fun hc => ?_) (fun hc => ?_)
  · replace h := h.1 hc
    obtain ⟨s1, h⟩ := h
    refine y_iinc (ls' := [v_P 79, v_I (x1 + (-1)), v_I x2, v_U, v_U, v_U]) dX11_findDealt_196 rfl s1 (by decide) rfl ?_
    refine x_goto (tgt := 41) dX11_findDealt_199 (by decide) ?_
    refine y_forget 2 (ls' := [v_P 79, v_I (x1 + (-1)), v_U, v_U, v_U, v_U]) rfl ?_
    exact h
  · replace h := h.2 hc
    refine x_aload_n dX11_findDealt_57 rfl rfl ?_
    refine y_getP dX11_findDealt_58 sh_79 cf_X11 fl_X11_70 (by decide) (by decide) gg_79_24 ?_
    refine x_sipush dX11_findDealt_61 (by decide) (by decide) ?_
    refine x_iload_n dX11_findDealt_64 rfl rfl ?_
    refine x_iconst dX11_findDealt_65 (by decide) ?_
    obtain ⟨s2, h⟩ := h
    refine x_iadd dX11_findDealt_66 s2 ?_
    obtain ⟨s3, h⟩ := h
    refine x_imul dX11_findDealt_67 s3 ?_
    refine x_iload_n dX11_findDealt_68 rfl rfl ?_
    obtain ⟨s4, h⟩ := h
    refine x_iadd dX11_findDealt_69 s4 ?_
    obtain ⟨s5, h⟩ := h
    refine x_iald dX11_findDealt_70 sh_100 s5 ?_
    refine y_istore_n (ls' := [v_P 79, v_I x1, v_I x2, v_I (M 100 (((256 * (x1 + 1)) + x2).toNat)), v_U, v_U]) dX11_findDealt_71 rfl (by decide) rfl ?_
    refine x_iload_n dX11_findDealt_72 rfl rfl ?_
    refine y_istore (ls' := [v_P 79, v_I x1, v_I x2, v_I (M 100 (((256 * (x1 + 1)) + x2).toNat)), v_I x2, v_U]) dX11_findDealt_73 (by decide) rfl ?_
    exact h
theorem wp_X11_findDealt_75 {x1 x2 x3 x4 : Int} {M : mM} {Q : Int → mM → Prop} (h : (x4 ≤ 0 → (m_ir (256 * x1)) ∧ (0 ≤ (256 * x1) ∧ (256 * x1) < 1536) ∧ (m_ir (x1 + 1)) ∧ (m_ir (256 * (x1 + 1))) ∧ (m_ir ((256 * (x1 + 1)) + x2)) ∧ (0 ≤ ((256 * (x1 + 1)) + x2) ∧ ((256 * (x1 + 1)) + x2) < 1792) ∧ (m_ir ((M 92 ((256 * x1).toNat)) + (M 100 (((256 * (x1 + 1)) + x2).toNat)))) ∧ (m_ir (256 * x1)) ∧ (m_ir ((256 * x1) + x2)) ∧ (((M 92 ((256 * x1).toNat)) + (M 100 (((256 * (x1 + 1)) + x2).toNat))) ≤ x3 → (0 ≤ ((256 * x1) + x2) ∧ ((256 * x1) + x2) < 1792) ∧ (m_ir (x2 + 1)) ∧ X_ kk_X11_findDealt 47 [v_P 79, v_I x1, v_I (x2 + 1), v_U, v_U, v_U] [] (m_up M 100 (((256 * x1) + x2).toNat) x3) Q) ∧ (¬ ((M 92 ((256 * x1).toNat)) + (M 100 (((256 * (x1 + 1)) + x2).toNat))) ≤ x3 → (0 ≤ ((256 * x1) + x2) ∧ ((256 * x1) + x2) < 1792) ∧ ∀ M13 : mM, M13 = m_up M 100 (((256 * x1) + x2).toNat) ((M 92 ((256 * x1).toNat)) + (M 100 (((256 * (x1 + 1)) + x2).toNat))) → (m_ir (x2 + 1)) ∧ X_ kk_X11_findDealt 47 [v_P 79, v_I x1, v_I (x2 + 1), v_U, v_U, v_U] [] M13 Q)) ∧ (¬ x4 ≤ 0 → (m_ir (256 * x1)) ∧ (m_ir ((256 * x1) + x4)) ∧ (0 ≤ ((256 * x1) + x4) ∧ ((256 * x1) + x4) < 1536) ∧ (m_ir (x1 + 1)) ∧ (m_ir (256 * (x1 + 1))) ∧ (m_ir ((256 * (x1 + 1)) + (m_and x2 (m_xor x4 (-1))))) ∧ (0 ≤ ((256 * (x1 + 1)) + (m_and x2 (m_xor x4 (-1)))) ∧ ((256 * (x1 + 1)) + (m_and x2 (m_xor x4 (-1)))) < 1792) ∧ (m_ir ((M 92 (((256 * x1) + x4).toNat)) + (M 100 (((256 * (x1 + 1)) + (m_and x2 (m_xor x4 (-1)))).toNat)))) ∧ (((M 92 (((256 * x1) + x4).toNat)) + (M 100 (((256 * (x1 + 1)) + (m_and x2 (m_xor x4 (-1)))).toNat))) ≤ x3 → (m_ir (x4 - 1)) ∧ X_ kk_X11_findDealt 75 [v_P 79, v_I x1, v_I x2, v_I x3, v_I (m_and (x4 - 1) x2), v_U] [] M Q) ∧ (¬ ((M 92 (((256 * x1) + x4).toNat)) + (M 100 (((256 * (x1 + 1)) + (m_and x2 (m_xor x4 (-1)))).toNat))) ≤ x3 → (m_ir (x4 - 1)) ∧ X_ kk_X11_findDealt 75 [v_P 79, v_I x1, v_I x2, v_I ((M 92 (((256 * x1) + x4).toNat)) + (M 100 (((256 * (x1 + 1)) + (m_and x2 (m_xor x4 (-1)))).toNat))), v_I (m_and (x4 - 1) x2), v_U] [] M Q))) : X_ kk_X11_findDealt 75 [v_P 79, v_I x1, v_I x2, v_I x3, v_I x4, v_U] [] M Q := by
  refine x_iload dX11_findDealt_75 rfl ?_
  refine x_if_le (tgt := 139) dX11_findDealt_77 (by decide) (fun hc => ?_) (fun hc => ?_)
  · replace h := h.1 hc
    refine x_aload_n dX11_findDealt_139 rfl rfl ?_
    refine y_getP dX11_findDealt_140 sh_79 cf_X11 fl_X11_46 (by decide) (by decide) gg_79_16 ?_
    refine x_sipush dX11_findDealt_143 (by decide) (by decide) ?_
    refine x_iload_n dX11_findDealt_146 rfl rfl ?_
    obtain ⟨s1, h⟩ := h
    refine x_imul dX11_findDealt_147 s1 ?_
    obtain ⟨s2, h⟩ := h
    refine x_iald dX11_findDealt_148 sh_92 s2 ?_
    refine x_aload_n dX11_findDealt_149 rfl rfl ?_
    refine y_getP dX11_findDealt_150 sh_79 cf_X11 fl_X11_70 (by decide) (by decide) gg_79_24 ?_
    refine x_sipush dX11_findDealt_153 (by decide) (by decide) ?_
    refine x_iload_n dX11_findDealt_156 rfl rfl ?_
    refine x_iconst dX11_findDealt_157 (by decide) ?_
    obtain ⟨s3, h⟩ := h
    refine x_iadd dX11_findDealt_158 s3 ?_
    obtain ⟨s4, h⟩ := h
    refine x_imul dX11_findDealt_159 s4 ?_
    refine x_iload_n dX11_findDealt_160 rfl rfl ?_
    obtain ⟨s5, h⟩ := h
    refine x_iadd dX11_findDealt_161 s5 ?_
    obtain ⟨s6, h⟩ := h
    refine x_iald dX11_findDealt_162 sh_100 s6 ?_
    obtain ⟨s7, h⟩ := h
    refine x_iadd dX11_findDealt_163 s7 ?_
    refine y_istore (ls' := [v_P 79, v_I x1, v_I x2, v_I x3, v_I ((M 92 ((256 * x1).toNat)) + (M 100 (((256 * (x1 + 1)) + x2).toNat))), v_U]) dX11_findDealt_164 (by decide) rfl ?_
    refine x_aload_n dX11_findDealt_166 rfl rfl ?_
    refine y_getP dX11_findDealt_167 sh_79 cf_X11 fl_X11_70 (by decide) (by decide) gg_79_24 ?_
    refine x_sipush dX11_findDealt_170 (by decide) (by decide) ?_
    refine x_iload_n dX11_findDealt_173 rfl rfl ?_
    obtain ⟨s8, h⟩ := h
    refine x_imul dX11_findDealt_174 s8 ?_
    refine x_iload_n dX11_findDealt_175 rfl rfl ?_
    obtain ⟨s9, h⟩ := h
    refine x_iadd dX11_findDealt_176 s9 ?_
    refine x_iload dX11_findDealt_177 rfl ?_
    refine x_iload_n dX11_findDealt_179 rfl rfl ?_
    refine x_ic_le (tgt := 188) dX11_findDealt_180 (by decide) (fun hc => ?_) (fun hc => ?_)
    · replace h := h.1 hc
      refine x_iload_n dX11_findDealt_188 rfl rfl ?_
      obtain ⟨s10, h⟩ := h
      refine x_iast dX11_findDealt_189 sh_100 s10 ?_
      obtain ⟨s11, h⟩ := h
      refine y_iinc (ls' := [v_P 79, v_I x1, v_I (x2 + 1), v_I x3, v_I ((M 92 ((256 * x1).toNat)) + (M 100 (((256 * (x1 + 1)) + x2).toNat))), v_U]) dX11_findDealt_190 rfl s11 (by decide) rfl ?_
      refine x_goto (tgt := 47) dX11_findDealt_193 (by decide) ?_
      refine y_forget 3 (ls' := [v_P 79, v_I x1, v_I (x2 + 1), v_U, v_I ((M 92 ((256 * x1).toNat)) + (M 100 (((256 * (x1 + 1)) + x2).toNat))), v_U]) rfl ?_
      refine y_forget 4 (ls' := [v_P 79, v_I x1, v_I (x2 + 1), v_U, v_U, v_U]) rfl ?_
      exact h
    · replace h := h.2 hc
      refine x_iload dX11_findDealt_183 rfl ?_
      refine x_goto (tgt := 189) dX11_findDealt_185 (by decide) ?_
      obtain ⟨s12, h⟩ := h
      refine x_iast dX11_findDealt_189 sh_100 s12 ?_
      obtain ⟨M13, e14⟩ : ∃ z : mM, z = m_up M 100 (((256 * x1) + x2).toNat) ((M 92 ((256 * x1).toNat)) + (M 100 (((256 * (x1 + 1)) + x2).toNat))) := ⟨_, rfl⟩
      rw [← e14]
      replace h := h M13 e14
      obtain ⟨s15, h⟩ := h
      refine y_iinc (ls' := [v_P 79, v_I x1, v_I (x2 + 1), v_I x3, v_I ((M 92 ((256 * x1).toNat)) + (M 100 (((256 * (x1 + 1)) + x2).toNat))), v_U]) dX11_findDealt_190 rfl s15 (by decide) rfl ?_
      refine x_goto (tgt := 47) dX11_findDealt_193 (by decide) ?_
      refine y_forget 3 (ls' := [v_P 79, v_I x1, v_I (x2 + 1), v_U, v_I ((M 92 ((256 * x1).toNat)) + (M 100 (((256 * (x1 + 1)) + x2).toNat))), v_U]) rfl ?_
      refine y_forget 4 (ls' := [v_P 79, v_I x1, v_I (x2 + 1), v_U, v_U, v_U]) rfl ?_
      exact h
  · replace h := h.2 hc
    refine x_aload_n dX11_findDealt_80 rfl rfl ?_
    refine y_getP dX11_findDealt_81 sh_79 cf_X11 fl_X11_46 (by decide) (by decide) gg_79_16 ?_
    refine x_sipush dX11_findDealt_84 (by decide) (by decide) ?_
    refine x_iload_n dX11_findDealt_87 rfl rfl ?_
    obtain ⟨s16, h⟩ := h
    refine x_imul dX11_findDealt_88 s16 ?_
    refine x_iload dX11_findDealt_89 rfl ?_
    obtain ⟨s17, h⟩ := h
    refine x_iadd dX11_findDealt_91 s17 ?_
    obtain ⟨s18, h⟩ := h
    refine x_iald dX11_findDealt_92 sh_92 s18 ?_
    refine x_aload_n dX11_findDealt_93 rfl rfl ?_
    refine y_getP dX11_findDealt_94 sh_79 cf_X11 fl_X11_70 (by decide) (by decide) gg_79_24 ?_
    refine x_sipush dX11_findDealt_97 (by decide) (by decide) ?_
    refine x_iload_n dX11_findDealt_100 rfl rfl ?_
    refine x_iconst dX11_findDealt_101 (by decide) ?_
    obtain ⟨s19, h⟩ := h
    refine x_iadd dX11_findDealt_102 s19 ?_
    obtain ⟨s20, h⟩ := h
    refine x_imul dX11_findDealt_103 s20 ?_
    refine x_iload_n dX11_findDealt_104 rfl rfl ?_
    refine x_iload dX11_findDealt_105 rfl ?_
    refine x_iconst dX11_findDealt_107 (by decide) ?_
    refine x_ixor dX11_findDealt_108 ?_
    refine x_iand dX11_findDealt_109 ?_
    obtain ⟨s21, h⟩ := h
    refine x_iadd dX11_findDealt_110 s21 ?_
    obtain ⟨s22, h⟩ := h
    refine x_iald dX11_findDealt_111 sh_100 s22 ?_
    obtain ⟨s23, h⟩ := h
    refine x_iadd dX11_findDealt_112 s23 ?_
    refine y_istore (ls' := [v_P 79, v_I x1, v_I x2, v_I x3, v_I x4, v_I ((M 92 (((256 * x1) + x4).toNat)) + (M 100 (((256 * (x1 + 1)) + (m_and x2 (m_xor x4 (-1)))).toNat)))]) dX11_findDealt_113 (by decide) rfl ?_
    refine x_iload dX11_findDealt_115 rfl ?_
    refine x_iload_n dX11_findDealt_117 rfl rfl ?_
    refine x_ic_le (tgt := 126) dX11_findDealt_118 (by decide) (fun hc => ?_) (fun hc => ?_)
    · replace h := h.1 hc
      refine x_iload_n dX11_findDealt_126 rfl rfl ?_
      refine y_istore_n (ls' := [v_P 79, v_I x1, v_I x2, v_I x3, v_I x4, v_I ((M 92 (((256 * x1) + x4).toNat)) + (M 100 (((256 * (x1 + 1)) + (m_and x2 (m_xor x4 (-1)))).toNat)))]) dX11_findDealt_127 rfl (by decide) rfl ?_
      refine x_iload dX11_findDealt_128 rfl ?_
      refine x_iconst dX11_findDealt_130 (by decide) ?_
      obtain ⟨s24, h⟩ := h
      refine x_isub dX11_findDealt_131 s24 ?_
      refine x_iload_n dX11_findDealt_132 rfl rfl ?_
      refine x_iand dX11_findDealt_133 ?_
      refine y_istore (ls' := [v_P 79, v_I x1, v_I x2, v_I x3, v_I (m_and (x4 - 1) x2), v_I ((M 92 (((256 * x1) + x4).toNat)) + (M 100 (((256 * (x1 + 1)) + (m_and x2 (m_xor x4 (-1)))).toNat)))]) dX11_findDealt_134 (by decide) rfl ?_
      refine x_goto (tgt := 75) dX11_findDealt_136 (by decide) ?_
      refine y_forget 5 (ls' := [v_P 79, v_I x1, v_I x2, v_I x3, v_I (m_and (x4 - 1) x2), v_U]) rfl ?_
      exact h
    · replace h := h.2 hc
      refine x_iload dX11_findDealt_121 rfl ?_
      refine x_goto (tgt := 127) dX11_findDealt_123 (by decide) ?_
      refine y_istore_n (ls' := [v_P 79, v_I x1, v_I x2, v_I ((M 92 (((256 * x1) + x4).toNat)) + (M 100 (((256 * (x1 + 1)) + (m_and x2 (m_xor x4 (-1)))).toNat))), v_I x4, v_I ((M 92 (((256 * x1) + x4).toNat)) + (M 100 (((256 * (x1 + 1)) + (m_and x2 (m_xor x4 (-1)))).toNat)))]) dX11_findDealt_127 rfl (by decide) rfl ?_
      refine x_iload dX11_findDealt_128 rfl ?_
      refine x_iconst dX11_findDealt_130 (by decide) ?_
      obtain ⟨s25, h⟩ := h
      refine x_isub dX11_findDealt_131 s25 ?_
      refine x_iload_n dX11_findDealt_132 rfl rfl ?_
      refine x_iand dX11_findDealt_133 ?_
      refine y_istore (ls' := [v_P 79, v_I x1, v_I x2, v_I ((M 92 (((256 * x1) + x4).toNat)) + (M 100 (((256 * (x1 + 1)) + (m_and x2 (m_xor x4 (-1)))).toNat))), v_I (m_and (x4 - 1) x2), v_I ((M 92 (((256 * x1) + x4).toNat)) + (M 100 (((256 * (x1 + 1)) + (m_and x2 (m_xor x4 (-1)))).toNat)))]) dX11_findDealt_134 (by decide) rfl ?_
      refine x_goto (tgt := 75) dX11_findDealt_136 (by decide) ?_
      refine y_forget 5 (ls' := [v_P 79, v_I x1, v_I x2, v_I ((M 92 (((256 * x1) + x4).toNat)) + (M 100 (((256 * (x1 + 1)) + (m_and x2 (m_xor x4 (-1)))).toNat))), v_I (m_and (x4 - 1) x2), v_U]) rfl ?_
      exact h
theorem wp_X11_dealtWorth_0 {M : mM} {Q : Int → mM → Prop} (h : (m_ir ((m_shl 1 (M 79 4)) - 1)) ∧ (0 ≤ ((m_shl 1 (M 79 4)) - 1) ∧ ((m_shl 1 (M 79 4)) - 1) < 1792) ∧ Q (M 100 (((m_shl 1 (M 79 4)) - 1).toNat)) M) : X_ kk_X11_dealtWorth 0 [v_P 79] [] M Q := by
  refine x_aload_n dX11_dealtWorth_0 rfl rfl ?_
  refine y_getP dX11_dealtWorth_1 sh_79 cf_X11 fl_X11_70 (by decide) (by decide) gg_79_24 ?_
  refine x_iconst dX11_dealtWorth_4 (by decide) ?_
  refine x_aload_n dX11_dealtWorth_5 rfl rfl ?_
  refine x_getI dX11_dealtWorth_6 sh_79 cf_X11 fl_X11_107 (by decide) (by decide) ?_
  refine x_ishl dX11_dealtWorth_9 ?_
  refine x_iconst dX11_dealtWorth_10 (by decide) ?_
  obtain ⟨s1, h⟩ := h
  refine x_isub dX11_dealtWorth_11 s1 ?_
  obtain ⟨s2, h⟩ := h
  refine x_iald dX11_dealtWorth_12 sh_100 s2 ?_
  refine x_iret dX11_dealtWorth_13 rfl (Or.inl rfl) (fun _ _ => h)
theorem wp_X11_dealt_0 {x1 : Int} {M : mM} {Q : Int → mM → Prop} (h : (x1 = (-1) → ∃ Qc1 : Int → mM → Prop, C_ kk_X11_layWorths [v_P 79] M Qc1 ∧ ∀ (r2 : Int) (M3 : mM), m_ir r2 → m_okM M3 → Qc1 r2 M3 → ∃ Qc8 : Int → mM → Prop, C_ kk_X11_findDealt [v_P 79] M3 Qc8 ∧ ∀ (r9 : Int) (M10 : mM), m_ir r9 → m_okM M10 → Qc8 r9 M10 → (¬ x1 = (-1) → (m_ir ((m_shl 1 (M10 79 4)) - 1)) ∧ X_ kk_X11_dealt 47 [v_P 79, v_I x1, v_I ((m_shl 1 (M10 79 4)) - 1), v_I 0, v_I 0] [] M10 Q) ∧ (x1 = (-1) → ∃ Qc16 : Int → mM → Prop, C_ kk_X11_dealtWorth [v_P 79] M10 Qc16 ∧ ∀ (r17 : Int) (M18 : mM), m_ir r17 → m_okM M18 → Qc16 r17 M18 → Q r17 M18)) ∧ (¬ x1 = (-1) → (0 ≤ M 79 8) ∧ (0 ≤ x1 ∧ x1 < M 79 8 → ∃ Qc23 : Int → mM → Prop, C_ kk_X11_layWorths [v_P 79] M Qc23 ∧ ∀ (r24 : Int) (M25 : mM), m_ir r24 → m_okM M25 → Qc23 r24 M25 → ∃ Qc30 : Int → mM → Prop, C_ kk_X11_findDealt [v_P 79] M25 Qc30 ∧ ∀ (r31 : Int) (M32 : mM), m_ir r31 → m_okM M32 → Qc30 r31 M32 → (¬ x1 = (-1) → (m_ir ((m_shl 1 (M32 79 4)) - 1)) ∧ X_ kk_X11_dealt 47 [v_P 79, v_I x1, v_I ((m_shl 1 (M32 79 4)) - 1), v_I 0, v_I 0] [] M32 Q) ∧ (x1 = (-1) → ∃ Qc38 : Int → mM → Prop, C_ kk_X11_dealtWorth [v_P 79] M32 Qc38 ∧ ∀ (r39 : Int) (M40 : mM), m_ir r39 → m_okM M40 → Qc38 r39 M40 → Q r39 M40)) ∧ (¬ (0 ≤ x1 ∧ x1 < M 79 8) → Q (-1) M))) : X_ kk_X11_dealt 0 [v_P 79, v_I x1, v_U, v_U, v_U] [] M Q := by
  refine x_iload_n dX11_dealt_0 rfl rfl ?_
  refine x_iconst dX11_dealt_1 (by decide) ?_
  refine x_ic_eq (tgt := 15) dX11_dealt_2 (by decide) (fun hc => ?_) (fun hc => ?_)
  · replace h := h.1 hc
    refine x_aload_n dX11_dealt_15 rfl rfl ?_
    obtain ⟨Qc1, hc4, h⟩ := h
    refine x_callV (as := []) (st := []) (Qc := Qc1) dX11_dealt_16 mt_X11_layWorths ml_X11_182 ⟨by decide, by decide⟩ sh_79 rfl (fun _ _ => Nat.le_of_ble_eq_true rfl) hc4 (fun r2 M3 hr5 hM6 hq7 => ?_)
    replace h := h r2 M3 hr5 hM6 hq7
    change X_ kk_X11_dealt 19 [v_P 79, v_I x1, v_U, v_U, v_U] [] M3 Q
    refine x_aload_n dX11_dealt_19 rfl rfl ?_
    obtain ⟨Qc8, hc11, h⟩ := h
    refine x_callV (as := []) (st := []) (Qc := Qc8) dX11_dealt_20 mt_X11_findDealt ml_X11_195 ⟨by decide, by decide⟩ sh_79 rfl (fun _ _ => Nat.le_of_ble_eq_true rfl) hc11 (fun r9 M10 hr12 hM13 hq14 => ?_)
    replace h := h r9 M10 hr12 hM13 hq14
    change X_ kk_X11_dealt 23 [v_P 79, v_I x1, v_U, v_U, v_U] [] M10 Q
    refine x_iload_n dX11_dealt_23 rfl rfl ?_
    refine x_iconst dX11_dealt_24 (by decide) ?_
    refine x_ic_ne (tgt := 33) dX11_dealt_25 (by decide) (fun hc => ?_) (fun hc => ?_)
    · replace h := h.1 hc
      refine x_iconst dX11_dealt_33 (by decide) ?_
      refine x_aload_n dX11_dealt_34 rfl rfl ?_
      refine x_getI dX11_dealt_35 sh_79 cf_X11 fl_X11_107 (by decide) (by decide) ?_
      refine x_ishl dX11_dealt_38 ?_
      refine x_iconst dX11_dealt_39 (by decide) ?_
      obtain ⟨s15, h⟩ := h
      refine x_isub dX11_dealt_40 s15 ?_
      refine y_istore_n (ls' := [v_P 79, v_I x1, v_I ((m_shl 1 (M10 79 4)) - 1), v_U, v_U]) dX11_dealt_41 rfl (by decide) rfl ?_
      refine x_iconst dX11_dealt_42 (by decide) ?_
      refine y_istore_n (ls' := [v_P 79, v_I x1, v_I ((m_shl 1 (M10 79 4)) - 1), v_I 0, v_U]) dX11_dealt_43 rfl (by decide) rfl ?_
      refine x_iconst dX11_dealt_44 (by decide) ?_
      refine y_istore (ls' := [v_P 79, v_I x1, v_I ((m_shl 1 (M10 79 4)) - 1), v_I 0, v_I 0]) dX11_dealt_45 (by decide) rfl ?_
      exact h
    · replace h := h.2 hc
      refine x_aload_n dX11_dealt_28 rfl rfl ?_
      obtain ⟨Qc16, hc19, h⟩ := h
      refine x_callV (as := []) (st := []) (Qc := Qc16) dX11_dealt_29 mt_X11_dealtWorth ml_X11_198 ⟨by decide, by decide⟩ sh_79 rfl (fun _ _ => Nat.le_of_ble_eq_true rfl) hc19 (fun r17 M18 hr20 hM21 hq22 => ?_)
      replace h := h r17 M18 hr20 hM21 hq22
      change X_ kk_X11_dealt 32 [v_P 79, v_I x1, v_U, v_U, v_U] [v_I r17] M18 Q
      refine x_iret dX11_dealt_32 rfl (Or.inl rfl) (fun _ _ => h)
  · replace h := h.2 hc
    refine x_aload_n dX11_dealt_5 rfl rfl ?_
    refine x_iload_n dX11_dealt_6 rfl rfl ?_
    obtain ⟨s45, h⟩ := h
    refine x_isBuyer (st := []) dX11_dealt_7 ml_X11_123 ⟨by decide, by decide⟩ (fun _ _ => Nat.le_of_ble_eq_true rfl) s45 (fun hc => ?_) (fun hc => ?_)
    · change X_ kk_X11_dealt 10 [v_P 79, v_I x1, v_U, v_U, v_U] [v_I 1] M Q
      replace h := h.1 hc
      refine x_if_ne (tgt := 15) dX11_dealt_10 (by decide) (fun _ => ?_) (fun hc => absurd hc (by decide))
      refine x_aload_n dX11_dealt_15 rfl rfl ?_
      obtain ⟨Qc23, hc26, h⟩ := h
      refine x_callV (as := []) (st := []) (Qc := Qc23) dX11_dealt_16 mt_X11_layWorths ml_X11_182 ⟨by decide, by decide⟩ sh_79 rfl (fun _ _ => Nat.le_of_ble_eq_true rfl) hc26 (fun r24 M25 hr27 hM28 hq29 => ?_)
      replace h := h r24 M25 hr27 hM28 hq29
      change X_ kk_X11_dealt 19 [v_P 79, v_I x1, v_U, v_U, v_U] [] M25 Q
      refine x_aload_n dX11_dealt_19 rfl rfl ?_
      obtain ⟨Qc30, hc33, h⟩ := h
      refine x_callV (as := []) (st := []) (Qc := Qc30) dX11_dealt_20 mt_X11_findDealt ml_X11_195 ⟨by decide, by decide⟩ sh_79 rfl (fun _ _ => Nat.le_of_ble_eq_true rfl) hc33 (fun r31 M32 hr34 hM35 hq36 => ?_)
      replace h := h r31 M32 hr34 hM35 hq36
      change X_ kk_X11_dealt 23 [v_P 79, v_I x1, v_U, v_U, v_U] [] M32 Q
      refine x_iload_n dX11_dealt_23 rfl rfl ?_
      refine x_iconst dX11_dealt_24 (by decide) ?_
      refine x_ic_ne (tgt := 33) dX11_dealt_25 (by decide) (fun hc => ?_) (fun hc => ?_)
      · replace h := h.1 hc
        refine x_iconst dX11_dealt_33 (by decide) ?_
        refine x_aload_n dX11_dealt_34 rfl rfl ?_
        refine x_getI dX11_dealt_35 sh_79 cf_X11 fl_X11_107 (by decide) (by decide) ?_
        refine x_ishl dX11_dealt_38 ?_
        refine x_iconst dX11_dealt_39 (by decide) ?_
        obtain ⟨s37, h⟩ := h
        refine x_isub dX11_dealt_40 s37 ?_
        refine y_istore_n (ls' := [v_P 79, v_I x1, v_I ((m_shl 1 (M32 79 4)) - 1), v_U, v_U]) dX11_dealt_41 rfl (by decide) rfl ?_
        refine x_iconst dX11_dealt_42 (by decide) ?_
        refine y_istore_n (ls' := [v_P 79, v_I x1, v_I ((m_shl 1 (M32 79 4)) - 1), v_I 0, v_U]) dX11_dealt_43 rfl (by decide) rfl ?_
        refine x_iconst dX11_dealt_44 (by decide) ?_
        refine y_istore (ls' := [v_P 79, v_I x1, v_I ((m_shl 1 (M32 79 4)) - 1), v_I 0, v_I 0]) dX11_dealt_45 (by decide) rfl ?_
        exact h
      · replace h := h.2 hc
        refine x_aload_n dX11_dealt_28 rfl rfl ?_
        obtain ⟨Qc38, hc41, h⟩ := h
        refine x_callV (as := []) (st := []) (Qc := Qc38) dX11_dealt_29 mt_X11_dealtWorth ml_X11_198 ⟨by decide, by decide⟩ sh_79 rfl (fun _ _ => Nat.le_of_ble_eq_true rfl) hc41 (fun r39 M40 hr42 hM43 hq44 => ?_)
        replace h := h r39 M40 hr42 hM43 hq44
        change X_ kk_X11_dealt 32 [v_P 79, v_I x1, v_U, v_U, v_U] [v_I r39] M40 Q
        refine x_iret dX11_dealt_32 rfl (Or.inl rfl) (fun _ _ => h)
    · change X_ kk_X11_dealt 10 [v_P 79, v_I x1, v_U, v_U, v_U] [v_I 0] M Q
      replace h := h.2 hc
      refine x_if_ne (tgt := 15) dX11_dealt_10 (by decide) (fun hc => absurd hc (by decide)) (fun _ => ?_)
      refine x_iconst dX11_dealt_13 (by decide) ?_
      refine x_iret dX11_dealt_14 rfl (Or.inl rfl) (fun _ _ => h)
theorem wp_X11_dealt_47 {x1 x2 x3 x4 : Int} {M : mM} {Q : Int → mM → Prop} (h : (x1 < x4 → Q x3 M) ∧ (¬ x1 < x4 → X_ kk_X11_dealt 55 [v_P 79, v_I x1, v_I x2, v_I 0, v_I x4] [] M Q)) : X_ kk_X11_dealt 47 [v_P 79, v_I x1, v_I x2, v_I x3, v_I x4] [] M Q := by
  refine x_iload dX11_dealt_47 rfl ?_
  refine x_iload_n dX11_dealt_49 rfl rfl ?_
  refine x_ic_gt (tgt := 130) dX11_dealt_50 (by decide) (fun hc => ?_) (fun hc => ?_)
  · replace h := h.1 hc
    refine x_iload_n dX11_dealt_130 rfl rfl ?_
    refine x_iret dX11_dealt_131 rfl (Or.inl rfl) (fun _ _ => h)
  · replace h := h.2 hc
    refine x_iconst dX11_dealt_53 (by decide) ?_
    refine y_istore_n (ls' := [v_P 79, v_I x1, v_I x2, v_I 0, v_I x4]) dX11_dealt_54 rfl (by decide) rfl ?_
    exact h
theorem wp_X11_dealt_55 {x1 x2 x3 x4 : Int} {M : mM} {Q : Int → mM → Prop} (h : (¬ (m_and x3 (m_xor x2 (-1))) = 0 → (m_ir (x3 + 1)) ∧ X_ kk_X11_dealt 55 [v_P 79, v_I x1, v_I x2, v_I (x3 + 1), v_I x4] [] M Q) ∧ ((m_and x3 (m_xor x2 (-1))) = 0 → (m_ir (256 * x4)) ∧ (m_ir ((256 * x4) + x3)) ∧ (0 ≤ ((256 * x4) + x3) ∧ ((256 * x4) + x3) < 1536) ∧ (m_ir (x4 + 1)) ∧ (m_ir (256 * (x4 + 1))) ∧ (m_ir ((256 * (x4 + 1)) + (m_and x2 (m_xor x3 (-1))))) ∧ (0 ≤ ((256 * (x4 + 1)) + (m_and x2 (m_xor x3 (-1)))) ∧ ((256 * (x4 + 1)) + (m_and x2 (m_xor x3 (-1)))) < 1792) ∧ (m_ir ((M 92 (((256 * x4) + x3).toNat)) + (M 100 (((256 * (x4 + 1)) + (m_and x2 (m_xor x3 (-1)))).toNat)))) ∧ (m_ir (256 * x4)) ∧ (m_ir ((256 * x4) + x2)) ∧ (0 ≤ ((256 * x4) + x2) ∧ ((256 * x4) + x2) < 1792) ∧ (((M 92 (((256 * x4) + x3).toNat)) + (M 100 (((256 * (x4 + 1)) + (m_and x2 (m_xor x3 (-1)))).toNat))) = (M 100 (((256 * x4) + x2).toNat)) → (m_ir (x4 + 1)) ∧ X_ kk_X11_dealt 47 [v_P 79, v_I x1, v_I (m_and x2 (m_xor x3 (-1))), v_I x3, v_I (x4 + 1)] [] M Q) ∧ (¬ ((M 92 (((256 * x4) + x3).toNat)) + (M 100 (((256 * (x4 + 1)) + (m_and x2 (m_xor x3 (-1)))).toNat))) = (M 100 (((256 * x4) + x2).toNat)) → (m_ir (x3 + 1)) ∧ X_ kk_X11_dealt 55 [v_P 79, v_I x1, v_I x2, v_I (x3 + 1), v_I x4] [] M Q))) : X_ kk_X11_dealt 55 [v_P 79, v_I x1, v_I x2, v_I x3, v_I x4] [] M Q := by
  refine x_iload_n dX11_dealt_55 rfl rfl ?_
  refine x_iload_n dX11_dealt_56 rfl rfl ?_
  refine x_iconst dX11_dealt_57 (by decide) ?_
  refine x_ixor dX11_dealt_58 ?_
  refine x_iand dX11_dealt_59 ?_
  refine x_if_ne (tgt := 112) dX11_dealt_60 (by decide) (fun hc => ?_) (fun hc => ?_)
  · replace h := h.1 hc
    obtain ⟨s1, h⟩ := h
    refine y_iinc (ls' := [v_P 79, v_I x1, v_I x2, v_I (x3 + 1), v_I x4]) dX11_dealt_112 rfl s1 (by decide) rfl ?_
    refine x_goto (tgt := 55) dX11_dealt_115 (by decide) ?_
    exact h
  · replace h := h.2 hc
    refine x_aload_n dX11_dealt_63 rfl rfl ?_
    refine y_getP dX11_dealt_64 sh_79 cf_X11 fl_X11_46 (by decide) (by decide) gg_79_16 ?_
    refine x_sipush dX11_dealt_67 (by decide) (by decide) ?_
    refine x_iload dX11_dealt_70 rfl ?_
    obtain ⟨s2, h⟩ := h
    refine x_imul dX11_dealt_72 s2 ?_
    refine x_iload_n dX11_dealt_73 rfl rfl ?_
    obtain ⟨s3, h⟩ := h
    refine x_iadd dX11_dealt_74 s3 ?_
    obtain ⟨s4, h⟩ := h
    refine x_iald dX11_dealt_75 sh_92 s4 ?_
    refine x_aload_n dX11_dealt_76 rfl rfl ?_
    refine y_getP dX11_dealt_77 sh_79 cf_X11 fl_X11_70 (by decide) (by decide) gg_79_24 ?_
    refine x_sipush dX11_dealt_80 (by decide) (by decide) ?_
    refine x_iload dX11_dealt_83 rfl ?_
    refine x_iconst dX11_dealt_85 (by decide) ?_
    obtain ⟨s5, h⟩ := h
    refine x_iadd dX11_dealt_86 s5 ?_
    obtain ⟨s6, h⟩ := h
    refine x_imul dX11_dealt_87 s6 ?_
    refine x_iload_n dX11_dealt_88 rfl rfl ?_
    refine x_iload_n dX11_dealt_89 rfl rfl ?_
    refine x_iconst dX11_dealt_90 (by decide) ?_
    refine x_ixor dX11_dealt_91 ?_
    refine x_iand dX11_dealt_92 ?_
    obtain ⟨s7, h⟩ := h
    refine x_iadd dX11_dealt_93 s7 ?_
    obtain ⟨s8, h⟩ := h
    refine x_iald dX11_dealt_94 sh_100 s8 ?_
    obtain ⟨s9, h⟩ := h
    refine x_iadd dX11_dealt_95 s9 ?_
    refine x_aload_n dX11_dealt_96 rfl rfl ?_
    refine y_getP dX11_dealt_97 sh_79 cf_X11 fl_X11_70 (by decide) (by decide) gg_79_24 ?_
    refine x_sipush dX11_dealt_100 (by decide) (by decide) ?_
    refine x_iload dX11_dealt_103 rfl ?_
    obtain ⟨s10, h⟩ := h
    refine x_imul dX11_dealt_105 s10 ?_
    refine x_iload_n dX11_dealt_106 rfl rfl ?_
    obtain ⟨s11, h⟩ := h
    refine x_iadd dX11_dealt_107 s11 ?_
    obtain ⟨s12, h⟩ := h
    refine x_iald dX11_dealt_108 sh_100 s12 ?_
    refine x_ic_eq (tgt := 118) dX11_dealt_109 (by decide) (fun hc => ?_) (fun hc => ?_)
    · replace h := h.1 hc
      refine x_iload_n dX11_dealt_118 rfl rfl ?_
      refine x_iload_n dX11_dealt_119 rfl rfl ?_
      refine x_iconst dX11_dealt_120 (by decide) ?_
      refine x_ixor dX11_dealt_121 ?_
      refine x_iand dX11_dealt_122 ?_
      refine y_istore_n (ls' := [v_P 79, v_I x1, v_I (m_and x2 (m_xor x3 (-1))), v_I x3, v_I x4]) dX11_dealt_123 rfl (by decide) rfl ?_
      obtain ⟨s13, h⟩ := h
      refine y_iinc (ls' := [v_P 79, v_I x1, v_I (m_and x2 (m_xor x3 (-1))), v_I x3, v_I (x4 + 1)]) dX11_dealt_124 rfl s13 (by decide) rfl ?_
      refine x_goto (tgt := 47) dX11_dealt_127 (by decide) ?_
      exact h
    · replace h := h.2 hc
      obtain ⟨s14, h⟩ := h
      refine y_iinc (ls' := [v_P 79, v_I x1, v_I x2, v_I (x3 + 1), v_I x4]) dX11_dealt_112 rfl s14 (by decide) rfl ?_
      refine x_goto (tgt := 55) dX11_dealt_115 (by decide) ?_
      exact h
theorem wp_X11_price_0 {x1 x2 : Int} {M : mM} {Q : Int → mM → Prop} (h : (0 ≤ M 79 4) ∧ (0 ≤ x1 ∧ x1 < M 79 4 → (0 ≤ x2 ∧ x2 ≤ 1000 → (0 ≤ x1 ∧ x1 < 8) ∧ (0 ≤ x1 ∧ x1 < 8) ∧ Q (M 101 x1.toNat) (m_up M 101 x1.toNat x2)) ∧ (¬ (0 ≤ x2 ∧ x2 ≤ 1000) → Q (-2) M)) ∧ (¬ (0 ≤ x1 ∧ x1 < M 79 4) → Q (-1) M)) : X_ kk_X11_price 0 [v_P 79, v_I x1, v_I x2, v_U] [] M Q := by
  refine x_aload_n dX11_price_0 rfl rfl ?_
  refine x_iload_n dX11_price_1 rfl rfl ?_
  obtain ⟨s3, h⟩ := h
  refine x_isLot (st := []) dX11_price_2 ml_X11_169 ⟨by decide, by decide⟩ (fun _ _ => Nat.le_of_ble_eq_true rfl) s3 (fun hc => ?_) (fun hc => ?_)
  · change X_ kk_X11_price 5 [v_P 79, v_I x1, v_I x2, v_U] [v_I 1] M Q
    replace h := h.1 hc
    refine x_if_ne (tgt := 10) dX11_price_5 (by decide) (fun _ => ?_) (fun hc => absurd hc (by decide))
    refine x_iload_n dX11_price_10 rfl rfl ?_
    refine x_i2l dX11_price_11 ?_
    refine x_lconst (z := 0) dX11_price_12 (by decide) (by decide) ?_
    refine x_ldc2 (z := 1000) dX11_price_13 cl_X11_127 (by decide) (by decide) ?_
    refine x_in (st := []) dX11_price_16 ml_X11_110 ⟨by decide, by decide⟩ (fun _ _ => Nat.le_of_ble_eq_true rfl) (fun hc => ?_) (fun hc => ?_)
    · change X_ kk_X11_price 19 [v_P 79, v_I x1, v_I x2, v_U] [v_I 1] M Q
      replace h := h.1 hc
      refine x_if_ne (tgt := 25) dX11_price_19 (by decide) (fun _ => ?_) (fun hc => absurd hc (by decide))
      refine x_aload_n dX11_price_25 rfl rfl ?_
      refine y_getP dX11_price_26 sh_79 cf_X11 fl_X11_73 (by decide) (by decide) gg_79_25 ?_
      refine x_iload_n dX11_price_29 rfl rfl ?_
      obtain ⟨s1, h⟩ := h
      refine x_iald dX11_price_30 sh_101 s1 ?_
      refine y_istore_n (ls' := [v_P 79, v_I x1, v_I x2, v_I (M 101 x1.toNat)]) dX11_price_31 rfl (by decide) rfl ?_
      refine x_aload_n dX11_price_32 rfl rfl ?_
      refine y_getP dX11_price_33 sh_79 cf_X11 fl_X11_73 (by decide) (by decide) gg_79_25 ?_
      refine x_iload_n dX11_price_36 rfl rfl ?_
      refine x_iload_n dX11_price_37 rfl rfl ?_
      obtain ⟨s2, h⟩ := h
      refine x_iast dX11_price_38 sh_101 s2 ?_
      refine x_iload_n dX11_price_39 rfl rfl ?_
      refine x_iret dX11_price_40 rfl (Or.inl rfl) (fun _ _ => h)
    · change X_ kk_X11_price 19 [v_P 79, v_I x1, v_I x2, v_U] [v_I 0] M Q
      replace h := h.2 hc
      refine x_if_ne (tgt := 25) dX11_price_19 (by decide) (fun hc => absurd hc (by decide)) (fun _ => ?_)
      refine x_bipush dX11_price_22 (by decide) (by decide) ?_
      refine x_iret dX11_price_24 rfl (Or.inl rfl) (fun _ _ => h)
  · change X_ kk_X11_price 5 [v_P 79, v_I x1, v_I x2, v_U] [v_I 0] M Q
    replace h := h.2 hc
    refine x_if_ne (tgt := 10) dX11_price_5 (by decide) (fun hc => absurd hc (by decide)) (fun _ => ?_)
    refine x_iconst dX11_price_8 (by decide) ?_
    refine x_iret dX11_price_9 rfl (Or.inl rfl) (fun _ _ => h)
theorem wp_X11_costOf_0 {x1 : Int} {q2 : Nat} {M : mM} {Q : Int → mM → Prop} (hq2 : m_sh q2 = (20, 8)) (h : X_ kk_X11_costOf 5 [v_P 79, v_I x1, v_P q2, v_I 0, v_I 0] [] M Q) : X_ kk_X11_costOf 0 [v_P 79, v_I x1, v_P q2, v_U, v_U] [] M Q := by
  refine x_iconst dX11_costOf_0 (by decide) ?_
  refine y_istore_n (ls' := [v_P 79, v_I x1, v_P q2, v_I 0, v_U]) dX11_costOf_1 rfl (by decide) rfl ?_
  refine x_iconst dX11_costOf_2 (by decide) ?_
  refine y_istore (ls' := [v_P 79, v_I x1, v_P q2, v_I 0, v_I 0]) dX11_costOf_3 (by decide) rfl ?_
  exact h
theorem wp_X11_costOf_5 {x1 x3 x4 : Int} {q2 : Nat} {M : mM} {Q : Int → mM → Prop} (hq2 : m_sh q2 = (20, 8)) (h : ((M 79 4) ≤ x4 → Q x3 M) ∧ (¬ (M 79 4) ≤ x4 → (¬ (m_and (m_shr x1 x4) 1) = 1 → (m_ir (x3 + 0)) ∧ (m_ir (x4 + 1)) ∧ X_ kk_X11_costOf 5 [v_P 79, v_I x1, v_P q2, v_I (x3 + 0), v_I (x4 + 1)] [] M Q) ∧ ((m_and (m_shr x1 x4) 1) = 1 → (0 ≤ x4 ∧ x4 < 8) ∧ (m_ir (x3 + (M q2 x4.toNat))) ∧ (m_ir (x4 + 1)) ∧ X_ kk_X11_costOf 5 [v_P 79, v_I x1, v_P q2, v_I (x3 + (M q2 x4.toNat)), v_I (x4 + 1)] [] M Q))) : X_ kk_X11_costOf 5 [v_P 79, v_I x1, v_P q2, v_I x3, v_I x4] [] M Q := by
  refine x_iload dX11_costOf_5 rfl ?_
  refine x_aload_n dX11_costOf_7 rfl rfl ?_
  refine x_getI dX11_costOf_8 sh_79 cf_X11 fl_X11_107 (by decide) (by decide) ?_
  refine x_ic_ge (tgt := 41) dX11_costOf_11 (by decide) (fun hc => ?_) (fun hc => ?_)
  · replace h := h.1 hc
    refine x_iload_n dX11_costOf_41 rfl rfl ?_
    refine x_iret dX11_costOf_42 rfl (Or.inl rfl) (fun _ _ => h)
  · replace h := h.2 hc
    refine x_iload_n dX11_costOf_14 rfl rfl ?_
    refine x_iload_n dX11_costOf_15 rfl rfl ?_
    refine x_iload dX11_costOf_16 rfl ?_
    refine x_ishr dX11_costOf_18 ?_
    refine x_iconst dX11_costOf_19 (by decide) ?_
    refine x_iand dX11_costOf_20 ?_
    refine x_iconst dX11_costOf_21 (by decide) ?_
    refine x_ic_ne (tgt := 32) dX11_costOf_22 (by decide) (fun hc => ?_) (fun hc => ?_)
    · replace h := h.1 hc
      refine x_iconst dX11_costOf_32 (by decide) ?_
      obtain ⟨s1, h⟩ := h
      refine x_iadd dX11_costOf_33 s1 ?_
      refine y_istore_n (ls' := [v_P 79, v_I x1, v_P q2, v_I (x3 + 0), v_I x4]) dX11_costOf_34 rfl (by decide) rfl ?_
      obtain ⟨s2, h⟩ := h
      refine y_iinc (ls' := [v_P 79, v_I x1, v_P q2, v_I (x3 + 0), v_I (x4 + 1)]) dX11_costOf_35 rfl s2 (by decide) rfl ?_
      refine x_goto (tgt := 5) dX11_costOf_38 (by decide) ?_
      exact h
    · replace h := h.2 hc
      refine x_aload_n dX11_costOf_25 rfl rfl ?_
      refine x_iload dX11_costOf_26 rfl ?_
      obtain ⟨s3, h⟩ := h
      refine x_iald dX11_costOf_28 hq2 s3 ?_
      refine x_goto (tgt := 33) dX11_costOf_29 (by decide) ?_
      obtain ⟨s4, h⟩ := h
      refine x_iadd dX11_costOf_33 s4 ?_
      refine y_istore_n (ls' := [v_P 79, v_I x1, v_P q2, v_I (x3 + (M q2 x4.toNat)), v_I x4]) dX11_costOf_34 rfl (by decide) rfl ?_
      obtain ⟨s5, h⟩ := h
      refine y_iinc (ls' := [v_P 79, v_I x1, v_P q2, v_I (x3 + (M q2 x4.toNat)), v_I (x4 + 1)]) dX11_costOf_35 rfl s5 (by decide) rfl ?_
      refine x_goto (tgt := 5) dX11_costOf_38 (by decide) ?_
      exact h
theorem wp_X11_liked_0 {x1 : Int} {q2 : Nat} {M : mM} {Q : Int → mM → Prop} (hq2 : m_sh q2 = (20, 8)) (h : (m_ir (256 * x1)) ∧ (0 ≤ (256 * x1) ∧ (256 * x1) < 1536) ∧ X_ kk_X11_liked 17 [v_P 79, v_I x1, v_P q2, v_I 0, v_I (M 92 ((256 * x1).toNat)), v_I 1, v_U] [] M Q) : X_ kk_X11_liked 0 [v_P 79, v_I x1, v_P q2, v_U, v_U, v_U, v_U] [] M Q := by
  refine x_iconst dX11_liked_0 (by decide) ?_
  refine y_istore_n (ls' := [v_P 79, v_I x1, v_P q2, v_I 0, v_U, v_U, v_U]) dX11_liked_1 rfl (by decide) rfl ?_
  refine x_aload_n dX11_liked_2 rfl rfl ?_
  refine y_getP dX11_liked_3 sh_79 cf_X11 fl_X11_46 (by decide) (by decide) gg_79_16 ?_
  refine x_sipush dX11_liked_6 (by decide) (by decide) ?_
  refine x_iload_n dX11_liked_9 rfl rfl ?_
  obtain ⟨s1, h⟩ := h
  refine x_imul dX11_liked_10 s1 ?_
  obtain ⟨s2, h⟩ := h
  refine x_iald dX11_liked_11 sh_92 s2 ?_
  refine y_istore (ls' := [v_P 79, v_I x1, v_P q2, v_I 0, v_I (M 92 ((256 * x1).toNat)), v_U, v_U]) dX11_liked_12 (by decide) rfl ?_
  refine x_iconst dX11_liked_14 (by decide) ?_
  refine y_istore (ls' := [v_P 79, v_I x1, v_P q2, v_I 0, v_I (M 92 ((256 * x1).toNat)), v_I 1, v_U]) dX11_liked_15 (by decide) rfl ?_
  exact h
theorem wp_X11_liked_17 {x1 x3 x4 x5 : Int} {q2 : Nat} {M : mM} {Q : Int → mM → Prop} (hq2 : m_sh q2 = (20, 8)) (h : ((m_shl 1 (M 79 4)) ≤ x5 → Q x3 M) ∧ (¬ (m_shl 1 (M 79 4)) ≤ x5 → (m_ir (256 * x1)) ∧ (m_ir ((256 * x1) + x5)) ∧ (0 ≤ ((256 * x1) + x5) ∧ ((256 * x1) + x5) < 1536) ∧ ∃ Qc4 : Int → mM → Prop, C_ kk_X11_costOf [v_P 79, v_I x5, v_P q2] M Qc4 ∧ ∀ (r5 : Int) (M6 : mM), m_ir r5 → m_okM M6 → Qc4 r5 M6 → (m_ir ((M 92 (((256 * x1) + x5).toNat)) - r5)) ∧ (((M 92 (((256 * x1) + x5).toNat)) - r5) ≤ x4 → (m_ir (x5 + 1)) ∧ X_ kk_X11_liked 17 [v_P 79, v_I x1, v_P q2, v_I x3, v_I x4, v_I (x5 + 1), v_U] [] M6 Q) ∧ (¬ ((M 92 (((256 * x1) + x5).toNat)) - r5) ≤ x4 → (m_ir (x5 + 1)) ∧ X_ kk_X11_liked 17 [v_P 79, v_I x1, v_P q2, v_I x5, v_I ((M 92 (((256 * x1) + x5).toNat)) - r5), v_I (x5 + 1), v_U] [] M6 Q))) : X_ kk_X11_liked 17 [v_P 79, v_I x1, v_P q2, v_I x3, v_I x4, v_I x5, v_U] [] M Q := by
  refine x_iload dX11_liked_17 rfl ?_
  refine x_iconst dX11_liked_19 (by decide) ?_
  refine x_aload_n dX11_liked_20 rfl rfl ?_
  refine x_getI dX11_liked_21 sh_79 cf_X11 fl_X11_107 (by decide) (by decide) ?_
  refine x_ishl dX11_liked_24 ?_
  refine x_ic_ge (tgt := 71) dX11_liked_25 (by decide) (fun hc => ?_) (fun hc => ?_)
  · replace h := h.1 hc
    refine x_iload_n dX11_liked_71 rfl rfl ?_
    refine x_iret dX11_liked_72 rfl (Or.inl rfl) (fun _ _ => h)
  · replace h := h.2 hc
    refine x_aload_n dX11_liked_28 rfl rfl ?_
    refine y_getP dX11_liked_29 sh_79 cf_X11 fl_X11_46 (by decide) (by decide) gg_79_16 ?_
    refine x_sipush dX11_liked_32 (by decide) (by decide) ?_
    refine x_iload_n dX11_liked_35 rfl rfl ?_
    obtain ⟨s1, h⟩ := h
    refine x_imul dX11_liked_36 s1 ?_
    refine x_iload dX11_liked_37 rfl ?_
    obtain ⟨s2, h⟩ := h
    refine x_iadd dX11_liked_39 s2 ?_
    obtain ⟨s3, h⟩ := h
    refine x_iald dX11_liked_40 sh_92 s3 ?_
    refine x_aload_n dX11_liked_41 rfl rfl ?_
    refine x_iload dX11_liked_42 rfl ?_
    refine x_aload_n dX11_liked_44 rfl rfl ?_
    obtain ⟨Qc4, hc7, h⟩ := h
    refine x_callV (as := [v_I x5, v_P q2]) (st := [v_I (M 92 (((256 * x1) + x5).toNat))]) (Qc := Qc4) dX11_liked_45 mt_X11_costOf ml_X11_201 ⟨by decide, by decide⟩ sh_79 rfl (fun _ _ => Nat.le_of_ble_eq_true rfl) hc7 (fun r5 M6 hr8 hM9 hq10 => ?_)
    replace h := h r5 M6 hr8 hM9 hq10
    change X_ kk_X11_liked 48 [v_P 79, v_I x1, v_P q2, v_I x3, v_I x4, v_I x5, v_U] [v_I r5, v_I (M 92 (((256 * x1) + x5).toNat))] M6 Q
    obtain ⟨s11, h⟩ := h
    refine x_isub dX11_liked_48 s11 ?_
    refine y_istore (ls' := [v_P 79, v_I x1, v_P q2, v_I x3, v_I x4, v_I x5, v_I ((M 92 (((256 * x1) + x5).toNat)) - r5)]) dX11_liked_49 (by decide) rfl ?_
    refine x_iload dX11_liked_51 rfl ?_
    refine x_iload dX11_liked_53 rfl ?_
    refine x_ic_le (tgt := 65) dX11_liked_55 (by decide) (fun hc => ?_) (fun hc => ?_)
    · replace h := h.1 hc
      obtain ⟨s12, h⟩ := h
      refine y_iinc (ls' := [v_P 79, v_I x1, v_P q2, v_I x3, v_I x4, v_I (x5 + 1), v_I ((M 92 (((256 * x1) + x5).toNat)) - r5)]) dX11_liked_65 rfl s12 (by decide) rfl ?_
      refine x_goto (tgt := 17) dX11_liked_68 (by decide) ?_
      refine y_forget 6 (ls' := [v_P 79, v_I x1, v_P q2, v_I x3, v_I x4, v_I (x5 + 1), v_U]) rfl ?_
      exact h
    · replace h := h.2 hc
      refine x_iload dX11_liked_58 rfl ?_
      refine y_istore (ls' := [v_P 79, v_I x1, v_P q2, v_I x3, v_I ((M 92 (((256 * x1) + x5).toNat)) - r5), v_I x5, v_I ((M 92 (((256 * x1) + x5).toNat)) - r5)]) dX11_liked_60 (by decide) rfl ?_
      refine x_iload dX11_liked_62 rfl ?_
      refine y_istore_n (ls' := [v_P 79, v_I x1, v_P q2, v_I x5, v_I ((M 92 (((256 * x1) + x5).toNat)) - r5), v_I x5, v_I ((M 92 (((256 * x1) + x5).toNat)) - r5)]) dX11_liked_64 rfl (by decide) rfl ?_
      obtain ⟨s13, h⟩ := h
      refine y_iinc (ls' := [v_P 79, v_I x1, v_P q2, v_I x5, v_I ((M 92 (((256 * x1) + x5).toNat)) - r5), v_I (x5 + 1), v_I ((M 92 (((256 * x1) + x5).toNat)) - r5)]) dX11_liked_65 rfl s13 (by decide) rfl ?_
      refine x_goto (tgt := 17) dX11_liked_68 (by decide) ?_
      refine y_forget 6 (ls' := [v_P 79, v_I x1, v_P q2, v_I x5, v_I ((M 92 (((256 * x1) + x5).toNat)) - r5), v_I (x5 + 1), v_U]) rfl ?_
      exact h
theorem wp_X11_over_0 {x1 x2 : Int} {q3 : Nat} {M : mM} {Q : Int → mM → Prop} (hq3 : m_sh q3 = (20, 8)) (h : (m_ir (256 * x1)) ∧ (m_ir ((256 * x1) + x2)) ∧ (0 ≤ ((256 * x1) + x2) ∧ ((256 * x1) + x2) < 1536) ∧ ∃ Qc4 : Int → mM → Prop, C_ kk_X11_costOf [v_P 79, v_I x2, v_P q3] M Qc4 ∧ ∀ (r5 : Int) (M6 : mM), m_ir r5 → m_okM M6 → Qc4 r5 M6 → (m_ir ((M 92 (((256 * x1) + x2).toNat)) - r5)) ∧ Q ((M 92 (((256 * x1) + x2).toNat)) - r5) M6) : X_ kk_X11_over 0 [v_P 79, v_I x1, v_I x2, v_P q3] [] M Q := by
  refine x_aload_n dX11_over_0 rfl rfl ?_
  refine y_getP dX11_over_1 sh_79 cf_X11 fl_X11_46 (by decide) (by decide) gg_79_16 ?_
  refine x_sipush dX11_over_4 (by decide) (by decide) ?_
  refine x_iload_n dX11_over_7 rfl rfl ?_
  obtain ⟨s1, h⟩ := h
  refine x_imul dX11_over_8 s1 ?_
  refine x_iload_n dX11_over_9 rfl rfl ?_
  obtain ⟨s2, h⟩ := h
  refine x_iadd dX11_over_10 s2 ?_
  obtain ⟨s3, h⟩ := h
  refine x_iald dX11_over_11 sh_92 s3 ?_
  refine x_aload_n dX11_over_12 rfl rfl ?_
  refine x_iload_n dX11_over_13 rfl rfl ?_
  refine x_aload_n dX11_over_14 rfl rfl ?_
  obtain ⟨Qc4, hc7, h⟩ := h
  refine x_callV (as := [v_I x2, v_P q3]) (st := [v_I (M 92 (((256 * x1) + x2).toNat))]) (Qc := Qc4) dX11_over_15 mt_X11_costOf ml_X11_201 ⟨by decide, by decide⟩ sh_79 rfl (fun _ _ => Nat.le_of_ble_eq_true rfl) hc7 (fun r5 M6 hr8 hM9 hq10 => ?_)
  replace h := h r5 M6 hr8 hM9 hq10
  change X_ kk_X11_over 18 [v_P 79, v_I x1, v_I x2, v_P q3] [v_I r5, v_I (M 92 (((256 * x1) + x2).toNat))] M6 Q
  obtain ⟨s11, h⟩ := h
  refine x_isub dX11_over_18 s11 ?_
  refine x_iret dX11_over_19 rfl (Or.inl rfl) (fun _ _ => h)
theorem wp_X11_likes_0 {x1 x2 : Int} {M : mM} {Q : Int → mM → Prop} (h : (0 ≤ M 79 8) ∧ (0 ≤ x1 ∧ x1 < M 79 8 → (0 ≤ x2 ∧ x2 ≤ 1 → ∃ Qc1 : Int → mM → Prop, C_ kk_X11_layWorths [v_P 79] M Qc1 ∧ ∀ (r2 : Int) (M3 : mM), m_ir r2 → m_okM M3 → Qc1 r2 M3 → ∃ Qc8 : Int → mM → Prop, C_ kk_X11_liked [v_P 79, v_I x1, v_P 101] M3 Qc8 ∧ ∀ (r9 : Int) (M10 : mM), m_ir r9 → m_okM M10 → Qc8 r9 M10 → (¬ x2 = 0 → ∃ Qc15 : Int → mM → Prop, C_ kk_X11_over [v_P 79, v_I x1, v_I r9, v_P 101] M10 Qc15 ∧ ∀ (r16 : Int) (M17 : mM), m_ir r16 → m_okM M17 → Qc15 r16 M17 → Q r16 M17) ∧ (x2 = 0 → Q r9 M10)) ∧ (¬ (0 ≤ x2 ∧ x2 ≤ 1) → Q (-2) M)) ∧ (¬ (0 ≤ x1 ∧ x1 < M 79 8) → Q (-1) M)) : X_ kk_X11_likes 0 [v_P 79, v_I x1, v_I x2, v_U] [] M Q := by
  refine x_aload_n dX11_likes_0 rfl rfl ?_
  refine x_iload_n dX11_likes_1 rfl rfl ?_
  obtain ⟨s22, h⟩ := h
  refine x_isBuyer (st := []) dX11_likes_2 ml_X11_123 ⟨by decide, by decide⟩ (fun _ _ => Nat.le_of_ble_eq_true rfl) s22 (fun hc => ?_) (fun hc => ?_)
  · change X_ kk_X11_likes 5 [v_P 79, v_I x1, v_I x2, v_U] [v_I 1] M Q
    replace h := h.1 hc
    refine x_if_ne (tgt := 10) dX11_likes_5 (by decide) (fun _ => ?_) (fun hc => absurd hc (by decide))
    refine x_iload_n dX11_likes_10 rfl rfl ?_
    refine x_i2l dX11_likes_11 ?_
    refine x_lconst (z := 0) dX11_likes_12 (by decide) (by decide) ?_
    refine x_lconst (z := 1) dX11_likes_13 (by decide) (by decide) ?_
    refine x_in (st := []) dX11_likes_14 ml_X11_110 ⟨by decide, by decide⟩ (fun _ _ => Nat.le_of_ble_eq_true rfl) (fun hc => ?_) (fun hc => ?_)
    · change X_ kk_X11_likes 17 [v_P 79, v_I x1, v_I x2, v_U] [v_I 1] M Q
      replace h := h.1 hc
      refine x_if_ne (tgt := 23) dX11_likes_17 (by decide) (fun _ => ?_) (fun hc => absurd hc (by decide))
      refine x_aload_n dX11_likes_23 rfl rfl ?_
      obtain ⟨Qc1, hc4, h⟩ := h
      refine x_callV (as := []) (st := []) (Qc := Qc1) dX11_likes_24 mt_X11_layWorths ml_X11_182 ⟨by decide, by decide⟩ sh_79 rfl (fun _ _ => Nat.le_of_ble_eq_true rfl) hc4 (fun r2 M3 hr5 hM6 hq7 => ?_)
      replace h := h r2 M3 hr5 hM6 hq7
      change X_ kk_X11_likes 27 [v_P 79, v_I x1, v_I x2, v_U] [] M3 Q
      refine x_aload_n dX11_likes_27 rfl rfl ?_
      refine x_iload_n dX11_likes_28 rfl rfl ?_
      refine x_aload_n dX11_likes_29 rfl rfl ?_
      refine y_getP dX11_likes_30 sh_79 cf_X11 fl_X11_73 (by decide) (by decide) gg_79_25 ?_
      obtain ⟨Qc8, hc11, h⟩ := h
      refine x_callV (as := [v_I x1, v_P 101]) (st := []) (Qc := Qc8) dX11_likes_33 mt_X11_liked ml_X11_205 ⟨by decide, by decide⟩ sh_79 rfl (fun _ _ => Nat.le_of_ble_eq_true rfl) hc11 (fun r9 M10 hr12 hM13 hq14 => ?_)
      replace h := h r9 M10 hr12 hM13 hq14
      change X_ kk_X11_likes 36 [v_P 79, v_I x1, v_I x2, v_U] [v_I r9] M10 Q
      refine y_istore_n (ls' := [v_P 79, v_I x1, v_I x2, v_I r9]) dX11_likes_36 rfl (by decide) rfl ?_
      refine x_iload_n dX11_likes_37 rfl rfl ?_
      refine x_if_ne (tgt := 45) dX11_likes_38 (by decide) (fun hc => ?_) (fun hc => ?_)
      · replace h := h.1 hc
        refine x_aload_n dX11_likes_45 rfl rfl ?_
        refine x_iload_n dX11_likes_46 rfl rfl ?_
        refine x_iload_n dX11_likes_47 rfl rfl ?_
        refine x_aload_n dX11_likes_48 rfl rfl ?_
        refine y_getP dX11_likes_49 sh_79 cf_X11 fl_X11_73 (by decide) (by decide) gg_79_25 ?_
        obtain ⟨Qc15, hc18, h⟩ := h
        refine x_callV (as := [v_I x1, v_I r9, v_P 101]) (st := []) (Qc := Qc15) dX11_likes_52 mt_X11_over ml_X11_208 ⟨by decide, by decide⟩ sh_79 rfl (fun _ _ => Nat.le_of_ble_eq_true rfl) hc18 (fun r16 M17 hr19 hM20 hq21 => ?_)
        replace h := h r16 M17 hr19 hM20 hq21
        change X_ kk_X11_likes 55 [v_P 79, v_I x1, v_I x2, v_I r9] [v_I r16] M17 Q
        refine x_iret dX11_likes_55 rfl (Or.inl rfl) (fun _ _ => h)
      · replace h := h.2 hc
        refine x_iload_n dX11_likes_41 rfl rfl ?_
        refine x_goto (tgt := 55) dX11_likes_42 (by decide) ?_
        refine x_iret dX11_likes_55 rfl (Or.inl rfl) (fun _ _ => h)
    · change X_ kk_X11_likes 17 [v_P 79, v_I x1, v_I x2, v_U] [v_I 0] M Q
      replace h := h.2 hc
      refine x_if_ne (tgt := 23) dX11_likes_17 (by decide) (fun hc => absurd hc (by decide)) (fun _ => ?_)
      refine x_bipush dX11_likes_20 (by decide) (by decide) ?_
      refine x_iret dX11_likes_22 rfl (Or.inl rfl) (fun _ _ => h)
  · change X_ kk_X11_likes 5 [v_P 79, v_I x1, v_I x2, v_U] [v_I 0] M Q
    replace h := h.2 hc
    refine x_if_ne (tgt := 10) dX11_likes_5 (by decide) (fun hc => absurd hc (by decide)) (fun _ => ?_)
    refine x_iconst dX11_likes_8 (by decide) ?_
    refine x_iret dX11_likes_9 rfl (Or.inl rfl) (fun _ _ => h)
theorem wp_X11_missingBy_0 {q1 : Nat} {M : mM} {Q : Int → mM → Prop} (hq1 : m_sh q1 = (20, 8)) (h : (m_ir ((m_shl 1 (M 79 4)) - 1)) ∧ ∃ Qc2 : Int → mM → Prop, C_ kk_X11_costOf [v_P 79, v_I ((m_shl 1 (M 79 4)) - 1), v_P q1] M Qc2 ∧ ∀ (r3 : Int) (M4 : mM), m_ir r3 → m_okM M4 → Qc2 r3 M4 → ∃ Qc9 : Int → mM → Prop, C_ kk_X11_dealtWorth [v_P 79] M4 Qc9 ∧ ∀ (r10 : Int) (M11 : mM), m_ir r10 → m_okM M11 → Qc9 r10 M11 → (m_ir (r3 - r10)) ∧ X_ kk_X11_missingBy 21 [v_P 79, v_P q1, v_I (r3 - r10), v_I 0] [] M11 Q) : X_ kk_X11_missingBy 0 [v_P 79, v_P q1, v_U, v_U] [] M Q := by
  refine x_aload_n dX11_missingBy_0 rfl rfl ?_
  refine x_iconst dX11_missingBy_1 (by decide) ?_
  refine x_aload_n dX11_missingBy_2 rfl rfl ?_
  refine x_getI dX11_missingBy_3 sh_79 cf_X11 fl_X11_107 (by decide) (by decide) ?_
  refine x_ishl dX11_missingBy_6 ?_
  refine x_iconst dX11_missingBy_7 (by decide) ?_
  obtain ⟨s1, h⟩ := h
  refine x_isub dX11_missingBy_8 s1 ?_
  refine x_aload_n dX11_missingBy_9 rfl rfl ?_
  obtain ⟨Qc2, hc5, h⟩ := h
  refine x_callV (as := [v_I ((m_shl 1 (M 79 4)) - 1), v_P q1]) (st := []) (Qc := Qc2) dX11_missingBy_10 mt_X11_costOf ml_X11_201 ⟨by decide, by decide⟩ sh_79 rfl (fun _ _ => Nat.le_of_ble_eq_true rfl) hc5 (fun r3 M4 hr6 hM7 hq8 => ?_)
  replace h := h r3 M4 hr6 hM7 hq8
  change X_ kk_X11_missingBy 13 [v_P 79, v_P q1, v_U, v_U] [v_I r3] M4 Q
  refine x_aload_n dX11_missingBy_13 rfl rfl ?_
  obtain ⟨Qc9, hc12, h⟩ := h
  refine x_callV (as := []) (st := [v_I r3]) (Qc := Qc9) dX11_missingBy_14 mt_X11_dealtWorth ml_X11_198 ⟨by decide, by decide⟩ sh_79 rfl (fun _ _ => Nat.le_of_ble_eq_true rfl) hc12 (fun r10 M11 hr13 hM14 hq15 => ?_)
  replace h := h r10 M11 hr13 hM14 hq15
  change X_ kk_X11_missingBy 17 [v_P 79, v_P q1, v_U, v_U] [v_I r10, v_I r3] M11 Q
  obtain ⟨s16, h⟩ := h
  refine x_isub dX11_missingBy_17 s16 ?_
  refine y_istore_n (ls' := [v_P 79, v_P q1, v_I (r3 - r10), v_U]) dX11_missingBy_18 rfl (by decide) rfl ?_
  refine x_iconst dX11_missingBy_19 (by decide) ?_
  refine y_istore_n (ls' := [v_P 79, v_P q1, v_I (r3 - r10), v_I 0]) dX11_missingBy_20 rfl (by decide) rfl ?_
  exact h
theorem wp_X11_missingBy_21 {x2 x3 : Int} {q1 : Nat} {M : mM} {Q : Int → mM → Prop} (hq1 : m_sh q1 = (20, 8)) (h : ((M 79 8) ≤ x3 → Q x2 M) ∧ (¬ (M 79 8) ≤ x3 → ∃ Qc1 : Int → mM → Prop, C_ kk_X11_liked [v_P 79, v_I x3, v_P q1] M Qc1 ∧ ∀ (r2 : Int) (M3 : mM), m_ir r2 → m_okM M3 → Qc1 r2 M3 → (0 ≤ x3 ∧ x3 < 6) ∧ (0 ≤ x3 ∧ x3 < 6) ∧ ∃ Qc10 : Int → mM → Prop, C_ kk_X11_over [v_P 79, v_I x3, v_I r2, v_P q1] (m_up M3 103 x3.toNat r2) Qc10 ∧ ∀ (r11 : Int) (M12 : mM), m_ir r11 → m_okM M12 → Qc10 r11 M12 → (m_ir (x2 + r11)) ∧ (m_ir (x3 + 1)) ∧ X_ kk_X11_missingBy 21 [v_P 79, v_P q1, v_I (x2 + r11), v_I (x3 + 1)] [] M12 Q)) : X_ kk_X11_missingBy 21 [v_P 79, v_P q1, v_I x2, v_I x3] [] M Q := by
  refine x_iload_n dX11_missingBy_21 rfl rfl ?_
  refine x_aload_n dX11_missingBy_22 rfl rfl ?_
  refine x_getI dX11_missingBy_23 sh_79 cf_X11 fl_X11_114 (by decide) (by decide) ?_
  refine x_ic_ge (tgt := 62) dX11_missingBy_26 (by decide) (fun hc => ?_) (fun hc => ?_)
  · replace h := h.1 hc
    refine x_iload_n dX11_missingBy_62 rfl rfl ?_
    refine x_iret dX11_missingBy_63 rfl (Or.inl rfl) (fun _ _ => h)
  · replace h := h.2 hc
    refine x_aload_n dX11_missingBy_29 rfl rfl ?_
    refine y_getP dX11_missingBy_30 sh_79 cf_X11 fl_X11_79 (by decide) (by decide) gg_79_27 ?_
    refine x_iload_n dX11_missingBy_33 rfl rfl ?_
    refine x_aload_n dX11_missingBy_34 rfl rfl ?_
    refine x_iload_n dX11_missingBy_35 rfl rfl ?_
    refine x_aload_n dX11_missingBy_36 rfl rfl ?_
    obtain ⟨Qc1, hc4, h⟩ := h
    refine x_callV (as := [v_I x3, v_P q1]) (st := [v_I x3, v_P 103]) (Qc := Qc1) dX11_missingBy_37 mt_X11_liked ml_X11_205 ⟨by decide, by decide⟩ sh_79 rfl (fun _ _ => Nat.le_of_ble_eq_true rfl) hc4 (fun r2 M3 hr5 hM6 hq7 => ?_)
    replace h := h r2 M3 hr5 hM6 hq7
    change X_ kk_X11_missingBy 40 [v_P 79, v_P q1, v_I x2, v_I x3] [v_I r2, v_I x3, v_P 103] M3 Q
    obtain ⟨s8, h⟩ := h
    refine x_iast dX11_missingBy_40 sh_103 s8 ?_
    refine x_iload_n dX11_missingBy_41 rfl rfl ?_
    refine x_aload_n dX11_missingBy_42 rfl rfl ?_
    refine x_iload_n dX11_missingBy_43 rfl rfl ?_
    refine x_aload_n dX11_missingBy_44 rfl rfl ?_
    refine y_getP dX11_missingBy_45 sh_79 cf_X11 fl_X11_79 (by decide) (by decide) gg_79_27 ?_
    refine x_iload_n dX11_missingBy_48 rfl rfl ?_
    obtain ⟨s9, h⟩ := h
    refine y_iald (v := r2) dX11_missingBy_49 sh_103 s9 (m_up_same _ _ _ _) ?_
    refine x_aload_n dX11_missingBy_50 rfl rfl ?_
    obtain ⟨Qc10, hc13, h⟩ := h
    refine x_callV (as := [v_I x3, v_I r2, v_P q1]) (st := [v_I x2]) (Qc := Qc10) dX11_missingBy_51 mt_X11_over ml_X11_208 ⟨by decide, by decide⟩ sh_79 rfl (fun _ _ => Nat.le_of_ble_eq_true rfl) hc13 (fun r11 M12 hr14 hM15 hq16 => ?_)
    replace h := h r11 M12 hr14 hM15 hq16
    change X_ kk_X11_missingBy 54 [v_P 79, v_P q1, v_I x2, v_I x3] [v_I r11, v_I x2] M12 Q
    obtain ⟨s17, h⟩ := h
    refine x_iadd dX11_missingBy_54 s17 ?_
    refine y_istore_n (ls' := [v_P 79, v_P q1, v_I (x2 + r11), v_I x3]) dX11_missingBy_55 rfl (by decide) rfl ?_
    obtain ⟨s18, h⟩ := h
    refine y_iinc (ls' := [v_P 79, v_P q1, v_I (x2 + r11), v_I (x3 + 1)]) dX11_missingBy_56 rfl s18 (by decide) rfl ?_
    refine x_goto (tgt := 21) dX11_missingBy_59 (by decide) ?_
    exact h
theorem wp_X11_missing_0 {M : mM} {Q : Int → mM → Prop} (h : ∃ Qc1 : Int → mM → Prop, C_ kk_X11_layWorths [v_P 79] M Qc1 ∧ ∀ (r2 : Int) (M3 : mM), m_ir r2 → m_okM M3 → Qc1 r2 M3 → ∃ Qc8 : Int → mM → Prop, C_ kk_X11_findDealt [v_P 79] M3 Qc8 ∧ ∀ (r9 : Int) (M10 : mM), m_ir r9 → m_okM M10 → Qc8 r9 M10 → ∃ Qc15 : Int → mM → Prop, C_ kk_X11_missingBy [v_P 79, v_P 101] M10 Qc15 ∧ ∀ (r16 : Int) (M17 : mM), m_ir r16 → m_okM M17 → Qc15 r16 M17 → Q r16 M17) : X_ kk_X11_missing 0 [v_P 79] [] M Q := by
  refine x_aload_n dX11_missing_0 rfl rfl ?_
  obtain ⟨Qc1, hc4, h⟩ := h
  refine x_callV (as := []) (st := []) (Qc := Qc1) dX11_missing_1 mt_X11_layWorths ml_X11_182 ⟨by decide, by decide⟩ sh_79 rfl (fun _ _ => Nat.le_of_ble_eq_true rfl) hc4 (fun r2 M3 hr5 hM6 hq7 => ?_)
  replace h := h r2 M3 hr5 hM6 hq7
  change X_ kk_X11_missing 4 [v_P 79] [] M3 Q
  refine x_aload_n dX11_missing_4 rfl rfl ?_
  obtain ⟨Qc8, hc11, h⟩ := h
  refine x_callV (as := []) (st := []) (Qc := Qc8) dX11_missing_5 mt_X11_findDealt ml_X11_195 ⟨by decide, by decide⟩ sh_79 rfl (fun _ _ => Nat.le_of_ble_eq_true rfl) hc11 (fun r9 M10 hr12 hM13 hq14 => ?_)
  replace h := h r9 M10 hr12 hM13 hq14
  change X_ kk_X11_missing 8 [v_P 79] [] M10 Q
  refine x_aload_n dX11_missing_8 rfl rfl ?_
  refine x_aload_n dX11_missing_9 rfl rfl ?_
  refine y_getP dX11_missing_10 sh_79 cf_X11 fl_X11_73 (by decide) (by decide) gg_79_25 ?_
  obtain ⟨Qc15, hc18, h⟩ := h
  refine x_callV (as := [v_P 101]) (st := []) (Qc := Qc15) dX11_missing_13 mt_X11_missingBy ml_X11_212 ⟨by decide, by decide⟩ sh_79 rfl (fun _ _ => Nat.le_of_ble_eq_true rfl) hc18 (fun r16 M17 hr19 hM20 hq21 => ?_)
  replace h := h r16 M17 hr19 hM20 hq21
  change X_ kk_X11_missing 16 [v_P 79] [v_I r16] M17 Q
  refine x_iret dX11_missing_16 rfl (Or.inl rfl) (fun _ _ => h)
theorem wp_X11_raise_0 {M : mM} {Q : Int → mM → Prop} (h : ∃ Qc1 : Int → mM → Prop, C_ kk_X11_findDealt [v_P 79] M Qc1 ∧ ∀ (r2 : Int) (M3 : mM), m_ir r2 → m_okM M3 → Qc1 r2 M3 → X_ kk_X11_raise 6 [v_P 79, v_I 0, v_U, v_U, v_U, v_U] [] M3 Q) : X_ kk_X11_raise 0 [v_P 79, v_U, v_U, v_U, v_U, v_U] [] M Q := by
  refine x_aload_n dX11_raise_0 rfl rfl ?_
  obtain ⟨Qc1, hc4, h⟩ := h
  refine x_callV (as := []) (st := []) (Qc := Qc1) dX11_raise_1 mt_X11_findDealt ml_X11_195 ⟨by decide, by decide⟩ sh_79 rfl (fun _ _ => Nat.le_of_ble_eq_true rfl) hc4 (fun r2 M3 hr5 hM6 hq7 => ?_)
  replace h := h r2 M3 hr5 hM6 hq7
  change X_ kk_X11_raise 4 [v_P 79, v_U, v_U, v_U, v_U, v_U] [] M3 Q
  refine x_iconst dX11_raise_4 (by decide) ?_
  refine y_istore_n (ls' := [v_P 79, v_I 0, v_U, v_U, v_U, v_U]) dX11_raise_5 rfl (by decide) rfl ?_
  exact h
theorem wp_X11_raise_6 {x1 : Int} {M : mM} {Q : Int → mM → Prop} (h : ((M 79 4) ≤ x1 → ∃ Qc1 : Int → mM → Prop, C_ kk_X11_missingBy [v_P 79, v_P 102] (m_up M 79 28 0) Qc1 ∧ ∀ (r2 : Int) (M3 : mM), m_ir r2 → m_okM M3 → Qc1 r2 M3 → X_ kk_X11_raise 43 [v_P 79, v_I r2, v_I 1, v_U, v_U, v_U] [] M3 Q) ∧ (¬ (M 79 4) ≤ x1 → (0 ≤ x1 ∧ x1 < 8) ∧ (m_ir (x1 + 1)) ∧ X_ kk_X11_raise 6 [v_P 79, v_I (x1 + 1), v_U, v_U, v_U, v_U] [] (m_up M 102 x1.toNat 0) Q)) : X_ kk_X11_raise 6 [v_P 79, v_I x1, v_U, v_U, v_U, v_U] [] M Q := by
  refine x_iload_n dX11_raise_6 rfl rfl ?_
  refine x_aload_n dX11_raise_7 rfl rfl ?_
  refine x_getI dX11_raise_8 sh_79 cf_X11 fl_X11_107 (by decide) (by decide) ?_
  refine x_ic_ge (tgt := 27) dX11_raise_11 (by decide) (fun hc => ?_) (fun hc => ?_)
  · replace h := h.1 hc
    refine x_aload_n dX11_raise_27 rfl rfl ?_
    refine x_iconst dX11_raise_28 (by decide) ?_
    refine x_putI dX11_raise_29 sh_79 cf_X11 fl_X11_216 (by decide) rfl (by decide) (Or.inl rfl) ?_
    refine x_aload_n dX11_raise_32 rfl rfl ?_
    refine x_aload_n dX11_raise_33 rfl rfl ?_
    refine y_getP dX11_raise_34 sh_79 cf_X11 fl_X11_76 (by decide) (by decide) gg_79_26 ?_
    obtain ⟨Qc1, hc4, h⟩ := h
    refine x_callV (as := [v_P 102]) (st := []) (Qc := Qc1) dX11_raise_37 mt_X11_missingBy ml_X11_212 ⟨by decide, by decide⟩ sh_79 rfl (fun _ _ => Nat.le_of_ble_eq_true rfl) hc4 (fun r2 M3 hr5 hM6 hq7 => ?_)
    replace h := h r2 M3 hr5 hM6 hq7
    change X_ kk_X11_raise 40 [v_P 79, v_I x1, v_U, v_U, v_U, v_U] [v_I r2] M3 Q
    refine y_istore_n (ls' := [v_P 79, v_I r2, v_U, v_U, v_U, v_U]) dX11_raise_40 rfl (by decide) rfl ?_
    refine x_iconst dX11_raise_41 (by decide) ?_
    refine y_istore_n (ls' := [v_P 79, v_I r2, v_I 1, v_U, v_U, v_U]) dX11_raise_42 rfl (by decide) rfl ?_
    exact h
  · replace h := h.2 hc
    refine x_aload_n dX11_raise_14 rfl rfl ?_
    refine y_getP dX11_raise_15 sh_79 cf_X11 fl_X11_76 (by decide) (by decide) gg_79_26 ?_
    refine x_iload_n dX11_raise_18 rfl rfl ?_
    refine x_iconst dX11_raise_19 (by decide) ?_
    obtain ⟨s8, h⟩ := h
    refine x_iast dX11_raise_20 sh_102 s8 ?_
    obtain ⟨s9, h⟩ := h
    refine y_iinc (ls' := [v_P 79, v_I (x1 + 1), v_U, v_U, v_U, v_U]) dX11_raise_21 rfl s9 (by decide) rfl ?_
    refine x_goto (tgt := 6) dX11_raise_24 (by decide) ?_
    exact h
theorem wp_X11_raise_43 {x1 x2 : Int} {M : mM} {Q : Int → mM → Prop} (h : (x1 ≤ 0 → Q x1 M) ∧ (¬ x1 ≤ 0 → (x2 = 0 → Q x1 M) ∧ (¬ x2 = 0 → (300 ≤ (M 79 28) → Q x1 M) ∧ (¬ 300 ≤ (M 79 28) → X_ kk_X11_raise 65 [v_P 79, v_I x1, v_I 0, v_I 0, v_U, v_U] [] M Q)))) : X_ kk_X11_raise 43 [v_P 79, v_I x1, v_I x2, v_U, v_U, v_U] [] M Q := by
  refine x_iload_n dX11_raise_43 rfl rfl ?_
  refine x_if_le (tgt := 190) dX11_raise_44 (by decide) (fun hc => ?_) (fun hc => ?_)
  · replace h := h.1 hc
    refine x_iload_n dX11_raise_190 rfl rfl ?_
    refine x_iret dX11_raise_191 rfl (Or.inl rfl) (fun _ _ => h)
  · replace h := h.2 hc
    refine x_iload_n dX11_raise_47 rfl rfl ?_
    refine x_if_eq (tgt := 190) dX11_raise_48 (by decide) (fun hc => ?_) (fun hc => ?_)
    · replace h := h.1 hc
      refine x_iload_n dX11_raise_190 rfl rfl ?_
      refine x_iret dX11_raise_191 rfl (Or.inl rfl) (fun _ _ => h)
    · replace h := h.2 hc
      refine x_aload_n dX11_raise_51 rfl rfl ?_
      refine x_getI dX11_raise_52 sh_79 cf_X11 fl_X11_216 (by decide) (by decide) ?_
      refine x_sipush dX11_raise_55 (by decide) (by decide) ?_
      refine x_ic_ge (tgt := 190) dX11_raise_58 (by decide) (fun hc => ?_) (fun hc => ?_)
      · replace h := h.1 hc
        refine x_iload_n dX11_raise_190 rfl rfl ?_
        refine x_iret dX11_raise_191 rfl (Or.inl rfl) (fun _ _ => h)
      · replace h := h.2 hc
        refine x_iconst dX11_raise_61 (by decide) ?_
        refine y_istore_n (ls' := [v_P 79, v_I x1, v_I 0, v_U, v_U, v_U]) dX11_raise_62 rfl (by decide) rfl ?_
        refine x_iconst dX11_raise_63 (by decide) ?_
        refine y_istore_n (ls' := [v_P 79, v_I x1, v_I 0, v_I 0, v_U, v_U]) dX11_raise_64 rfl (by decide) rfl ?_
        exact h
theorem wp_X11_raise_65 {x1 x2 x3 : Int} {M : mM} {Q : Int → mM → Prop} (h : ((M 79 4) ≤ x3 → (x2 = 0 → (m_ir ((M 79 28) + 0)) ∧ (x2 = 0 → X_ kk_X11_raise 43 [v_P 79, v_I x1, v_I x2, v_U, v_U, v_U] [] (m_up M 79 28 ((M 79 28) + 0)) Q) ∧ (¬ x2 = 0 → ∃ Qc2 : Int → mM → Prop, C_ kk_X11_missingBy [v_P 79, v_P 102] (m_up M 79 28 ((M 79 28) + 0)) Qc2 ∧ ∀ (r3 : Int) (M4 : mM), m_ir r3 → m_okM M4 → Qc2 r3 M4 → X_ kk_X11_raise 43 [v_P 79, v_I r3, v_I x2, v_U, v_U, v_U] [] M4 Q)) ∧ (¬ x2 = 0 → (m_ir ((M 79 28) + 1)) ∧ (x2 = 0 → X_ kk_X11_raise 43 [v_P 79, v_I x1, v_I x2, v_U, v_U, v_U] [] (m_up M 79 28 ((M 79 28) + 1)) Q) ∧ (¬ x2 = 0 → ∃ Qc10 : Int → mM → Prop, C_ kk_X11_missingBy [v_P 79, v_P 102] (m_up M 79 28 ((M 79 28) + 1)) Qc10 ∧ ∀ (r11 : Int) (M12 : mM), m_ir r11 → m_okM M12 → Qc10 r11 M12 → X_ kk_X11_raise 43 [v_P 79, v_I r11, v_I x2, v_U, v_U, v_U] [] M12 Q))) ∧ (¬ (M 79 4) ≤ x3 → X_ kk_X11_raise 79 [v_P 79, v_I x1, v_I x2, v_I x3, v_I 0, v_I 0] [] M Q)) : X_ kk_X11_raise 65 [v_P 79, v_I x1, v_I x2, v_I x3, v_U, v_U] [] M Q := by
  refine x_iload_n dX11_raise_65 rfl rfl ?_
  refine x_aload_n dX11_raise_66 rfl rfl ?_
  refine x_getI dX11_raise_67 sh_79 cf_X11 fl_X11_107 (by decide) (by decide) ?_
  refine x_ic_ge (tgt := 152) dX11_raise_70 (by decide) (fun hc => ?_) (fun hc => ?_)
  · replace h := h.1 hc
    refine x_aload_n dX11_raise_152 rfl rfl ?_
    refine x_dup dX11_raise_153 (fun _ _ => rfl) ?_
    refine x_getI dX11_raise_154 sh_79 cf_X11 fl_X11_216 (by decide) (by decide) ?_
    refine x_iload_n dX11_raise_157 rfl rfl ?_
    refine x_if_eq (tgt := 165) dX11_raise_158 (by decide) (fun hc => ?_) (fun hc => ?_)
    · replace h := h.1 hc
      refine x_iconst dX11_raise_165 (by decide) ?_
      obtain ⟨s1, h⟩ := h
      refine x_iadd dX11_raise_166 s1 ?_
      refine x_putI dX11_raise_167 sh_79 cf_X11 fl_X11_216 (by decide) rfl (by decide) (Or.inl rfl) ?_
      refine x_iload_n dX11_raise_170 rfl rfl ?_
      refine x_if_eq (tgt := 185) dX11_raise_171 (by decide) (fun hc => ?_) (fun hc => ?_)
      · replace h := h.1 hc
        refine x_iload_n dX11_raise_185 rfl rfl ?_
        refine y_istore_n (ls' := [v_P 79, v_I x1, v_I x2, v_I x3, v_U, v_U]) dX11_raise_186 rfl (by decide) rfl ?_
        refine x_goto (tgt := 43) dX11_raise_187 (by decide) ?_
        refine y_forget 3 (ls' := [v_P 79, v_I x1, v_I x2, v_U, v_U, v_U]) rfl ?_
        exact h
      · replace h := h.2 hc
        refine x_aload_n dX11_raise_174 rfl rfl ?_
        refine x_aload_n dX11_raise_175 rfl rfl ?_
        refine y_getP dX11_raise_176 sh_79 cf_X11 fl_X11_76 (by decide) (by decide) gg_79_26 ?_
        obtain ⟨Qc2, hc5, h⟩ := h
        refine x_callV (as := [v_P 102]) (st := []) (Qc := Qc2) dX11_raise_179 mt_X11_missingBy ml_X11_212 ⟨by decide, by decide⟩ sh_79 rfl (fun _ _ => Nat.le_of_ble_eq_true rfl) hc5 (fun r3 M4 hr6 hM7 hq8 => ?_)
        replace h := h r3 M4 hr6 hM7 hq8
        change X_ kk_X11_raise 182 [v_P 79, v_I x1, v_I x2, v_I x3, v_U, v_U] [v_I r3] M4 Q
        refine x_goto (tgt := 186) dX11_raise_182 (by decide) ?_
        refine y_istore_n (ls' := [v_P 79, v_I r3, v_I x2, v_I x3, v_U, v_U]) dX11_raise_186 rfl (by decide) rfl ?_
        refine x_goto (tgt := 43) dX11_raise_187 (by decide) ?_
        refine y_forget 3 (ls' := [v_P 79, v_I r3, v_I x2, v_U, v_U, v_U]) rfl ?_
        exact h
    · replace h := h.2 hc
      refine x_iconst dX11_raise_161 (by decide) ?_
      refine x_goto (tgt := 166) dX11_raise_162 (by decide) ?_
      obtain ⟨s9, h⟩ := h
      refine x_iadd dX11_raise_166 s9 ?_
      refine x_putI dX11_raise_167 sh_79 cf_X11 fl_X11_216 (by decide) rfl (by decide) (Or.inl rfl) ?_
      refine x_iload_n dX11_raise_170 rfl rfl ?_
      refine x_if_eq (tgt := 185) dX11_raise_171 (by decide) (fun hc => ?_) (fun hc => ?_)
      · replace h := h.1 hc
        refine x_iload_n dX11_raise_185 rfl rfl ?_
        refine y_istore_n (ls' := [v_P 79, v_I x1, v_I x2, v_I x3, v_U, v_U]) dX11_raise_186 rfl (by decide) rfl ?_
        refine x_goto (tgt := 43) dX11_raise_187 (by decide) ?_
        refine y_forget 3 (ls' := [v_P 79, v_I x1, v_I x2, v_U, v_U, v_U]) rfl ?_
        exact h
      · replace h := h.2 hc
        refine x_aload_n dX11_raise_174 rfl rfl ?_
        refine x_aload_n dX11_raise_175 rfl rfl ?_
        refine y_getP dX11_raise_176 sh_79 cf_X11 fl_X11_76 (by decide) (by decide) gg_79_26 ?_
        obtain ⟨Qc10, hc13, h⟩ := h
        refine x_callV (as := [v_P 102]) (st := []) (Qc := Qc10) dX11_raise_179 mt_X11_missingBy ml_X11_212 ⟨by decide, by decide⟩ sh_79 rfl (fun _ _ => Nat.le_of_ble_eq_true rfl) hc13 (fun r11 M12 hr14 hM15 hq16 => ?_)
        replace h := h r11 M12 hr14 hM15 hq16
        change X_ kk_X11_raise 182 [v_P 79, v_I x1, v_I x2, v_I x3, v_U, v_U] [v_I r11] M12 Q
        refine x_goto (tgt := 186) dX11_raise_182 (by decide) ?_
        refine y_istore_n (ls' := [v_P 79, v_I r11, v_I x2, v_I x3, v_U, v_U]) dX11_raise_186 rfl (by decide) rfl ?_
        refine x_goto (tgt := 43) dX11_raise_187 (by decide) ?_
        refine y_forget 3 (ls' := [v_P 79, v_I r11, v_I x2, v_U, v_U, v_U]) rfl ?_
        exact h
  · replace h := h.2 hc
    refine x_iconst dX11_raise_73 (by decide) ?_
    refine y_istore (ls' := [v_P 79, v_I x1, v_I x2, v_I x3, v_I 0, v_U]) dX11_raise_74 (by decide) rfl ?_
    refine x_iconst dX11_raise_76 (by decide) ?_
    refine y_istore (ls' := [v_P 79, v_I x1, v_I x2, v_I x3, v_I 0, v_I 0]) dX11_raise_77 (by decide) rfl ?_
    exact h
theorem wp_X11_raise_79 {x1 x2 x3 x4 x5 : Int} {M : mM} {Q : Int → mM → Prop} (h : ((M 79 8) ≤ x5 → (0 ≤ x3 ∧ x3 < 8) ∧ (x4 ≤ 1 → (m_ir ((M 102 x3.toNat) + 0)) ∧ (0 ≤ x3 ∧ x3 < 8) ∧ (¬ x2 = 0 → (m_ir (x3 + 1)) ∧ X_ kk_X11_raise 65 [v_P 79, v_I x1, v_I 1, v_I (x3 + 1), v_U, v_U] [] (m_up M 102 x3.toNat ((M 102 x3.toNat) + 0)) Q) ∧ (x2 = 0 → (x4 ≤ 1 → (m_ir (x3 + 1)) ∧ X_ kk_X11_raise 65 [v_P 79, v_I x1, v_I 0, v_I (x3 + 1), v_U, v_U] [] (m_up M 102 x3.toNat ((M 102 x3.toNat) + 0)) Q) ∧ (¬ x4 ≤ 1 → (m_ir (x3 + 1)) ∧ X_ kk_X11_raise 65 [v_P 79, v_I x1, v_I 1, v_I (x3 + 1), v_U, v_U] [] (m_up M 102 x3.toNat ((M 102 x3.toNat) + 0)) Q))) ∧ (¬ x4 ≤ 1 → (m_ir ((M 102 x3.toNat) + 1)) ∧ (0 ≤ x3 ∧ x3 < 8) ∧ (¬ x2 = 0 → (m_ir (x3 + 1)) ∧ X_ kk_X11_raise 65 [v_P 79, v_I x1, v_I 1, v_I (x3 + 1), v_U, v_U] [] (m_up M 102 x3.toNat ((M 102 x3.toNat) + 1)) Q) ∧ (x2 = 0 → (x4 ≤ 1 → (m_ir (x3 + 1)) ∧ X_ kk_X11_raise 65 [v_P 79, v_I x1, v_I 0, v_I (x3 + 1), v_U, v_U] [] (m_up M 102 x3.toNat ((M 102 x3.toNat) + 1)) Q) ∧ (¬ x4 ≤ 1 → (m_ir (x3 + 1)) ∧ X_ kk_X11_raise 65 [v_P 79, v_I x1, v_I 1, v_I (x3 + 1), v_U, v_U] [] (m_up M 102 x3.toNat ((M 102 x3.toNat) + 1)) Q)))) ∧ (¬ (M 79 8) ≤ x5 → (0 ≤ x5 ∧ x5 < 6) ∧ (m_ir (x4 + (m_and (m_shr (M 103 x5.toNat) x3) 1))) ∧ (m_ir (x5 + 1)) ∧ X_ kk_X11_raise 79 [v_P 79, v_I x1, v_I x2, v_I x3, v_I (x4 + (m_and (m_shr (M 103 x5.toNat) x3) 1)), v_I (x5 + 1)] [] M Q)) : X_ kk_X11_raise 79 [v_P 79, v_I x1, v_I x2, v_I x3, v_I x4, v_I x5] [] M Q := by
  refine x_iload dX11_raise_79 rfl ?_
  refine x_aload_n dX11_raise_81 rfl rfl ?_
  refine x_getI dX11_raise_82 sh_79 cf_X11 fl_X11_114 (by decide) (by decide) ?_
  refine x_ic_ge (tgt := 110) dX11_raise_85 (by decide) (fun hc => ?_) (fun hc => ?_)
  · replace h := h.1 hc
    refine x_aload_n dX11_raise_110 rfl rfl ?_
    refine y_getP dX11_raise_111 sh_79 cf_X11 fl_X11_76 (by decide) (by decide) gg_79_26 ?_
    refine x_iload_n dX11_raise_114 rfl rfl ?_
    refine x_dup2 dX11_raise_115 (fun _ _ => rfl) (fun _ _ => rfl) ?_
    obtain ⟨s1, h⟩ := h
    refine x_iald dX11_raise_116 sh_102 s1 ?_
    refine x_iload dX11_raise_117 rfl ?_
    refine x_iconst dX11_raise_119 (by decide) ?_
    refine x_ic_le (tgt := 127) dX11_raise_120 (by decide) (fun hc => ?_) (fun hc => ?_)
    · replace h := h.1 hc
      refine x_iconst dX11_raise_127 (by decide) ?_
      obtain ⟨s2, h⟩ := h
      refine x_iadd dX11_raise_128 s2 ?_
      obtain ⟨s3, h⟩ := h
      refine x_iast dX11_raise_129 sh_102 s3 ?_
      refine x_iload_n dX11_raise_130 rfl rfl ?_
      refine x_if_ne (tgt := 140) dX11_raise_131 (by decide) (fun hc => ?_) (fun hc => ?_)
      · replace h := h.1 hc
        refine x_iconst dX11_raise_140 (by decide) ?_
        refine x_goto (tgt := 145) dX11_raise_141 (by decide) ?_
        refine y_istore_n (ls' := [v_P 79, v_I x1, v_I 1, v_I x3, v_I x4, v_I x5]) dX11_raise_145 rfl (by decide) rfl ?_
        obtain ⟨s4, h⟩ := h
        refine y_iinc (ls' := [v_P 79, v_I x1, v_I 1, v_I (x3 + 1), v_I x4, v_I x5]) dX11_raise_146 rfl s4 (by decide) rfl ?_
        refine x_goto (tgt := 65) dX11_raise_149 (by decide) ?_
        refine y_forget 4 (ls' := [v_P 79, v_I x1, v_I 1, v_I (x3 + 1), v_U, v_I x5]) rfl ?_
        refine y_forget 5 (ls' := [v_P 79, v_I x1, v_I 1, v_I (x3 + 1), v_U, v_U]) rfl ?_
        exact h
      · replace h := h.2 hc
        refine x_iload dX11_raise_134 rfl ?_
        refine x_iconst dX11_raise_136 (by decide) ?_
        refine x_ic_le (tgt := 144) dX11_raise_137 (by decide) (fun hc => ?_) (fun hc => ?_)
        · replace h := h.1 hc
          refine x_iconst dX11_raise_144 (by decide) ?_
          refine y_istore_n (ls' := [v_P 79, v_I x1, v_I 0, v_I x3, v_I x4, v_I x5]) dX11_raise_145 rfl (by decide) rfl ?_
          obtain ⟨s5, h⟩ := h
          refine y_iinc (ls' := [v_P 79, v_I x1, v_I 0, v_I (x3 + 1), v_I x4, v_I x5]) dX11_raise_146 rfl s5 (by decide) rfl ?_
          refine x_goto (tgt := 65) dX11_raise_149 (by decide) ?_
          refine y_forget 4 (ls' := [v_P 79, v_I x1, v_I 0, v_I (x3 + 1), v_U, v_I x5]) rfl ?_
          refine y_forget 5 (ls' := [v_P 79, v_I x1, v_I 0, v_I (x3 + 1), v_U, v_U]) rfl ?_
          exact h
        · replace h := h.2 hc
          refine x_iconst dX11_raise_140 (by decide) ?_
          refine x_goto (tgt := 145) dX11_raise_141 (by decide) ?_
          refine y_istore_n (ls' := [v_P 79, v_I x1, v_I 1, v_I x3, v_I x4, v_I x5]) dX11_raise_145 rfl (by decide) rfl ?_
          obtain ⟨s6, h⟩ := h
          refine y_iinc (ls' := [v_P 79, v_I x1, v_I 1, v_I (x3 + 1), v_I x4, v_I x5]) dX11_raise_146 rfl s6 (by decide) rfl ?_
          refine x_goto (tgt := 65) dX11_raise_149 (by decide) ?_
          refine y_forget 4 (ls' := [v_P 79, v_I x1, v_I 1, v_I (x3 + 1), v_U, v_I x5]) rfl ?_
          refine y_forget 5 (ls' := [v_P 79, v_I x1, v_I 1, v_I (x3 + 1), v_U, v_U]) rfl ?_
          exact h
    · replace h := h.2 hc
      refine x_iconst dX11_raise_123 (by decide) ?_
      refine x_goto (tgt := 128) dX11_raise_124 (by decide) ?_
      obtain ⟨s7, h⟩ := h
      refine x_iadd dX11_raise_128 s7 ?_
      obtain ⟨s8, h⟩ := h
      refine x_iast dX11_raise_129 sh_102 s8 ?_
      refine x_iload_n dX11_raise_130 rfl rfl ?_
      refine x_if_ne (tgt := 140) dX11_raise_131 (by decide) (fun hc => ?_) (fun hc => ?_)
      · replace h := h.1 hc
        refine x_iconst dX11_raise_140 (by decide) ?_
        refine x_goto (tgt := 145) dX11_raise_141 (by decide) ?_
        refine y_istore_n (ls' := [v_P 79, v_I x1, v_I 1, v_I x3, v_I x4, v_I x5]) dX11_raise_145 rfl (by decide) rfl ?_
        obtain ⟨s9, h⟩ := h
        refine y_iinc (ls' := [v_P 79, v_I x1, v_I 1, v_I (x3 + 1), v_I x4, v_I x5]) dX11_raise_146 rfl s9 (by decide) rfl ?_
        refine x_goto (tgt := 65) dX11_raise_149 (by decide) ?_
        refine y_forget 4 (ls' := [v_P 79, v_I x1, v_I 1, v_I (x3 + 1), v_U, v_I x5]) rfl ?_
        refine y_forget 5 (ls' := [v_P 79, v_I x1, v_I 1, v_I (x3 + 1), v_U, v_U]) rfl ?_
        exact h
      · replace h := h.2 hc
        refine x_iload dX11_raise_134 rfl ?_
        refine x_iconst dX11_raise_136 (by decide) ?_
        refine x_ic_le (tgt := 144) dX11_raise_137 (by decide) (fun hc => ?_) (fun hc => ?_)
        · replace h := h.1 hc
          refine x_iconst dX11_raise_144 (by decide) ?_
          refine y_istore_n (ls' := [v_P 79, v_I x1, v_I 0, v_I x3, v_I x4, v_I x5]) dX11_raise_145 rfl (by decide) rfl ?_
          obtain ⟨s10, h⟩ := h
          refine y_iinc (ls' := [v_P 79, v_I x1, v_I 0, v_I (x3 + 1), v_I x4, v_I x5]) dX11_raise_146 rfl s10 (by decide) rfl ?_
          refine x_goto (tgt := 65) dX11_raise_149 (by decide) ?_
          refine y_forget 4 (ls' := [v_P 79, v_I x1, v_I 0, v_I (x3 + 1), v_U, v_I x5]) rfl ?_
          refine y_forget 5 (ls' := [v_P 79, v_I x1, v_I 0, v_I (x3 + 1), v_U, v_U]) rfl ?_
          exact h
        · replace h := h.2 hc
          refine x_iconst dX11_raise_140 (by decide) ?_
          refine x_goto (tgt := 145) dX11_raise_141 (by decide) ?_
          refine y_istore_n (ls' := [v_P 79, v_I x1, v_I 1, v_I x3, v_I x4, v_I x5]) dX11_raise_145 rfl (by decide) rfl ?_
          obtain ⟨s11, h⟩ := h
          refine y_iinc (ls' := [v_P 79, v_I x1, v_I 1, v_I (x3 + 1), v_I x4, v_I x5]) dX11_raise_146 rfl s11 (by decide) rfl ?_
          refine x_goto (tgt := 65) dX11_raise_149 (by decide) ?_
          refine y_forget 4 (ls' := [v_P 79, v_I x1, v_I 1, v_I (x3 + 1), v_U, v_I x5]) rfl ?_
          refine y_forget 5 (ls' := [v_P 79, v_I x1, v_I 1, v_I (x3 + 1), v_U, v_U]) rfl ?_
          exact h
  · replace h := h.2 hc
    refine x_iload dX11_raise_88 rfl ?_
    refine x_aload_n dX11_raise_90 rfl rfl ?_
    refine y_getP dX11_raise_91 sh_79 cf_X11 fl_X11_79 (by decide) (by decide) gg_79_27 ?_
    refine x_iload dX11_raise_94 rfl ?_
    obtain ⟨s12, h⟩ := h
    refine x_iald dX11_raise_96 sh_103 s12 ?_
    refine x_iload_n dX11_raise_97 rfl rfl ?_
    refine x_ishr dX11_raise_98 ?_
    refine x_iconst dX11_raise_99 (by decide) ?_
    refine x_iand dX11_raise_100 ?_
    obtain ⟨s13, h⟩ := h
    refine x_iadd dX11_raise_101 s13 ?_
    refine y_istore (ls' := [v_P 79, v_I x1, v_I x2, v_I x3, v_I (x4 + (m_and (m_shr (M 103 x5.toNat) x3) 1)), v_I x5]) dX11_raise_102 (by decide) rfl ?_
    obtain ⟨s14, h⟩ := h
    refine y_iinc (ls' := [v_P 79, v_I x1, v_I x2, v_I x3, v_I (x4 + (m_and (m_shr (M 103 x5.toNat) x3) 1)), v_I (x5 + 1)]) dX11_raise_104 rfl s14 (by decide) rfl ?_
    refine x_goto (tgt := 79) dX11_raise_107 (by decide) ?_
    exact h
theorem wp_X11_raised_0 {x1 : Int} {M : mM} {Q : Int → mM → Prop} (h : (10 ≤ x1 ∧ x1 ≤ 17 → (m_ir (x1 - 10)) ∧ (0 ≤ M 79 4) ∧ (0 ≤ (x1 - 10) ∧ (x1 - 10) < M 79 4 → (0 ≤ x1 ∧ x1 ≤ 1 → ∃ Qc2 : Int → mM → Prop, C_ kk_X11_layWorths [v_P 79] M Qc2 ∧ ∀ (r3 : Int) (M4 : mM), m_ir r3 → m_okM M4 → Qc2 r3 M4 → ∃ Qc9 : Int → mM → Prop, C_ kk_X11_raise [v_P 79] M4 Qc9 ∧ ∀ (r10 : Int) (M11 : mM), m_ir r10 → m_okM M11 → Qc9 r10 M11 → (¬ x1 = 0 → (¬ x1 = 1 → (m_ir (x1 - 10)) ∧ (0 ≤ (x1 - 10) ∧ (x1 - 10) < 8) ∧ Q (M11 102 ((x1 - 10).toNat)) M11) ∧ (x1 = 1 → Q r10 M11)) ∧ (x1 = 0 → Q (M11 79 28) M11)) ∧ (¬ (0 ≤ x1 ∧ x1 ≤ 1) → (10 ≤ x1 ∧ x1 ≤ 17 → ∃ Qc18 : Int → mM → Prop, C_ kk_X11_layWorths [v_P 79] M Qc18 ∧ ∀ (r19 : Int) (M20 : mM), m_ir r19 → m_okM M20 → Qc18 r19 M20 → ∃ Qc25 : Int → mM → Prop, C_ kk_X11_raise [v_P 79] M20 Qc25 ∧ ∀ (r26 : Int) (M27 : mM), m_ir r26 → m_okM M27 → Qc25 r26 M27 → (¬ x1 = 0 → (¬ x1 = 1 → (m_ir (x1 - 10)) ∧ (0 ≤ (x1 - 10) ∧ (x1 - 10) < 8) ∧ Q (M27 102 ((x1 - 10).toNat)) M27) ∧ (x1 = 1 → Q r26 M27)) ∧ (x1 = 0 → Q (M27 79 28) M27)) ∧ (¬ (10 ≤ x1 ∧ x1 ≤ 17) → Q (-2) M))) ∧ (¬ (0 ≤ (x1 - 10) ∧ (x1 - 10) < M 79 4) → Q (-1) M)) ∧ (¬ (10 ≤ x1 ∧ x1 ≤ 17) → (0 ≤ x1 ∧ x1 ≤ 1 → ∃ Qc35 : Int → mM → Prop, C_ kk_X11_layWorths [v_P 79] M Qc35 ∧ ∀ (r36 : Int) (M37 : mM), m_ir r36 → m_okM M37 → Qc35 r36 M37 → ∃ Qc42 : Int → mM → Prop, C_ kk_X11_raise [v_P 79] M37 Qc42 ∧ ∀ (r43 : Int) (M44 : mM), m_ir r43 → m_okM M44 → Qc42 r43 M44 → (¬ x1 = 0 → (¬ x1 = 1 → (m_ir (x1 - 10)) ∧ (0 ≤ (x1 - 10) ∧ (x1 - 10) < 8) ∧ Q (M44 102 ((x1 - 10).toNat)) M44) ∧ (x1 = 1 → Q r43 M44)) ∧ (x1 = 0 → Q (M44 79 28) M44)) ∧ (¬ (0 ≤ x1 ∧ x1 ≤ 1) → (10 ≤ x1 ∧ x1 ≤ 17 → ∃ Qc51 : Int → mM → Prop, C_ kk_X11_layWorths [v_P 79] M Qc51 ∧ ∀ (r52 : Int) (M53 : mM), m_ir r52 → m_okM M53 → Qc51 r52 M53 → ∃ Qc58 : Int → mM → Prop, C_ kk_X11_raise [v_P 79] M53 Qc58 ∧ ∀ (r59 : Int) (M60 : mM), m_ir r59 → m_okM M60 → Qc58 r59 M60 → (¬ x1 = 0 → (¬ x1 = 1 → (m_ir (x1 - 10)) ∧ (0 ≤ (x1 - 10) ∧ (x1 - 10) < 8) ∧ Q (M60 102 ((x1 - 10).toNat)) M60) ∧ (x1 = 1 → Q r59 M60)) ∧ (x1 = 0 → Q (M60 79 28) M60)) ∧ (¬ (10 ≤ x1 ∧ x1 ≤ 17) → Q (-2) M)))) : X_ kk_X11_raised 0 [v_P 79, v_I x1, v_U] [] M Q := by
  refine x_iload_n dX11_raised_0 rfl rfl ?_
  refine x_i2l dX11_raised_1 ?_
  refine x_ldc2 (z := 10) dX11_raised_2 cl_X11_219 (by decide) (by decide) ?_
  refine x_ldc2 (z := 17) dX11_raised_5 cl_X11_221 (by decide) (by decide) ?_
  refine x_in (st := []) dX11_raised_8 ml_X11_110 ⟨by decide, by decide⟩ (fun _ _ => Nat.le_of_ble_eq_true rfl) (fun hc => ?_) (fun hc => ?_)
  · change X_ kk_X11_raised 11 [v_P 79, v_I x1, v_U] [v_I 1] M Q
    replace h := h.1 hc
    refine x_if_eq (tgt := 27) dX11_raised_11 (by decide) (fun hc => absurd hc (by decide)) (fun _ => ?_)
    refine x_aload_n dX11_raised_14 rfl rfl ?_
    refine x_iload_n dX11_raised_15 rfl rfl ?_
    refine x_bipush dX11_raised_16 (by decide) (by decide) ?_
    obtain ⟨s1, h⟩ := h
    refine x_isub dX11_raised_18 s1 ?_
    obtain ⟨s34, h⟩ := h
    refine x_isLot (st := []) dX11_raised_19 ml_X11_169 ⟨by decide, by decide⟩ (fun _ _ => Nat.le_of_ble_eq_true rfl) s34 (fun hc => ?_) (fun hc => ?_)
    · change X_ kk_X11_raised 22 [v_P 79, v_I x1, v_U] [v_I 1] M Q
      replace h := h.1 hc
      refine x_if_ne (tgt := 27) dX11_raised_22 (by decide) (fun _ => ?_) (fun hc => absurd hc (by decide))
      refine x_iload_n dX11_raised_27 rfl rfl ?_
      refine x_i2l dX11_raised_28 ?_
      refine x_lconst (z := 0) dX11_raised_29 (by decide) (by decide) ?_
      refine x_lconst (z := 1) dX11_raised_30 (by decide) (by decide) ?_
      refine x_in (st := []) dX11_raised_31 ml_X11_110 ⟨by decide, by decide⟩ (fun _ _ => Nat.le_of_ble_eq_true rfl) (fun hc => ?_) (fun hc => ?_)
      · change X_ kk_X11_raised 34 [v_P 79, v_I x1, v_U] [v_I 1] M Q
        replace h := h.1 hc
        refine x_if_ne (tgt := 54) dX11_raised_34 (by decide) (fun _ => ?_) (fun hc => absurd hc (by decide))
        refine x_aload_n dX11_raised_54 rfl rfl ?_
        obtain ⟨Qc2, hc5, h⟩ := h
        refine x_callV (as := []) (st := []) (Qc := Qc2) dX11_raised_55 mt_X11_layWorths ml_X11_182 ⟨by decide, by decide⟩ sh_79 rfl (fun _ _ => Nat.le_of_ble_eq_true rfl) hc5 (fun r3 M4 hr6 hM7 hq8 => ?_)
        replace h := h r3 M4 hr6 hM7 hq8
        change X_ kk_X11_raised 58 [v_P 79, v_I x1, v_U] [] M4 Q
        refine x_aload_n dX11_raised_58 rfl rfl ?_
        obtain ⟨Qc9, hc12, h⟩ := h
        refine x_callV (as := []) (st := []) (Qc := Qc9) dX11_raised_59 mt_X11_raise ml_X11_223 ⟨by decide, by decide⟩ sh_79 rfl (fun _ _ => Nat.le_of_ble_eq_true rfl) hc12 (fun r10 M11 hr13 hM14 hq15 => ?_)
        replace h := h r10 M11 hr13 hM14 hq15
        change X_ kk_X11_raised 62 [v_P 79, v_I x1, v_U] [v_I r10] M11 Q
        refine y_istore_n (ls' := [v_P 79, v_I x1, v_I r10]) dX11_raised_62 rfl (by decide) rfl ?_
        refine x_iload_n dX11_raised_63 rfl rfl ?_
        refine x_if_ne (tgt := 74) dX11_raised_64 (by decide) (fun hc => ?_) (fun hc => ?_)
        · replace h := h.1 hc
          refine x_iload_n dX11_raised_74 rfl rfl ?_
          refine x_iconst dX11_raised_75 (by decide) ?_
          refine x_ic_ne (tgt := 83) dX11_raised_76 (by decide) (fun hc => ?_) (fun hc => ?_)
          · replace h := h.1 hc
            refine x_aload_n dX11_raised_83 rfl rfl ?_
            refine y_getP dX11_raised_84 sh_79 cf_X11 fl_X11_76 (by decide) (by decide) gg_79_26 ?_
            refine x_iload_n dX11_raised_87 rfl rfl ?_
            refine x_bipush dX11_raised_88 (by decide) (by decide) ?_
            obtain ⟨s16, h⟩ := h
            refine x_isub dX11_raised_90 s16 ?_
            obtain ⟨s17, h⟩ := h
            refine x_iald dX11_raised_91 sh_102 s17 ?_
            refine x_iret dX11_raised_92 rfl (Or.inl rfl) (fun _ _ => h)
          · replace h := h.2 hc
            refine x_iload_n dX11_raised_79 rfl rfl ?_
            refine x_goto (tgt := 92) dX11_raised_80 (by decide) ?_
            refine x_iret dX11_raised_92 rfl (Or.inl rfl) (fun _ _ => h)
        · replace h := h.2 hc
          refine x_aload_n dX11_raised_67 rfl rfl ?_
          refine x_getI dX11_raised_68 sh_79 cf_X11 fl_X11_216 (by decide) (by decide) ?_
          refine x_goto (tgt := 92) dX11_raised_71 (by decide) ?_
          refine x_iret dX11_raised_92 rfl (Or.inl rfl) (fun _ _ => h)
      · change X_ kk_X11_raised 34 [v_P 79, v_I x1, v_U] [v_I 0] M Q
        replace h := h.2 hc
        refine x_if_ne (tgt := 54) dX11_raised_34 (by decide) (fun hc => absurd hc (by decide)) (fun _ => ?_)
        refine x_iload_n dX11_raised_37 rfl rfl ?_
        refine x_i2l dX11_raised_38 ?_
        refine x_ldc2 (z := 10) dX11_raised_39 cl_X11_219 (by decide) (by decide) ?_
        refine x_ldc2 (z := 17) dX11_raised_42 cl_X11_221 (by decide) (by decide) ?_
        refine x_in (st := []) dX11_raised_45 ml_X11_110 ⟨by decide, by decide⟩ (fun _ _ => Nat.le_of_ble_eq_true rfl) (fun hc => ?_) (fun hc => ?_)
        · change X_ kk_X11_raised 48 [v_P 79, v_I x1, v_U] [v_I 1] M Q
          replace h := h.1 hc
          refine x_if_ne (tgt := 54) dX11_raised_48 (by decide) (fun _ => ?_) (fun hc => absurd hc (by decide))
          refine x_aload_n dX11_raised_54 rfl rfl ?_
          obtain ⟨Qc18, hc21, h⟩ := h
          refine x_callV (as := []) (st := []) (Qc := Qc18) dX11_raised_55 mt_X11_layWorths ml_X11_182 ⟨by decide, by decide⟩ sh_79 rfl (fun _ _ => Nat.le_of_ble_eq_true rfl) hc21 (fun r19 M20 hr22 hM23 hq24 => ?_)
          replace h := h r19 M20 hr22 hM23 hq24
          change X_ kk_X11_raised 58 [v_P 79, v_I x1, v_U] [] M20 Q
          refine x_aload_n dX11_raised_58 rfl rfl ?_
          obtain ⟨Qc25, hc28, h⟩ := h
          refine x_callV (as := []) (st := []) (Qc := Qc25) dX11_raised_59 mt_X11_raise ml_X11_223 ⟨by decide, by decide⟩ sh_79 rfl (fun _ _ => Nat.le_of_ble_eq_true rfl) hc28 (fun r26 M27 hr29 hM30 hq31 => ?_)
          replace h := h r26 M27 hr29 hM30 hq31
          change X_ kk_X11_raised 62 [v_P 79, v_I x1, v_U] [v_I r26] M27 Q
          refine y_istore_n (ls' := [v_P 79, v_I x1, v_I r26]) dX11_raised_62 rfl (by decide) rfl ?_
          refine x_iload_n dX11_raised_63 rfl rfl ?_
          refine x_if_ne (tgt := 74) dX11_raised_64 (by decide) (fun hc => ?_) (fun hc => ?_)
          · replace h := h.1 hc
            refine x_iload_n dX11_raised_74 rfl rfl ?_
            refine x_iconst dX11_raised_75 (by decide) ?_
            refine x_ic_ne (tgt := 83) dX11_raised_76 (by decide) (fun hc => ?_) (fun hc => ?_)
            · replace h := h.1 hc
              refine x_aload_n dX11_raised_83 rfl rfl ?_
              refine y_getP dX11_raised_84 sh_79 cf_X11 fl_X11_76 (by decide) (by decide) gg_79_26 ?_
              refine x_iload_n dX11_raised_87 rfl rfl ?_
              refine x_bipush dX11_raised_88 (by decide) (by decide) ?_
              obtain ⟨s32, h⟩ := h
              refine x_isub dX11_raised_90 s32 ?_
              obtain ⟨s33, h⟩ := h
              refine x_iald dX11_raised_91 sh_102 s33 ?_
              refine x_iret dX11_raised_92 rfl (Or.inl rfl) (fun _ _ => h)
            · replace h := h.2 hc
              refine x_iload_n dX11_raised_79 rfl rfl ?_
              refine x_goto (tgt := 92) dX11_raised_80 (by decide) ?_
              refine x_iret dX11_raised_92 rfl (Or.inl rfl) (fun _ _ => h)
          · replace h := h.2 hc
            refine x_aload_n dX11_raised_67 rfl rfl ?_
            refine x_getI dX11_raised_68 sh_79 cf_X11 fl_X11_216 (by decide) (by decide) ?_
            refine x_goto (tgt := 92) dX11_raised_71 (by decide) ?_
            refine x_iret dX11_raised_92 rfl (Or.inl rfl) (fun _ _ => h)
        · change X_ kk_X11_raised 48 [v_P 79, v_I x1, v_U] [v_I 0] M Q
          replace h := h.2 hc
          refine x_if_ne (tgt := 54) dX11_raised_48 (by decide) (fun hc => absurd hc (by decide)) (fun _ => ?_)
          refine x_bipush dX11_raised_51 (by decide) (by decide) ?_
          refine x_iret dX11_raised_53 rfl (Or.inl rfl) (fun _ _ => h)
    · change X_ kk_X11_raised 22 [v_P 79, v_I x1, v_U] [v_I 0] M Q
      replace h := h.2 hc
      refine x_if_ne (tgt := 27) dX11_raised_22 (by decide) (fun hc => absurd hc (by decide)) (fun _ => ?_)
      refine x_iconst dX11_raised_25 (by decide) ?_
      refine x_iret dX11_raised_26 rfl (Or.inl rfl) (fun _ _ => h)
  · change X_ kk_X11_raised 11 [v_P 79, v_I x1, v_U] [v_I 0] M Q
    replace h := h.2 hc
    refine x_if_eq (tgt := 27) dX11_raised_11 (by decide) (fun _ => ?_) (fun hc => absurd hc (by decide))
    refine x_iload_n dX11_raised_27 rfl rfl ?_
    refine x_i2l dX11_raised_28 ?_
    refine x_lconst (z := 0) dX11_raised_29 (by decide) (by decide) ?_
    refine x_lconst (z := 1) dX11_raised_30 (by decide) (by decide) ?_
    refine x_in (st := []) dX11_raised_31 ml_X11_110 ⟨by decide, by decide⟩ (fun _ _ => Nat.le_of_ble_eq_true rfl) (fun hc => ?_) (fun hc => ?_)
    · change X_ kk_X11_raised 34 [v_P 79, v_I x1, v_U] [v_I 1] M Q
      replace h := h.1 hc
      refine x_if_ne (tgt := 54) dX11_raised_34 (by decide) (fun _ => ?_) (fun hc => absurd hc (by decide))
      refine x_aload_n dX11_raised_54 rfl rfl ?_
      obtain ⟨Qc35, hc38, h⟩ := h
      refine x_callV (as := []) (st := []) (Qc := Qc35) dX11_raised_55 mt_X11_layWorths ml_X11_182 ⟨by decide, by decide⟩ sh_79 rfl (fun _ _ => Nat.le_of_ble_eq_true rfl) hc38 (fun r36 M37 hr39 hM40 hq41 => ?_)
      replace h := h r36 M37 hr39 hM40 hq41
      change X_ kk_X11_raised 58 [v_P 79, v_I x1, v_U] [] M37 Q
      refine x_aload_n dX11_raised_58 rfl rfl ?_
      obtain ⟨Qc42, hc45, h⟩ := h
      refine x_callV (as := []) (st := []) (Qc := Qc42) dX11_raised_59 mt_X11_raise ml_X11_223 ⟨by decide, by decide⟩ sh_79 rfl (fun _ _ => Nat.le_of_ble_eq_true rfl) hc45 (fun r43 M44 hr46 hM47 hq48 => ?_)
      replace h := h r43 M44 hr46 hM47 hq48
      change X_ kk_X11_raised 62 [v_P 79, v_I x1, v_U] [v_I r43] M44 Q
      refine y_istore_n (ls' := [v_P 79, v_I x1, v_I r43]) dX11_raised_62 rfl (by decide) rfl ?_
      refine x_iload_n dX11_raised_63 rfl rfl ?_
      refine x_if_ne (tgt := 74) dX11_raised_64 (by decide) (fun hc => ?_) (fun hc => ?_)
      · replace h := h.1 hc
        refine x_iload_n dX11_raised_74 rfl rfl ?_
        refine x_iconst dX11_raised_75 (by decide) ?_
        refine x_ic_ne (tgt := 83) dX11_raised_76 (by decide) (fun hc => ?_) (fun hc => ?_)
        · replace h := h.1 hc
          refine x_aload_n dX11_raised_83 rfl rfl ?_
          refine y_getP dX11_raised_84 sh_79 cf_X11 fl_X11_76 (by decide) (by decide) gg_79_26 ?_
          refine x_iload_n dX11_raised_87 rfl rfl ?_
          refine x_bipush dX11_raised_88 (by decide) (by decide) ?_
          obtain ⟨s49, h⟩ := h
          refine x_isub dX11_raised_90 s49 ?_
          obtain ⟨s50, h⟩ := h
          refine x_iald dX11_raised_91 sh_102 s50 ?_
          refine x_iret dX11_raised_92 rfl (Or.inl rfl) (fun _ _ => h)
        · replace h := h.2 hc
          refine x_iload_n dX11_raised_79 rfl rfl ?_
          refine x_goto (tgt := 92) dX11_raised_80 (by decide) ?_
          refine x_iret dX11_raised_92 rfl (Or.inl rfl) (fun _ _ => h)
      · replace h := h.2 hc
        refine x_aload_n dX11_raised_67 rfl rfl ?_
        refine x_getI dX11_raised_68 sh_79 cf_X11 fl_X11_216 (by decide) (by decide) ?_
        refine x_goto (tgt := 92) dX11_raised_71 (by decide) ?_
        refine x_iret dX11_raised_92 rfl (Or.inl rfl) (fun _ _ => h)
    · change X_ kk_X11_raised 34 [v_P 79, v_I x1, v_U] [v_I 0] M Q
      replace h := h.2 hc
      refine x_if_ne (tgt := 54) dX11_raised_34 (by decide) (fun hc => absurd hc (by decide)) (fun _ => ?_)
      refine x_iload_n dX11_raised_37 rfl rfl ?_
      refine x_i2l dX11_raised_38 ?_
      refine x_ldc2 (z := 10) dX11_raised_39 cl_X11_219 (by decide) (by decide) ?_
      refine x_ldc2 (z := 17) dX11_raised_42 cl_X11_221 (by decide) (by decide) ?_
      refine x_in (st := []) dX11_raised_45 ml_X11_110 ⟨by decide, by decide⟩ (fun _ _ => Nat.le_of_ble_eq_true rfl) (fun hc => ?_) (fun hc => ?_)
      · change X_ kk_X11_raised 48 [v_P 79, v_I x1, v_U] [v_I 1] M Q
        replace h := h.1 hc
        refine x_if_ne (tgt := 54) dX11_raised_48 (by decide) (fun _ => ?_) (fun hc => absurd hc (by decide))
        refine x_aload_n dX11_raised_54 rfl rfl ?_
        obtain ⟨Qc51, hc54, h⟩ := h
        refine x_callV (as := []) (st := []) (Qc := Qc51) dX11_raised_55 mt_X11_layWorths ml_X11_182 ⟨by decide, by decide⟩ sh_79 rfl (fun _ _ => Nat.le_of_ble_eq_true rfl) hc54 (fun r52 M53 hr55 hM56 hq57 => ?_)
        replace h := h r52 M53 hr55 hM56 hq57
        change X_ kk_X11_raised 58 [v_P 79, v_I x1, v_U] [] M53 Q
        refine x_aload_n dX11_raised_58 rfl rfl ?_
        obtain ⟨Qc58, hc61, h⟩ := h
        refine x_callV (as := []) (st := []) (Qc := Qc58) dX11_raised_59 mt_X11_raise ml_X11_223 ⟨by decide, by decide⟩ sh_79 rfl (fun _ _ => Nat.le_of_ble_eq_true rfl) hc61 (fun r59 M60 hr62 hM63 hq64 => ?_)
        replace h := h r59 M60 hr62 hM63 hq64
        change X_ kk_X11_raised 62 [v_P 79, v_I x1, v_U] [v_I r59] M60 Q
        refine y_istore_n (ls' := [v_P 79, v_I x1, v_I r59]) dX11_raised_62 rfl (by decide) rfl ?_
        refine x_iload_n dX11_raised_63 rfl rfl ?_
        refine x_if_ne (tgt := 74) dX11_raised_64 (by decide) (fun hc => ?_) (fun hc => ?_)
        · replace h := h.1 hc
          refine x_iload_n dX11_raised_74 rfl rfl ?_
          refine x_iconst dX11_raised_75 (by decide) ?_
          refine x_ic_ne (tgt := 83) dX11_raised_76 (by decide) (fun hc => ?_) (fun hc => ?_)
          · replace h := h.1 hc
            refine x_aload_n dX11_raised_83 rfl rfl ?_
            refine y_getP dX11_raised_84 sh_79 cf_X11 fl_X11_76 (by decide) (by decide) gg_79_26 ?_
            refine x_iload_n dX11_raised_87 rfl rfl ?_
            refine x_bipush dX11_raised_88 (by decide) (by decide) ?_
            obtain ⟨s65, h⟩ := h
            refine x_isub dX11_raised_90 s65 ?_
            obtain ⟨s66, h⟩ := h
            refine x_iald dX11_raised_91 sh_102 s66 ?_
            refine x_iret dX11_raised_92 rfl (Or.inl rfl) (fun _ _ => h)
          · replace h := h.2 hc
            refine x_iload_n dX11_raised_79 rfl rfl ?_
            refine x_goto (tgt := 92) dX11_raised_80 (by decide) ?_
            refine x_iret dX11_raised_92 rfl (Or.inl rfl) (fun _ _ => h)
        · replace h := h.2 hc
          refine x_aload_n dX11_raised_67 rfl rfl ?_
          refine x_getI dX11_raised_68 sh_79 cf_X11 fl_X11_216 (by decide) (by decide) ?_
          refine x_goto (tgt := 92) dX11_raised_71 (by decide) ?_
          refine x_iret dX11_raised_92 rfl (Or.inl rfl) (fun _ _ => h)
      · change X_ kk_X11_raised 48 [v_P 79, v_I x1, v_U] [v_I 0] M Q
        replace h := h.2 hc
        refine x_if_ne (tgt := 54) dX11_raised_48 (by decide) (fun hc => absurd hc (by decide)) (fun _ => ?_)
        refine x_bipush dX11_raised_51 (by decide) (by decide) ?_
        refine x_iret dX11_raised_53 rfl (Or.inl rfl) (fun _ _ => h)
theorem wp_X11_exchange_0 {x1 x2 : Int} {M : mM} {Q : Int → mM → Prop} (h : (0 ≤ x1 ∧ x1 < 8) ∧ (0 ≤ x2 ∧ x2 < 8) ∧ (0 ≤ x1 ∧ x1 < 8) ∧ (0 ≤ x2 ∧ x2 < 8) ∧ Q 0 (m_up (m_up M 83 x1.toNat (M 83 x2.toNat)) 83 x2.toNat (M 83 x1.toNat))) : X_ kk_X11_exchange 0 [v_P 79, v_I x1, v_I x2, v_U] [] M Q := by
  refine x_aload_n dX11_exchange_0 rfl rfl ?_
  refine y_getP dX11_exchange_1 sh_79 cf_X11 fl_X11_19 (by decide) (by decide) gg_79_3 ?_
  refine x_iload_n dX11_exchange_4 rfl rfl ?_
  obtain ⟨s1, h⟩ := h
  refine x_iald dX11_exchange_5 sh_83 s1 ?_
  refine y_istore_n (ls' := [v_P 79, v_I x1, v_I x2, v_I (M 83 x1.toNat)]) dX11_exchange_6 rfl (by decide) rfl ?_
  refine x_aload_n dX11_exchange_7 rfl rfl ?_
  refine y_getP dX11_exchange_8 sh_79 cf_X11 fl_X11_19 (by decide) (by decide) gg_79_3 ?_
  refine x_iload_n dX11_exchange_11 rfl rfl ?_
  refine x_aload_n dX11_exchange_12 rfl rfl ?_
  refine y_getP dX11_exchange_13 sh_79 cf_X11 fl_X11_19 (by decide) (by decide) gg_79_3 ?_
  refine x_iload_n dX11_exchange_16 rfl rfl ?_
  obtain ⟨s2, h⟩ := h
  refine x_iald dX11_exchange_17 sh_83 s2 ?_
  obtain ⟨s3, h⟩ := h
  refine x_iast dX11_exchange_18 sh_83 s3 ?_
  refine x_aload_n dX11_exchange_19 rfl rfl ?_
  refine y_getP dX11_exchange_20 sh_79 cf_X11 fl_X11_19 (by decide) (by decide) gg_79_3 ?_
  refine x_iload_n dX11_exchange_23 rfl rfl ?_
  refine x_iload_n dX11_exchange_24 rfl rfl ?_
  obtain ⟨s4, h⟩ := h
  refine x_iast dX11_exchange_25 sh_83 s4 ?_
  refine x_ret dX11_exchange_26 rfl (fun _ => h)
theorem wp_X11_nextOrder_0 {M : mM} {Q : Int → mM → Prop} (h : (m_ir ((M 79 4) - 2)) ∧ X_ kk_X11_nextOrder 7 [v_P 79, v_I ((M 79 4) - 2), v_U, v_U] [] M Q) : X_ kk_X11_nextOrder 0 [v_P 79, v_U, v_U, v_U] [] M Q := by
  refine x_aload_n dX11_nextOrder_0 rfl rfl ?_
  refine x_getI dX11_nextOrder_1 sh_79 cf_X11 fl_X11_107 (by decide) (by decide) ?_
  refine x_iconst dX11_nextOrder_4 (by decide) ?_
  obtain ⟨s1, h⟩ := h
  refine x_isub dX11_nextOrder_5 s1 ?_
  refine y_istore_n (ls' := [v_P 79, v_I ((M 79 4) - 2), v_U, v_U]) dX11_nextOrder_6 rfl (by decide) rfl ?_
  exact h
theorem wp_X11_nextOrder_7 {x1 : Int} {M : mM} {Q : Int → mM → Prop} (h : (x1 < 0 → (0 ≤ x1 → (m_ir ((M 79 4) - 1)) ∧ X_ kk_X11_nextOrder 47 [v_P 79, v_I x1, v_I ((M 79 4) - 1), v_U] [] M Q) ∧ (¬ 0 ≤ x1 → Q 0 M)) ∧ (¬ x1 < 0 → (0 ≤ x1 ∧ x1 < 8) ∧ (m_ir (x1 + 1)) ∧ (0 ≤ (x1 + 1) ∧ (x1 + 1) < 8) ∧ ((M 83 x1.toNat) ≤ (M 83 ((x1 + 1).toNat)) → (0 ≤ x1 → (m_ir ((M 79 4) - 1)) ∧ X_ kk_X11_nextOrder 47 [v_P 79, v_I x1, v_I ((M 79 4) - 1), v_U] [] M Q) ∧ (¬ 0 ≤ x1 → Q 0 M)) ∧ (¬ (M 83 x1.toNat) ≤ (M 83 ((x1 + 1).toNat)) → (m_ir (x1 + (-1))) ∧ X_ kk_X11_nextOrder 7 [v_P 79, v_I (x1 + (-1)), v_U, v_U] [] M Q))) : X_ kk_X11_nextOrder 7 [v_P 79, v_I x1, v_U, v_U] [] M Q := by
  refine x_iload_n dX11_nextOrder_7 rfl rfl ?_
  refine x_if_lt (tgt := 34) dX11_nextOrder_8 (by decide) (fun hc => ?_) (fun hc => ?_)
  · replace h := h.1 hc
    refine x_iload_n dX11_nextOrder_34 rfl rfl ?_
    refine x_if_ge (tgt := 40) dX11_nextOrder_35 (by decide) (fun hc => ?_) (fun hc => ?_)
    · replace h := h.1 hc
      refine x_aload_n dX11_nextOrder_40 rfl rfl ?_
      refine x_getI dX11_nextOrder_41 sh_79 cf_X11 fl_X11_107 (by decide) (by decide) ?_
      refine x_iconst dX11_nextOrder_44 (by decide) ?_
      obtain ⟨s1, h⟩ := h
      refine x_isub dX11_nextOrder_45 s1 ?_
      refine y_istore_n (ls' := [v_P 79, v_I x1, v_I ((M 79 4) - 1), v_U]) dX11_nextOrder_46 rfl (by decide) rfl ?_
      exact h
    · replace h := h.2 hc
      refine x_iconst dX11_nextOrder_38 (by decide) ?_
      refine x_iret dX11_nextOrder_39 rfl (Or.inr ⟨rfl, Or.inl rfl⟩) (fun _ _ => h)
  · replace h := h.2 hc
    refine x_aload_n dX11_nextOrder_11 rfl rfl ?_
    refine y_getP dX11_nextOrder_12 sh_79 cf_X11 fl_X11_19 (by decide) (by decide) gg_79_3 ?_
    refine x_iload_n dX11_nextOrder_15 rfl rfl ?_
    obtain ⟨s2, h⟩ := h
    refine x_iald dX11_nextOrder_16 sh_83 s2 ?_
    refine x_aload_n dX11_nextOrder_17 rfl rfl ?_
    refine y_getP dX11_nextOrder_18 sh_79 cf_X11 fl_X11_19 (by decide) (by decide) gg_79_3 ?_
    refine x_iload_n dX11_nextOrder_21 rfl rfl ?_
    refine x_iconst dX11_nextOrder_22 (by decide) ?_
    obtain ⟨s3, h⟩ := h
    refine x_iadd dX11_nextOrder_23 s3 ?_
    obtain ⟨s4, h⟩ := h
    refine x_iald dX11_nextOrder_24 sh_83 s4 ?_
    refine x_ic_le (tgt := 34) dX11_nextOrder_25 (by decide) (fun hc => ?_) (fun hc => ?_)
    · replace h := h.1 hc
      refine x_iload_n dX11_nextOrder_34 rfl rfl ?_
      refine x_if_ge (tgt := 40) dX11_nextOrder_35 (by decide) (fun hc => ?_) (fun hc => ?_)
      · replace h := h.1 hc
        refine x_aload_n dX11_nextOrder_40 rfl rfl ?_
        refine x_getI dX11_nextOrder_41 sh_79 cf_X11 fl_X11_107 (by decide) (by decide) ?_
        refine x_iconst dX11_nextOrder_44 (by decide) ?_
        obtain ⟨s5, h⟩ := h
        refine x_isub dX11_nextOrder_45 s5 ?_
        refine y_istore_n (ls' := [v_P 79, v_I x1, v_I ((M 79 4) - 1), v_U]) dX11_nextOrder_46 rfl (by decide) rfl ?_
        exact h
      · replace h := h.2 hc
        refine x_iconst dX11_nextOrder_38 (by decide) ?_
        refine x_iret dX11_nextOrder_39 rfl (Or.inr ⟨rfl, Or.inl rfl⟩) (fun _ _ => h)
    · replace h := h.2 hc
      obtain ⟨s6, h⟩ := h
      refine y_iinc (ls' := [v_P 79, v_I (x1 + (-1)), v_U, v_U]) dX11_nextOrder_28 rfl s6 (by decide) rfl ?_
      refine x_goto (tgt := 7) dX11_nextOrder_31 (by decide) ?_
      exact h
theorem wp_X11_nextOrder_47 {x1 x2 : Int} {M : mM} {Q : Int → mM → Prop} (h : (0 ≤ x2 ∧ x2 < 8) ∧ (0 ≤ x1 ∧ x1 < 8) ∧ ((M 83 x1.toNat) ≤ (M 83 x2.toNat) → ∃ Qc3 : Int → mM → Prop, C_ kk_X11_exchange [v_P 79, v_I x1, v_I x2] M Qc3 ∧ ∀ (r4 : Int) (M5 : mM), m_ir r4 → m_okM M5 → Qc3 r4 M5 → (m_ir (x1 + 1)) ∧ X_ kk_X11_nextOrder 78 [v_P 79, v_I x1, v_U, v_I (x1 + 1)] [] M5 Q) ∧ (¬ (M 83 x1.toNat) ≤ (M 83 x2.toNat) → (m_ir (x2 + (-1))) ∧ X_ kk_X11_nextOrder 47 [v_P 79, v_I x1, v_I (x2 + (-1)), v_U] [] M Q)) : X_ kk_X11_nextOrder 47 [v_P 79, v_I x1, v_I x2, v_U] [] M Q := by
  refine x_aload_n dX11_nextOrder_47 rfl rfl ?_
  refine y_getP dX11_nextOrder_48 sh_79 cf_X11 fl_X11_19 (by decide) (by decide) gg_79_3 ?_
  refine x_iload_n dX11_nextOrder_51 rfl rfl ?_
  obtain ⟨s1, h⟩ := h
  refine x_iald dX11_nextOrder_52 sh_83 s1 ?_
  refine x_aload_n dX11_nextOrder_53 rfl rfl ?_
  refine y_getP dX11_nextOrder_54 sh_79 cf_X11 fl_X11_19 (by decide) (by decide) gg_79_3 ?_
  refine x_iload_n dX11_nextOrder_57 rfl rfl ?_
  obtain ⟨s2, h⟩ := h
  refine x_iald dX11_nextOrder_58 sh_83 s2 ?_
  refine x_ic_ge (tgt := 68) dX11_nextOrder_59 (by decide) (fun hc => ?_) (fun hc => ?_)
  · replace h := h.1 hc
    refine x_aload_n dX11_nextOrder_68 rfl rfl ?_
    refine x_iload_n dX11_nextOrder_69 rfl rfl ?_
    refine x_iload_n dX11_nextOrder_70 rfl rfl ?_
    obtain ⟨Qc3, hc6, h⟩ := h
    refine x_callV (as := [v_I x1, v_I x2]) (st := []) (Qc := Qc3) dX11_nextOrder_71 mt_X11_exchange ml_X11_226 ⟨by decide, by decide⟩ sh_79 rfl (fun _ _ => Nat.le_of_ble_eq_true rfl) hc6 (fun r4 M5 hr7 hM8 hq9 => ?_)
    replace h := h r4 M5 hr7 hM8 hq9
    change X_ kk_X11_nextOrder 74 [v_P 79, v_I x1, v_I x2, v_U] [] M5 Q
    refine x_iload_n dX11_nextOrder_74 rfl rfl ?_
    refine x_iconst dX11_nextOrder_75 (by decide) ?_
    obtain ⟨s10, h⟩ := h
    refine x_iadd dX11_nextOrder_76 s10 ?_
    refine y_istore_n (ls' := [v_P 79, v_I x1, v_I x2, v_I (x1 + 1)]) dX11_nextOrder_77 rfl (by decide) rfl ?_
    refine y_forget 2 (ls' := [v_P 79, v_I x1, v_U, v_I (x1 + 1)]) rfl ?_
    exact h
  · replace h := h.2 hc
    obtain ⟨s11, h⟩ := h
    refine y_iinc (ls' := [v_P 79, v_I x1, v_I (x2 + (-1)), v_U]) dX11_nextOrder_62 rfl s11 (by decide) rfl ?_
    refine x_goto (tgt := 47) dX11_nextOrder_65 (by decide) ?_
    exact h
theorem wp_X11_nextOrder_78 {x1 x3 : Int} {M : mM} {Q : Int → mM → Prop} (h : (m_ir ((M 79 4) + x1)) ∧ (m_ir (((M 79 4) + x1) - x3)) ∧ ((((M 79 4) + x1) - x3) ≤ x3 → Q 1 M) ∧ (¬ (((M 79 4) + x1) - x3) ≤ x3 → (m_ir ((M 79 4) + x1)) ∧ (m_ir (((M 79 4) + x1) - x3)) ∧ ∃ Qc5 : Int → mM → Prop, C_ kk_X11_exchange [v_P 79, v_I x3, v_I (((M 79 4) + x1) - x3)] M Qc5 ∧ ∀ (r6 : Int) (M7 : mM), m_ir r6 → m_okM M7 → Qc5 r6 M7 → (m_ir (x3 + 1)) ∧ X_ kk_X11_nextOrder 78 [v_P 79, v_I x1, v_U, v_I (x3 + 1)] [] M7 Q)) : X_ kk_X11_nextOrder 78 [v_P 79, v_I x1, v_U, v_I x3] [] M Q := by
  refine x_iload_n dX11_nextOrder_78 rfl rfl ?_
  refine x_aload_n dX11_nextOrder_79 rfl rfl ?_
  refine x_getI dX11_nextOrder_80 sh_79 cf_X11 fl_X11_107 (by decide) (by decide) ?_
  refine x_iload_n dX11_nextOrder_83 rfl rfl ?_
  obtain ⟨s1, h⟩ := h
  refine x_iadd dX11_nextOrder_84 s1 ?_
  refine x_iload_n dX11_nextOrder_85 rfl rfl ?_
  obtain ⟨s2, h⟩ := h
  refine x_isub dX11_nextOrder_86 s2 ?_
  refine x_ic_ge (tgt := 109) dX11_nextOrder_87 (by decide) (fun hc => ?_) (fun hc => ?_)
  · replace h := h.1 hc
    refine x_iconst dX11_nextOrder_109 (by decide) ?_
    refine x_iret dX11_nextOrder_110 rfl (Or.inr ⟨rfl, Or.inr rfl⟩) (fun _ _ => h)
  · replace h := h.2 hc
    refine x_aload_n dX11_nextOrder_90 rfl rfl ?_
    refine x_iload_n dX11_nextOrder_91 rfl rfl ?_
    refine x_aload_n dX11_nextOrder_92 rfl rfl ?_
    refine x_getI dX11_nextOrder_93 sh_79 cf_X11 fl_X11_107 (by decide) (by decide) ?_
    refine x_iload_n dX11_nextOrder_96 rfl rfl ?_
    obtain ⟨s3, h⟩ := h
    refine x_iadd dX11_nextOrder_97 s3 ?_
    refine x_iload_n dX11_nextOrder_98 rfl rfl ?_
    obtain ⟨s4, h⟩ := h
    refine x_isub dX11_nextOrder_99 s4 ?_
    obtain ⟨Qc5, hc8, h⟩ := h
    refine x_callV (as := [v_I x3, v_I (((M 79 4) + x1) - x3)]) (st := []) (Qc := Qc5) dX11_nextOrder_100 mt_X11_exchange ml_X11_226 ⟨by decide, by decide⟩ sh_79 rfl (fun _ _ => Nat.le_of_ble_eq_true rfl) hc8 (fun r6 M7 hr9 hM10 hq11 => ?_)
    replace h := h r6 M7 hr9 hM10 hq11
    change X_ kk_X11_nextOrder 103 [v_P 79, v_I x1, v_U, v_I x3] [] M7 Q
    obtain ⟨s12, h⟩ := h
    refine y_iinc (ls' := [v_P 79, v_I x1, v_U, v_I (x3 + 1)]) dX11_nextOrder_103 rfl s12 (by decide) rfl ?_
    refine x_goto (tgt := 78) dX11_nextOrder_106 (by decide) ?_
    exact h
theorem wp_X11_worthOfAll_0 {M : mM} {Q : Int → mM → Prop} (h : X_ kk_X11_worthOfAll 4 [v_P 79, v_I 0, v_I 0] [] M Q) : X_ kk_X11_worthOfAll 0 [v_P 79, v_U, v_U] [] M Q := by
  refine x_iconst dX11_worthOfAll_0 (by decide) ?_
  refine y_istore_n (ls' := [v_P 79, v_I 0, v_U]) dX11_worthOfAll_1 rfl (by decide) rfl ?_
  refine x_iconst dX11_worthOfAll_2 (by decide) ?_
  refine y_istore_n (ls' := [v_P 79, v_I 0, v_I 0]) dX11_worthOfAll_3 rfl (by decide) rfl ?_
  exact h
theorem wp_X11_worthOfAll_4 {x1 x2 : Int} {M : mM} {Q : Int → mM → Prop} (h : ((M 79 8) ≤ x2 → Q x1 M) ∧ (¬ (M 79 8) ≤ x2 → ∃ Qc1 : Int → mM → Prop, C_ kk_X11_worthOfDay [v_P 79, v_I x2] M Qc1 ∧ ∀ (r2 : Int) (M3 : mM), m_ir r2 → m_okM M3 → Qc1 r2 M3 → (m_ir (x1 + r2)) ∧ (m_ir (x2 + 1)) ∧ X_ kk_X11_worthOfAll 4 [v_P 79, v_I (x1 + r2), v_I (x2 + 1)] [] M3 Q)) : X_ kk_X11_worthOfAll 4 [v_P 79, v_I x1, v_I x2] [] M Q := by
  refine x_iload_n dX11_worthOfAll_4 rfl rfl ?_
  refine x_aload_n dX11_worthOfAll_5 rfl rfl ?_
  refine x_getI dX11_worthOfAll_6 sh_79 cf_X11 fl_X11_114 (by decide) (by decide) ?_
  refine x_ic_ge (tgt := 26) dX11_worthOfAll_9 (by decide) (fun hc => ?_) (fun hc => ?_)
  · replace h := h.1 hc
    refine x_iload_n dX11_worthOfAll_26 rfl rfl ?_
    refine x_iret dX11_worthOfAll_27 rfl (Or.inl rfl) (fun _ _ => h)
  · replace h := h.2 hc
    refine x_iload_n dX11_worthOfAll_12 rfl rfl ?_
    refine x_aload_n dX11_worthOfAll_13 rfl rfl ?_
    refine x_iload_n dX11_worthOfAll_14 rfl rfl ?_
    obtain ⟨Qc1, hc4, h⟩ := h
    refine x_callV (as := [v_I x2]) (st := [v_I x1]) (Qc := Qc1) dX11_worthOfAll_15 mt_X11_worthOfDay ml_X11_191 ⟨by decide, by decide⟩ sh_79 rfl (fun _ _ => Nat.le_of_ble_eq_true rfl) hc4 (fun r2 M3 hr5 hM6 hq7 => ?_)
    replace h := h r2 M3 hr5 hM6 hq7
    change X_ kk_X11_worthOfAll 18 [v_P 79, v_I x1, v_I x2] [v_I r2, v_I x1] M3 Q
    obtain ⟨s8, h⟩ := h
    refine x_iadd dX11_worthOfAll_18 s8 ?_
    refine y_istore_n (ls' := [v_P 79, v_I (x1 + r2), v_I x2]) dX11_worthOfAll_19 rfl (by decide) rfl ?_
    obtain ⟨s9, h⟩ := h
    refine y_iinc (ls' := [v_P 79, v_I (x1 + r2), v_I (x2 + 1)]) dX11_worthOfAll_20 rfl s9 (by decide) rfl ?_
    refine x_goto (tgt := 4) dX11_worthOfAll_23 (by decide) ?_
    exact h
theorem wp_X11_findOrders_0 {M : mM} {Q : Int → mM → Prop} (h : ∃ Qc1 : Int → mM → Prop, C_ kk_X11_layWorths [v_P 79] M Qc1 ∧ ∀ (r2 : Int) (M3 : mM), m_ir r2 → m_okM M3 → Qc1 r2 M3 → X_ kk_X11_findOrders 6 [v_P 79, v_I 0, v_U, v_U] [] M3 Q) : X_ kk_X11_findOrders 0 [v_P 79, v_U, v_U, v_U] [] M Q := by
  refine x_aload_n dX11_findOrders_0 rfl rfl ?_
  obtain ⟨Qc1, hc4, h⟩ := h
  refine x_callV (as := []) (st := []) (Qc := Qc1) dX11_findOrders_1 mt_X11_layWorths ml_X11_182 ⟨by decide, by decide⟩ sh_79 rfl (fun _ _ => Nat.le_of_ble_eq_true rfl) hc4 (fun r2 M3 hr5 hM6 hq7 => ?_)
  replace h := h r2 M3 hr5 hM6 hq7
  change X_ kk_X11_findOrders 4 [v_P 79, v_U, v_U, v_U] [] M3 Q
  refine x_iconst dX11_findOrders_4 (by decide) ?_
  refine y_istore_n (ls' := [v_P 79, v_I 0, v_U, v_U]) dX11_findOrders_5 rfl (by decide) rfl ?_
  exact h
theorem wp_X11_findOrders_6 {x1 : Int} {M : mM} {Q : Int → mM → Prop} (h : ((M 79 4) ≤ x1 → X_ kk_X11_findOrders 52 [v_P 79, v_I 1, v_U, v_U] [] (m_up (m_up M 79 32 (-1)) 79 33 1000000000) Q) ∧ (¬ (M 79 4) ≤ x1 → (0 ≤ x1 ∧ x1 < 8) ∧ (0 ≤ x1 ∧ x1 < 8) ∧ (0 ≤ x1 ∧ x1 < 8) ∧ (m_ir (x1 + 1)) ∧ X_ kk_X11_findOrders 6 [v_P 79, v_I (x1 + 1), v_U, v_U] [] (m_up (m_up M 104 x1.toNat (M 83 x1.toNat)) 83 x1.toNat x1) Q)) : X_ kk_X11_findOrders 6 [v_P 79, v_I x1, v_U, v_U] [] M Q := by
  refine x_iload_n dX11_findOrders_6 rfl rfl ?_
  refine x_aload_n dX11_findOrders_7 rfl rfl ?_
  refine x_getI dX11_findOrders_8 sh_79 cf_X11 fl_X11_107 (by decide) (by decide) ?_
  refine x_ic_ge (tgt := 39) dX11_findOrders_11 (by decide) (fun hc => ?_) (fun hc => ?_)
  · replace h := h.1 hc
    refine x_aload_n dX11_findOrders_39 rfl rfl ?_
    refine x_iconst dX11_findOrders_40 (by decide) ?_
    refine x_putI dX11_findOrders_41 sh_79 cf_X11 fl_X11_230 (by decide) rfl (by decide) (Or.inl rfl) ?_
    refine x_aload_n dX11_findOrders_44 rfl rfl ?_
    refine x_ldc (n := 1000000000) dX11_findOrders_45 ct_X11_233 (by decide) (by decide) ?_
    refine x_putI dX11_findOrders_47 sh_79 cf_X11 fl_X11_234 (by decide) rfl (by decide) (Or.inl rfl) ?_
    refine x_iconst dX11_findOrders_50 (by decide) ?_
    refine y_istore_n (ls' := [v_P 79, v_I 1, v_U, v_U]) dX11_findOrders_51 rfl (by decide) rfl ?_
    exact h
  · replace h := h.2 hc
    refine x_aload_n dX11_findOrders_14 rfl rfl ?_
    refine y_getP dX11_findOrders_15 sh_79 cf_X11 fl_X11_82 (by decide) (by decide) gg_79_29 ?_
    refine x_iload_n dX11_findOrders_18 rfl rfl ?_
    refine x_aload_n dX11_findOrders_19 rfl rfl ?_
    refine y_getP dX11_findOrders_20 sh_79 cf_X11 fl_X11_19 (by decide) (by decide) gg_79_3 ?_
    refine x_iload_n dX11_findOrders_23 rfl rfl ?_
    obtain ⟨s1, h⟩ := h
    refine x_iald dX11_findOrders_24 sh_83 s1 ?_
    obtain ⟨s2, h⟩ := h
    refine x_iast dX11_findOrders_25 sh_104 s2 ?_
    refine x_aload_n dX11_findOrders_26 rfl rfl ?_
    refine y_getP dX11_findOrders_27 sh_79 cf_X11 fl_X11_19 (by decide) (by decide) gg_79_3 ?_
    refine x_iload_n dX11_findOrders_30 rfl rfl ?_
    refine x_iload_n dX11_findOrders_31 rfl rfl ?_
    obtain ⟨s3, h⟩ := h
    refine x_iast dX11_findOrders_32 sh_83 s3 ?_
    obtain ⟨s4, h⟩ := h
    refine y_iinc (ls' := [v_P 79, v_I (x1 + 1), v_U, v_U]) dX11_findOrders_33 rfl s4 (by decide) rfl ?_
    refine x_goto (tgt := 6) dX11_findOrders_36 (by decide) ?_
    exact h
theorem wp_X11_findOrders_52 {x1 : Int} {M : mM} {Q : Int → mM → Prop} (h : (x1 = 0 → X_ kk_X11_findOrders 193 [v_P 79, v_U, v_I 0, v_U] [] M Q) ∧ (¬ x1 = 0 → ∃ Qc1 : Int → mM → Prop, C_ kk_X11_runDay [v_P 79, v_I (M 79 9)] M Qc1 ∧ ∀ (r2 : Int) (M3 : mM), m_ir r2 → m_okM M3 → Qc1 r2 M3 → ∃ Qc8 : Int → mM → Prop, C_ kk_X11_worthOfAll [v_P 79] M3 Qc8 ∧ ∀ (r9 : Int) (M10 : mM), m_ir r9 → m_okM M10 → Qc8 r9 M10 → X_ kk_X11_findOrders 71 [v_P 79, v_U, v_I r9, v_I 0] [] M10 Q)) : X_ kk_X11_findOrders 52 [v_P 79, v_I x1, v_U, v_U] [] M Q := by
  refine x_iload_n dX11_findOrders_52 rfl rfl ?_
  refine x_if_eq (tgt := 191) dX11_findOrders_53 (by decide) (fun hc => ?_) (fun hc => ?_)
  · replace h := h.1 hc
    refine x_iconst dX11_findOrders_191 (by decide) ?_
    refine y_istore_n (ls' := [v_P 79, v_I x1, v_I 0, v_U]) dX11_findOrders_192 rfl (by decide) rfl ?_
    refine y_forget 1 (ls' := [v_P 79, v_U, v_I 0, v_U]) rfl ?_
    exact h
  · replace h := h.2 hc
    refine x_aload_n dX11_findOrders_56 rfl rfl ?_
    refine x_aload_n dX11_findOrders_57 rfl rfl ?_
    refine x_getI dX11_findOrders_58 sh_79 cf_X11 fl_X11_103 (by decide) (by decide) ?_
    obtain ⟨Qc1, hc4, h⟩ := h
    refine x_callV (as := [v_I (M 79 9)]) (st := []) (Qc := Qc1) dX11_findOrders_61 mt_X11_runDay ml_X11_185 ⟨by decide, by decide⟩ sh_79 rfl (fun _ _ => Nat.le_of_ble_eq_true rfl) hc4 (fun r2 M3 hr5 hM6 hq7 => ?_)
    replace h := h r2 M3 hr5 hM6 hq7
    change X_ kk_X11_findOrders 64 [v_P 79, v_I x1, v_U, v_U] [] M3 Q
    refine x_aload_n dX11_findOrders_64 rfl rfl ?_
    obtain ⟨Qc8, hc11, h⟩ := h
    refine x_callV (as := []) (st := []) (Qc := Qc8) dX11_findOrders_65 mt_X11_worthOfAll ml_X11_237 ⟨by decide, by decide⟩ sh_79 rfl (fun _ _ => Nat.le_of_ble_eq_true rfl) hc11 (fun r9 M10 hr12 hM13 hq14 => ?_)
    replace h := h r9 M10 hr12 hM13 hq14
    change X_ kk_X11_findOrders 68 [v_P 79, v_I x1, v_U, v_U] [v_I r9] M10 Q
    refine y_istore_n (ls' := [v_P 79, v_I x1, v_I r9, v_U]) dX11_findOrders_68 rfl (by decide) rfl ?_
    refine x_iconst dX11_findOrders_69 (by decide) ?_
    refine y_istore_n (ls' := [v_P 79, v_I x1, v_I r9, v_I 0]) dX11_findOrders_70 rfl (by decide) rfl ?_
    refine y_forget 1 (ls' := [v_P 79, v_U, v_I r9, v_I 0]) rfl ?_
    exact h
theorem wp_X11_findOrders_71 {x2 x3 : Int} {M : mM} {Q : Int → mM → Prop} (h : ((M 79 4) ≤ x3 → (x2 ≤ (M 79 32) → ((M 79 33) ≤ x2 → ∃ Qc1 : Int → mM → Prop, C_ kk_X11_nextOrder [v_P 79] (m_up (m_up M 79 32 (M 79 32)) 79 33 (M 79 33)) Qc1 ∧ ∀ (r2 : Int) (M3 : mM), m_ir r2 → m_okM M3 → Qc1 r2 M3 → X_ kk_X11_findOrders 52 [v_P 79, v_I r2, v_U, v_U] [] M3 Q) ∧ (¬ (M 79 33) ≤ x2 → ∃ Qc8 : Int → mM → Prop, C_ kk_X11_nextOrder [v_P 79] (m_up (m_up M 79 32 (M 79 32)) 79 33 x2) Qc8 ∧ ∀ (r9 : Int) (M10 : mM), m_ir r9 → m_okM M10 → Qc8 r9 M10 → X_ kk_X11_findOrders 52 [v_P 79, v_I r9, v_U, v_U] [] M10 Q)) ∧ (¬ x2 ≤ (M 79 32) → ((M 79 33) ≤ x2 → ∃ Qc15 : Int → mM → Prop, C_ kk_X11_nextOrder [v_P 79] (m_up (m_up M 79 32 x2) 79 33 (M 79 33)) Qc15 ∧ ∀ (r16 : Int) (M17 : mM), m_ir r16 → m_okM M17 → Qc15 r16 M17 → X_ kk_X11_findOrders 52 [v_P 79, v_I r16, v_U, v_U] [] M17 Q) ∧ (¬ (M 79 33) ≤ x2 → ∃ Qc22 : Int → mM → Prop, C_ kk_X11_nextOrder [v_P 79] (m_up (m_up M 79 32 x2) 79 33 x2) Qc22 ∧ ∀ (r23 : Int) (M24 : mM), m_ir r23 → m_okM M24 → Qc22 r23 M24 → X_ kk_X11_findOrders 52 [v_P 79, v_I r23, v_U, v_U] [] M24 Q))) ∧ (¬ (M 79 4) ≤ x3 → (x2 ≤ (M 79 32) → (0 ≤ x3 ∧ x3 < 8) ∧ (0 ≤ x3 ∧ x3 < 8) ∧ ((M 79 33) ≤ x2 → (0 ≤ x3 ∧ x3 < 8) ∧ (0 ≤ x3 ∧ x3 < 8) ∧ ∀ M33 : mM, M33 = m_up (m_up M 105 x3.toNat (M 105 x3.toNat)) 106 x3.toNat (M 106 x3.toNat) → (m_ir (x3 + 1)) ∧ X_ kk_X11_findOrders 71 [v_P 79, v_U, v_I x2, v_I (x3 + 1)] [] M33 Q) ∧ (¬ (M 79 33) ≤ x2 → (0 ≤ x3 ∧ x3 < 8) ∧ (0 ≤ x3 ∧ x3 < 8) ∧ ∀ M38 : mM, M38 = m_up (m_up M 105 x3.toNat (M 105 x3.toNat)) 106 x3.toNat (M 83 x3.toNat) → (m_ir (x3 + 1)) ∧ X_ kk_X11_findOrders 71 [v_P 79, v_U, v_I x2, v_I (x3 + 1)] [] M38 Q)) ∧ (¬ x2 ≤ (M 79 32) → (0 ≤ x3 ∧ x3 < 8) ∧ (0 ≤ x3 ∧ x3 < 8) ∧ ((M 79 33) ≤ x2 → (0 ≤ x3 ∧ x3 < 8) ∧ (0 ≤ x3 ∧ x3 < 8) ∧ ∀ M45 : mM, M45 = m_up (m_up M 105 x3.toNat (M 83 x3.toNat)) 106 x3.toNat (M 106 x3.toNat) → (m_ir (x3 + 1)) ∧ X_ kk_X11_findOrders 71 [v_P 79, v_U, v_I x2, v_I (x3 + 1)] [] M45 Q) ∧ (¬ (M 79 33) ≤ x2 → (0 ≤ x3 ∧ x3 < 8) ∧ (0 ≤ x3 ∧ x3 < 8) ∧ ∀ M50 : mM, M50 = m_up (m_up M 105 x3.toNat (M 83 x3.toNat)) 106 x3.toNat (M 83 x3.toNat) → (m_ir (x3 + 1)) ∧ X_ kk_X11_findOrders 71 [v_P 79, v_U, v_I x2, v_I (x3 + 1)] [] M50 Q)))) : X_ kk_X11_findOrders 71 [v_P 79, v_U, v_I x2, v_I x3] [] M Q := by
  refine x_iload_n dX11_findOrders_71 rfl rfl ?_
  refine x_aload_n dX11_findOrders_72 rfl rfl ?_
  refine x_getI dX11_findOrders_73 sh_79 cf_X11 fl_X11_107 (by decide) (by decide) ?_
  refine x_ic_ge (tgt := 143) dX11_findOrders_76 (by decide) (fun hc => ?_) (fun hc => ?_)
  · replace h := h.1 hc
    refine x_aload_n dX11_findOrders_143 rfl rfl ?_
    refine x_iload_n dX11_findOrders_144 rfl rfl ?_
    refine x_aload_n dX11_findOrders_145 rfl rfl ?_
    refine x_getI dX11_findOrders_146 sh_79 cf_X11 fl_X11_230 (by decide) (by decide) ?_
    refine x_ic_le (tgt := 156) dX11_findOrders_149 (by decide) (fun hc => ?_) (fun hc => ?_)
    · replace h := h.1 hc
      refine x_aload_n dX11_findOrders_156 rfl rfl ?_
      refine x_getI dX11_findOrders_157 sh_79 cf_X11 fl_X11_230 (by decide) (by decide) ?_
      refine x_putI dX11_findOrders_160 sh_79 cf_X11 fl_X11_230 (by decide) rfl (by decide) (Or.inl rfl) ?_
      refine x_aload_n dX11_findOrders_163 rfl rfl ?_
      refine x_iload_n dX11_findOrders_164 rfl rfl ?_
      refine x_aload_n dX11_findOrders_165 rfl rfl ?_
      refine y_getI (v := (M 79 33)) dX11_findOrders_166 sh_79 cf_X11 fl_X11_234 (by decide) (by decide) (m_up_ne (Or.inr (by decide))) ?_
      refine x_ic_ge (tgt := 176) dX11_findOrders_169 (by decide) (fun hc => ?_) (fun hc => ?_)
      · replace h := h.1 hc
        refine x_aload_n dX11_findOrders_176 rfl rfl ?_
        refine y_getI (v := (M 79 33)) dX11_findOrders_177 sh_79 cf_X11 fl_X11_234 (by decide) (by decide) (m_up_ne (Or.inr (by decide))) ?_
        refine x_putI dX11_findOrders_180 sh_79 cf_X11 fl_X11_234 (by decide) rfl (by decide) (Or.inl rfl) ?_
        refine x_aload_n dX11_findOrders_183 rfl rfl ?_
        obtain ⟨Qc1, hc4, h⟩ := h
        refine x_callV (as := []) (st := []) (Qc := Qc1) dX11_findOrders_184 mt_X11_nextOrder ml_X11_240 ⟨by decide, by decide⟩ sh_79 rfl (fun _ _ => Nat.le_of_ble_eq_true rfl) hc4 (fun r2 M3 hr5 hM6 hq7 => ?_)
        replace h := h r2 M3 hr5 hM6 hq7
        change X_ kk_X11_findOrders 187 [v_P 79, v_U, v_I x2, v_I x3] [v_I r2] M3 Q
        refine y_istore_n (ls' := [v_P 79, v_I r2, v_I x2, v_I x3]) dX11_findOrders_187 rfl (by decide) rfl ?_
        refine x_goto (tgt := 52) dX11_findOrders_188 (by decide) ?_
        refine y_forget 2 (ls' := [v_P 79, v_I r2, v_U, v_I x3]) rfl ?_
        refine y_forget 3 (ls' := [v_P 79, v_I r2, v_U, v_U]) rfl ?_
        exact h
      · replace h := h.2 hc
        refine x_iload_n dX11_findOrders_172 rfl rfl ?_
        refine x_goto (tgt := 180) dX11_findOrders_173 (by decide) ?_
        refine x_putI dX11_findOrders_180 sh_79 cf_X11 fl_X11_234 (by decide) rfl (by decide) (Or.inl rfl) ?_
        refine x_aload_n dX11_findOrders_183 rfl rfl ?_
        obtain ⟨Qc8, hc11, h⟩ := h
        refine x_callV (as := []) (st := []) (Qc := Qc8) dX11_findOrders_184 mt_X11_nextOrder ml_X11_240 ⟨by decide, by decide⟩ sh_79 rfl (fun _ _ => Nat.le_of_ble_eq_true rfl) hc11 (fun r9 M10 hr12 hM13 hq14 => ?_)
        replace h := h r9 M10 hr12 hM13 hq14
        change X_ kk_X11_findOrders 187 [v_P 79, v_U, v_I x2, v_I x3] [v_I r9] M10 Q
        refine y_istore_n (ls' := [v_P 79, v_I r9, v_I x2, v_I x3]) dX11_findOrders_187 rfl (by decide) rfl ?_
        refine x_goto (tgt := 52) dX11_findOrders_188 (by decide) ?_
        refine y_forget 2 (ls' := [v_P 79, v_I r9, v_U, v_I x3]) rfl ?_
        refine y_forget 3 (ls' := [v_P 79, v_I r9, v_U, v_U]) rfl ?_
        exact h
    · replace h := h.2 hc
      refine x_iload_n dX11_findOrders_152 rfl rfl ?_
      refine x_goto (tgt := 160) dX11_findOrders_153 (by decide) ?_
      refine x_putI dX11_findOrders_160 sh_79 cf_X11 fl_X11_230 (by decide) rfl (by decide) (Or.inl rfl) ?_
      refine x_aload_n dX11_findOrders_163 rfl rfl ?_
      refine x_iload_n dX11_findOrders_164 rfl rfl ?_
      refine x_aload_n dX11_findOrders_165 rfl rfl ?_
      refine y_getI (v := (M 79 33)) dX11_findOrders_166 sh_79 cf_X11 fl_X11_234 (by decide) (by decide) (m_up_ne (Or.inr (by decide))) ?_
      refine x_ic_ge (tgt := 176) dX11_findOrders_169 (by decide) (fun hc => ?_) (fun hc => ?_)
      · replace h := h.1 hc
        refine x_aload_n dX11_findOrders_176 rfl rfl ?_
        refine y_getI (v := (M 79 33)) dX11_findOrders_177 sh_79 cf_X11 fl_X11_234 (by decide) (by decide) (m_up_ne (Or.inr (by decide))) ?_
        refine x_putI dX11_findOrders_180 sh_79 cf_X11 fl_X11_234 (by decide) rfl (by decide) (Or.inl rfl) ?_
        refine x_aload_n dX11_findOrders_183 rfl rfl ?_
        obtain ⟨Qc15, hc18, h⟩ := h
        refine x_callV (as := []) (st := []) (Qc := Qc15) dX11_findOrders_184 mt_X11_nextOrder ml_X11_240 ⟨by decide, by decide⟩ sh_79 rfl (fun _ _ => Nat.le_of_ble_eq_true rfl) hc18 (fun r16 M17 hr19 hM20 hq21 => ?_)
        replace h := h r16 M17 hr19 hM20 hq21
        change X_ kk_X11_findOrders 187 [v_P 79, v_U, v_I x2, v_I x3] [v_I r16] M17 Q
        refine y_istore_n (ls' := [v_P 79, v_I r16, v_I x2, v_I x3]) dX11_findOrders_187 rfl (by decide) rfl ?_
        refine x_goto (tgt := 52) dX11_findOrders_188 (by decide) ?_
        refine y_forget 2 (ls' := [v_P 79, v_I r16, v_U, v_I x3]) rfl ?_
        refine y_forget 3 (ls' := [v_P 79, v_I r16, v_U, v_U]) rfl ?_
        exact h
      · replace h := h.2 hc
        refine x_iload_n dX11_findOrders_172 rfl rfl ?_
        refine x_goto (tgt := 180) dX11_findOrders_173 (by decide) ?_
        refine x_putI dX11_findOrders_180 sh_79 cf_X11 fl_X11_234 (by decide) rfl (by decide) (Or.inl rfl) ?_
        refine x_aload_n dX11_findOrders_183 rfl rfl ?_
        obtain ⟨Qc22, hc25, h⟩ := h
        refine x_callV (as := []) (st := []) (Qc := Qc22) dX11_findOrders_184 mt_X11_nextOrder ml_X11_240 ⟨by decide, by decide⟩ sh_79 rfl (fun _ _ => Nat.le_of_ble_eq_true rfl) hc25 (fun r23 M24 hr26 hM27 hq28 => ?_)
        replace h := h r23 M24 hr26 hM27 hq28
        change X_ kk_X11_findOrders 187 [v_P 79, v_U, v_I x2, v_I x3] [v_I r23] M24 Q
        refine y_istore_n (ls' := [v_P 79, v_I r23, v_I x2, v_I x3]) dX11_findOrders_187 rfl (by decide) rfl ?_
        refine x_goto (tgt := 52) dX11_findOrders_188 (by decide) ?_
        refine y_forget 2 (ls' := [v_P 79, v_I r23, v_U, v_I x3]) rfl ?_
        refine y_forget 3 (ls' := [v_P 79, v_I r23, v_U, v_U]) rfl ?_
        exact h
  · replace h := h.2 hc
    refine x_aload_n dX11_findOrders_79 rfl rfl ?_
    refine y_getP dX11_findOrders_80 sh_79 cf_X11 fl_X11_85 (by decide) (by decide) gg_79_30 ?_
    refine x_iload_n dX11_findOrders_83 rfl rfl ?_
    refine x_iload_n dX11_findOrders_84 rfl rfl ?_
    refine x_aload_n dX11_findOrders_85 rfl rfl ?_
    refine x_getI dX11_findOrders_86 sh_79 cf_X11 fl_X11_230 (by decide) (by decide) ?_
    refine x_ic_le (tgt := 101) dX11_findOrders_89 (by decide) (fun hc => ?_) (fun hc => ?_)
    · replace h := h.1 hc
      refine x_aload_n dX11_findOrders_101 rfl rfl ?_
      refine y_getP dX11_findOrders_102 sh_79 cf_X11 fl_X11_85 (by decide) (by decide) gg_79_30 ?_
      refine x_iload_n dX11_findOrders_105 rfl rfl ?_
      obtain ⟨s29, h⟩ := h
      refine x_iald dX11_findOrders_106 sh_105 s29 ?_
      obtain ⟨s30, h⟩ := h
      refine x_iast dX11_findOrders_107 sh_105 s30 ?_
      refine x_aload_n dX11_findOrders_108 rfl rfl ?_
      refine y_getP dX11_findOrders_109 sh_79 cf_X11 fl_X11_88 (by decide) (by decide) gg_79_31 ?_
      refine x_iload_n dX11_findOrders_112 rfl rfl ?_
      refine x_iload_n dX11_findOrders_113 rfl rfl ?_
      refine x_aload_n dX11_findOrders_114 rfl rfl ?_
      refine y_getI (v := (M 79 33)) dX11_findOrders_115 sh_79 cf_X11 fl_X11_234 (by decide) (by decide) (m_up_ne (Or.inl (by decide))) ?_
      refine x_ic_ge (tgt := 130) dX11_findOrders_118 (by decide) (fun hc => ?_) (fun hc => ?_)
      · replace h := h.1 hc
        refine x_aload_n dX11_findOrders_130 rfl rfl ?_
        refine y_getP dX11_findOrders_131 sh_79 cf_X11 fl_X11_88 (by decide) (by decide) gg_79_31 ?_
        refine x_iload_n dX11_findOrders_134 rfl rfl ?_
        obtain ⟨s31, h⟩ := h
        refine y_iald (v := (M 106 x3.toNat)) dX11_findOrders_135 sh_106 s31 (m_up_ne (Or.inl (by decide))) ?_
        obtain ⟨s32, h⟩ := h
        refine x_iast dX11_findOrders_136 sh_106 s32 ?_
        obtain ⟨M33, e34⟩ : ∃ z : mM, z = m_up (m_up M 105 x3.toNat (M 105 x3.toNat)) 106 x3.toNat (M 106 x3.toNat) := ⟨_, rfl⟩
        rw [← e34]
        replace h := h M33 e34
        obtain ⟨s35, h⟩ := h
        refine y_iinc (ls' := [v_P 79, v_U, v_I x2, v_I (x3 + 1)]) dX11_findOrders_137 rfl s35 (by decide) rfl ?_
        refine x_goto (tgt := 71) dX11_findOrders_140 (by decide) ?_
        exact h
      · replace h := h.2 hc
        refine x_aload_n dX11_findOrders_121 rfl rfl ?_
        refine y_getP dX11_findOrders_122 sh_79 cf_X11 fl_X11_19 (by decide) (by decide) gg_79_3 ?_
        refine x_iload_n dX11_findOrders_125 rfl rfl ?_
        obtain ⟨s36, h⟩ := h
        refine y_iald (v := (M 83 x3.toNat)) dX11_findOrders_126 sh_83 s36 (m_up_ne (Or.inl (by decide))) ?_
        refine x_goto (tgt := 136) dX11_findOrders_127 (by decide) ?_
        obtain ⟨s37, h⟩ := h
        refine x_iast dX11_findOrders_136 sh_106 s37 ?_
        obtain ⟨M38, e39⟩ : ∃ z : mM, z = m_up (m_up M 105 x3.toNat (M 105 x3.toNat)) 106 x3.toNat (M 83 x3.toNat) := ⟨_, rfl⟩
        rw [← e39]
        replace h := h M38 e39
        obtain ⟨s40, h⟩ := h
        refine y_iinc (ls' := [v_P 79, v_U, v_I x2, v_I (x3 + 1)]) dX11_findOrders_137 rfl s40 (by decide) rfl ?_
        refine x_goto (tgt := 71) dX11_findOrders_140 (by decide) ?_
        exact h
    · replace h := h.2 hc
      refine x_aload_n dX11_findOrders_92 rfl rfl ?_
      refine y_getP dX11_findOrders_93 sh_79 cf_X11 fl_X11_19 (by decide) (by decide) gg_79_3 ?_
      refine x_iload_n dX11_findOrders_96 rfl rfl ?_
      obtain ⟨s41, h⟩ := h
      refine x_iald dX11_findOrders_97 sh_83 s41 ?_
      refine x_goto (tgt := 107) dX11_findOrders_98 (by decide) ?_
      obtain ⟨s42, h⟩ := h
      refine x_iast dX11_findOrders_107 sh_105 s42 ?_
      refine x_aload_n dX11_findOrders_108 rfl rfl ?_
      refine y_getP dX11_findOrders_109 sh_79 cf_X11 fl_X11_88 (by decide) (by decide) gg_79_31 ?_
      refine x_iload_n dX11_findOrders_112 rfl rfl ?_
      refine x_iload_n dX11_findOrders_113 rfl rfl ?_
      refine x_aload_n dX11_findOrders_114 rfl rfl ?_
      refine y_getI (v := (M 79 33)) dX11_findOrders_115 sh_79 cf_X11 fl_X11_234 (by decide) (by decide) (m_up_ne (Or.inl (by decide))) ?_
      refine x_ic_ge (tgt := 130) dX11_findOrders_118 (by decide) (fun hc => ?_) (fun hc => ?_)
      · replace h := h.1 hc
        refine x_aload_n dX11_findOrders_130 rfl rfl ?_
        refine y_getP dX11_findOrders_131 sh_79 cf_X11 fl_X11_88 (by decide) (by decide) gg_79_31 ?_
        refine x_iload_n dX11_findOrders_134 rfl rfl ?_
        obtain ⟨s43, h⟩ := h
        refine y_iald (v := (M 106 x3.toNat)) dX11_findOrders_135 sh_106 s43 (m_up_ne (Or.inl (by decide))) ?_
        obtain ⟨s44, h⟩ := h
        refine x_iast dX11_findOrders_136 sh_106 s44 ?_
        obtain ⟨M45, e46⟩ : ∃ z : mM, z = m_up (m_up M 105 x3.toNat (M 83 x3.toNat)) 106 x3.toNat (M 106 x3.toNat) := ⟨_, rfl⟩
        rw [← e46]
        replace h := h M45 e46
        obtain ⟨s47, h⟩ := h
        refine y_iinc (ls' := [v_P 79, v_U, v_I x2, v_I (x3 + 1)]) dX11_findOrders_137 rfl s47 (by decide) rfl ?_
        refine x_goto (tgt := 71) dX11_findOrders_140 (by decide) ?_
        exact h
      · replace h := h.2 hc
        refine x_aload_n dX11_findOrders_121 rfl rfl ?_
        refine y_getP dX11_findOrders_122 sh_79 cf_X11 fl_X11_19 (by decide) (by decide) gg_79_3 ?_
        refine x_iload_n dX11_findOrders_125 rfl rfl ?_
        obtain ⟨s48, h⟩ := h
        refine y_iald (v := (M 83 x3.toNat)) dX11_findOrders_126 sh_83 s48 (m_up_ne (Or.inl (by decide))) ?_
        refine x_goto (tgt := 136) dX11_findOrders_127 (by decide) ?_
        obtain ⟨s49, h⟩ := h
        refine x_iast dX11_findOrders_136 sh_106 s49 ?_
        obtain ⟨M50, e51⟩ : ∃ z : mM, z = m_up (m_up M 105 x3.toNat (M 83 x3.toNat)) 106 x3.toNat (M 83 x3.toNat) := ⟨_, rfl⟩
        rw [← e51]
        replace h := h M50 e51
        obtain ⟨s52, h⟩ := h
        refine y_iinc (ls' := [v_P 79, v_U, v_I x2, v_I (x3 + 1)]) dX11_findOrders_137 rfl s52 (by decide) rfl ?_
        refine x_goto (tgt := 71) dX11_findOrders_140 (by decide) ?_
        exact h
theorem wp_X11_findOrders_193 {x2 : Int} {M : mM} {Q : Int → mM → Prop} (h : ((M 79 4) ≤ x2 → Q 0 M) ∧ (¬ (M 79 4) ≤ x2 → (0 ≤ x2 ∧ x2 < 8) ∧ (0 ≤ x2 ∧ x2 < 8) ∧ (m_ir (x2 + 1)) ∧ X_ kk_X11_findOrders 193 [v_P 79, v_U, v_I (x2 + 1), v_U] [] (m_up M 83 x2.toNat (M 104 x2.toNat)) Q)) : X_ kk_X11_findOrders 193 [v_P 79, v_U, v_I x2, v_U] [] M Q := by
  refine x_iload_n dX11_findOrders_193 rfl rfl ?_
  refine x_aload_n dX11_findOrders_194 rfl rfl ?_
  refine x_getI dX11_findOrders_195 sh_79 cf_X11 fl_X11_107 (by decide) (by decide) ?_
  refine x_ic_ge (tgt := 219) dX11_findOrders_198 (by decide) (fun hc => ?_) (fun hc => ?_)
  · replace h := h.1 hc
    refine x_ret dX11_findOrders_219 rfl (fun _ => h)
  · replace h := h.2 hc
    refine x_aload_n dX11_findOrders_201 rfl rfl ?_
    refine y_getP dX11_findOrders_202 sh_79 cf_X11 fl_X11_19 (by decide) (by decide) gg_79_3 ?_
    refine x_iload_n dX11_findOrders_205 rfl rfl ?_
    refine x_aload_n dX11_findOrders_206 rfl rfl ?_
    refine y_getP dX11_findOrders_207 sh_79 cf_X11 fl_X11_82 (by decide) (by decide) gg_79_29 ?_
    refine x_iload_n dX11_findOrders_210 rfl rfl ?_
    obtain ⟨s1, h⟩ := h
    refine x_iald dX11_findOrders_211 sh_104 s1 ?_
    obtain ⟨s2, h⟩ := h
    refine x_iast dX11_findOrders_212 sh_83 s2 ?_
    obtain ⟨s3, h⟩ := h
    refine y_iinc (ls' := [v_P 79, v_U, v_I (x2 + 1), v_U]) dX11_findOrders_213 rfl s3 (by decide) rfl ?_
    refine x_goto (tgt := 193) dX11_findOrders_216 (by decide) ?_
    exact h
theorem wp_X11_orders_0 {x1 : Int} {M : mM} {Q : Int → mM → Prop} (h : (0 ≤ x1 ∧ x1 ≤ 1 → ((M 79 4) ≤ 6 → ∃ Qc1 : Int → mM → Prop, C_ kk_X11_findOrders [v_P 79] M Qc1 ∧ ∀ (r2 : Int) (M3 : mM), m_ir r2 → m_okM M3 → Qc1 r2 M3 → (2 ≤ x1 → (0 ≤ x1) ∧ ((x1 % 10) < (M3 79 4) → (20 ≤ x1 → (0 ≤ (x1 % 10) ∧ (x1 % 10) < 8) ∧ Q (M3 106 ((x1 % 10).toNat)) M3) ∧ (¬ 20 ≤ x1 → (0 ≤ (x1 % 10) ∧ (x1 % 10) < 8) ∧ Q (M3 105 ((x1 % 10).toNat)) M3)) ∧ (¬ (x1 % 10) < (M3 79 4) → Q (-6) M3)) ∧ (¬ 2 ≤ x1 → (¬ x1 = 0 → Q (M3 79 33) M3) ∧ (x1 = 0 → Q (M3 79 32) M3))) ∧ (¬ (M 79 4) ≤ 6 → Q (-3) M)) ∧ (¬ (0 ≤ x1 ∧ x1 ≤ 1) → (10 ≤ x1 ∧ x1 ≤ 15 → ((M 79 4) ≤ 6 → ∃ Qc11 : Int → mM → Prop, C_ kk_X11_findOrders [v_P 79] M Qc11 ∧ ∀ (r12 : Int) (M13 : mM), m_ir r12 → m_okM M13 → Qc11 r12 M13 → (2 ≤ x1 → (0 ≤ x1) ∧ ((x1 % 10) < (M13 79 4) → (20 ≤ x1 → (0 ≤ (x1 % 10) ∧ (x1 % 10) < 8) ∧ Q (M13 106 ((x1 % 10).toNat)) M13) ∧ (¬ 20 ≤ x1 → (0 ≤ (x1 % 10) ∧ (x1 % 10) < 8) ∧ Q (M13 105 ((x1 % 10).toNat)) M13)) ∧ (¬ (x1 % 10) < (M13 79 4) → Q (-6) M13)) ∧ (¬ 2 ≤ x1 → (¬ x1 = 0 → Q (M13 79 33) M13) ∧ (x1 = 0 → Q (M13 79 32) M13))) ∧ (¬ (M 79 4) ≤ 6 → Q (-3) M)) ∧ (¬ (10 ≤ x1 ∧ x1 ≤ 15) → (20 ≤ x1 ∧ x1 ≤ 25 → ((M 79 4) ≤ 6 → ∃ Qc21 : Int → mM → Prop, C_ kk_X11_findOrders [v_P 79] M Qc21 ∧ ∀ (r22 : Int) (M23 : mM), m_ir r22 → m_okM M23 → Qc21 r22 M23 → (2 ≤ x1 → (0 ≤ x1) ∧ ((x1 % 10) < (M23 79 4) → (20 ≤ x1 → (0 ≤ (x1 % 10) ∧ (x1 % 10) < 8) ∧ Q (M23 106 ((x1 % 10).toNat)) M23) ∧ (¬ 20 ≤ x1 → (0 ≤ (x1 % 10) ∧ (x1 % 10) < 8) ∧ Q (M23 105 ((x1 % 10).toNat)) M23)) ∧ (¬ (x1 % 10) < (M23 79 4) → Q (-6) M23)) ∧ (¬ 2 ≤ x1 → (¬ x1 = 0 → Q (M23 79 33) M23) ∧ (x1 = 0 → Q (M23 79 32) M23))) ∧ (¬ (M 79 4) ≤ 6 → Q (-3) M)) ∧ (¬ (20 ≤ x1 ∧ x1 ≤ 25) → Q (-2) M)))) : X_ kk_X11_orders 0 [v_P 79, v_I x1, v_U] [] M Q := by
  refine x_iload_n dX11_orders_0 rfl rfl ?_
  refine x_i2l dX11_orders_1 ?_
  refine x_lconst (z := 0) dX11_orders_2 (by decide) (by decide) ?_
  refine x_lconst (z := 1) dX11_orders_3 (by decide) (by decide) ?_
  refine x_in (st := []) dX11_orders_4 ml_X11_110 ⟨by decide, by decide⟩ (fun _ _ => Nat.le_of_ble_eq_true rfl) (fun hc => ?_) (fun hc => ?_)
  · change X_ kk_X11_orders 7 [v_P 79, v_I x1, v_U] [v_I 1] M Q
    replace h := h.1 hc
    refine x_if_ne (tgt := 41) dX11_orders_7 (by decide) (fun _ => ?_) (fun hc => absurd hc (by decide))
    refine x_aload_n dX11_orders_41 rfl rfl ?_
    refine x_getI dX11_orders_42 sh_79 cf_X11 fl_X11_107 (by decide) (by decide) ?_
    refine x_bipush dX11_orders_45 (by decide) (by decide) ?_
    refine x_ic_le (tgt := 53) dX11_orders_47 (by decide) (fun hc => ?_) (fun hc => ?_)
    · replace h := h.1 hc
      refine x_aload_n dX11_orders_53 rfl rfl ?_
      obtain ⟨Qc1, hc4, h⟩ := h
      refine x_callV (as := []) (st := []) (Qc := Qc1) dX11_orders_54 mt_X11_findOrders ml_X11_250 ⟨by decide, by decide⟩ sh_79 rfl (fun _ _ => Nat.le_of_ble_eq_true rfl) hc4 (fun r2 M3 hr5 hM6 hq7 => ?_)
      replace h := h r2 M3 hr5 hM6 hq7
      change X_ kk_X11_orders 57 [v_P 79, v_I x1, v_U] [] M3 Q
      refine x_iload_n dX11_orders_57 rfl rfl ?_
      refine x_iconst dX11_orders_58 (by decide) ?_
      refine x_ic_ge (tgt := 78) dX11_orders_59 (by decide) (fun hc => ?_) (fun hc => ?_)
      · replace h := h.1 hc
        refine x_iload_n dX11_orders_78 rfl rfl ?_
        refine x_bipush dX11_orders_79 (by decide) (by decide) ?_
        obtain ⟨s8, h⟩ := h
        refine x_irem dX11_orders_81 s8 (by decide) ?_
        refine y_istore_n (ls' := [v_P 79, v_I x1, v_I (x1 % 10)]) dX11_orders_82 rfl (by decide) rfl ?_
        refine x_iload_n dX11_orders_83 rfl rfl ?_
        refine x_aload_n dX11_orders_84 rfl rfl ?_
        refine x_getI dX11_orders_85 sh_79 cf_X11 fl_X11_107 (by decide) (by decide) ?_
        refine x_ic_lt (tgt := 96) dX11_orders_88 (by decide) (fun hc => ?_) (fun hc => ?_)
        · replace h := h.1 hc
          refine x_iload_n dX11_orders_96 rfl rfl ?_
          refine x_bipush dX11_orders_97 (by decide) (by decide) ?_
          refine x_ic_ge (tgt := 111) dX11_orders_99 (by decide) (fun hc => ?_) (fun hc => ?_)
          · replace h := h.1 hc
            refine x_aload_n dX11_orders_111 rfl rfl ?_
            refine y_getP dX11_orders_112 sh_79 cf_X11 fl_X11_88 (by decide) (by decide) gg_79_31 ?_
            refine x_iload_n dX11_orders_115 rfl rfl ?_
            obtain ⟨s9, h⟩ := h
            refine x_iald dX11_orders_116 sh_106 s9 ?_
            refine x_iret dX11_orders_117 rfl (Or.inl rfl) (fun _ _ => h)
          · replace h := h.2 hc
            refine x_aload_n dX11_orders_102 rfl rfl ?_
            refine y_getP dX11_orders_103 sh_79 cf_X11 fl_X11_85 (by decide) (by decide) gg_79_30 ?_
            refine x_iload_n dX11_orders_106 rfl rfl ?_
            obtain ⟨s10, h⟩ := h
            refine x_iald dX11_orders_107 sh_105 s10 ?_
            refine x_goto (tgt := 117) dX11_orders_108 (by decide) ?_
            refine x_iret dX11_orders_117 rfl (Or.inl rfl) (fun _ _ => h)
        · replace h := h.2 hc
          refine x_bipush dX11_orders_91 (by decide) (by decide) ?_
          refine x_goto (tgt := 117) dX11_orders_93 (by decide) ?_
          refine x_iret dX11_orders_117 rfl (Or.inl rfl) (fun _ _ => h)
      · replace h := h.2 hc
        refine x_iload_n dX11_orders_62 rfl rfl ?_
        refine x_if_ne (tgt := 73) dX11_orders_63 (by decide) (fun hc => ?_) (fun hc => ?_)
        · replace h := h.1 hc
          refine x_aload_n dX11_orders_73 rfl rfl ?_
          refine x_getI dX11_orders_74 sh_79 cf_X11 fl_X11_234 (by decide) (by decide) ?_
          refine x_iret dX11_orders_77 rfl (Or.inl rfl) (fun _ _ => h)
        · replace h := h.2 hc
          refine x_aload_n dX11_orders_66 rfl rfl ?_
          refine x_getI dX11_orders_67 sh_79 cf_X11 fl_X11_230 (by decide) (by decide) ?_
          refine x_goto (tgt := 77) dX11_orders_70 (by decide) ?_
          refine x_iret dX11_orders_77 rfl (Or.inl rfl) (fun _ _ => h)
    · replace h := h.2 hc
      refine x_bipush dX11_orders_50 (by decide) (by decide) ?_
      refine x_iret dX11_orders_52 rfl (Or.inl rfl) (fun _ _ => h)
  · change X_ kk_X11_orders 7 [v_P 79, v_I x1, v_U] [v_I 0] M Q
    replace h := h.2 hc
    refine x_if_ne (tgt := 41) dX11_orders_7 (by decide) (fun hc => absurd hc (by decide)) (fun _ => ?_)
    refine x_iload_n dX11_orders_10 rfl rfl ?_
    refine x_i2l dX11_orders_11 ?_
    refine x_ldc2 (z := 10) dX11_orders_12 cl_X11_219 (by decide) (by decide) ?_
    refine x_ldc2 (z := 15) dX11_orders_15 cl_X11_244 (by decide) (by decide) ?_
    refine x_in (st := []) dX11_orders_18 ml_X11_110 ⟨by decide, by decide⟩ (fun _ _ => Nat.le_of_ble_eq_true rfl) (fun hc => ?_) (fun hc => ?_)
    · change X_ kk_X11_orders 21 [v_P 79, v_I x1, v_U] [v_I 1] M Q
      replace h := h.1 hc
      refine x_if_ne (tgt := 41) dX11_orders_21 (by decide) (fun _ => ?_) (fun hc => absurd hc (by decide))
      refine x_aload_n dX11_orders_41 rfl rfl ?_
      refine x_getI dX11_orders_42 sh_79 cf_X11 fl_X11_107 (by decide) (by decide) ?_
      refine x_bipush dX11_orders_45 (by decide) (by decide) ?_
      refine x_ic_le (tgt := 53) dX11_orders_47 (by decide) (fun hc => ?_) (fun hc => ?_)
      · replace h := h.1 hc
        refine x_aload_n dX11_orders_53 rfl rfl ?_
        obtain ⟨Qc11, hc14, h⟩ := h
        refine x_callV (as := []) (st := []) (Qc := Qc11) dX11_orders_54 mt_X11_findOrders ml_X11_250 ⟨by decide, by decide⟩ sh_79 rfl (fun _ _ => Nat.le_of_ble_eq_true rfl) hc14 (fun r12 M13 hr15 hM16 hq17 => ?_)
        replace h := h r12 M13 hr15 hM16 hq17
        change X_ kk_X11_orders 57 [v_P 79, v_I x1, v_U] [] M13 Q
        refine x_iload_n dX11_orders_57 rfl rfl ?_
        refine x_iconst dX11_orders_58 (by decide) ?_
        refine x_ic_ge (tgt := 78) dX11_orders_59 (by decide) (fun hc => ?_) (fun hc => ?_)
        · replace h := h.1 hc
          refine x_iload_n dX11_orders_78 rfl rfl ?_
          refine x_bipush dX11_orders_79 (by decide) (by decide) ?_
          obtain ⟨s18, h⟩ := h
          refine x_irem dX11_orders_81 s18 (by decide) ?_
          refine y_istore_n (ls' := [v_P 79, v_I x1, v_I (x1 % 10)]) dX11_orders_82 rfl (by decide) rfl ?_
          refine x_iload_n dX11_orders_83 rfl rfl ?_
          refine x_aload_n dX11_orders_84 rfl rfl ?_
          refine x_getI dX11_orders_85 sh_79 cf_X11 fl_X11_107 (by decide) (by decide) ?_
          refine x_ic_lt (tgt := 96) dX11_orders_88 (by decide) (fun hc => ?_) (fun hc => ?_)
          · replace h := h.1 hc
            refine x_iload_n dX11_orders_96 rfl rfl ?_
            refine x_bipush dX11_orders_97 (by decide) (by decide) ?_
            refine x_ic_ge (tgt := 111) dX11_orders_99 (by decide) (fun hc => ?_) (fun hc => ?_)
            · replace h := h.1 hc
              refine x_aload_n dX11_orders_111 rfl rfl ?_
              refine y_getP dX11_orders_112 sh_79 cf_X11 fl_X11_88 (by decide) (by decide) gg_79_31 ?_
              refine x_iload_n dX11_orders_115 rfl rfl ?_
              obtain ⟨s19, h⟩ := h
              refine x_iald dX11_orders_116 sh_106 s19 ?_
              refine x_iret dX11_orders_117 rfl (Or.inl rfl) (fun _ _ => h)
            · replace h := h.2 hc
              refine x_aload_n dX11_orders_102 rfl rfl ?_
              refine y_getP dX11_orders_103 sh_79 cf_X11 fl_X11_85 (by decide) (by decide) gg_79_30 ?_
              refine x_iload_n dX11_orders_106 rfl rfl ?_
              obtain ⟨s20, h⟩ := h
              refine x_iald dX11_orders_107 sh_105 s20 ?_
              refine x_goto (tgt := 117) dX11_orders_108 (by decide) ?_
              refine x_iret dX11_orders_117 rfl (Or.inl rfl) (fun _ _ => h)
          · replace h := h.2 hc
            refine x_bipush dX11_orders_91 (by decide) (by decide) ?_
            refine x_goto (tgt := 117) dX11_orders_93 (by decide) ?_
            refine x_iret dX11_orders_117 rfl (Or.inl rfl) (fun _ _ => h)
        · replace h := h.2 hc
          refine x_iload_n dX11_orders_62 rfl rfl ?_
          refine x_if_ne (tgt := 73) dX11_orders_63 (by decide) (fun hc => ?_) (fun hc => ?_)
          · replace h := h.1 hc
            refine x_aload_n dX11_orders_73 rfl rfl ?_
            refine x_getI dX11_orders_74 sh_79 cf_X11 fl_X11_234 (by decide) (by decide) ?_
            refine x_iret dX11_orders_77 rfl (Or.inl rfl) (fun _ _ => h)
          · replace h := h.2 hc
            refine x_aload_n dX11_orders_66 rfl rfl ?_
            refine x_getI dX11_orders_67 sh_79 cf_X11 fl_X11_230 (by decide) (by decide) ?_
            refine x_goto (tgt := 77) dX11_orders_70 (by decide) ?_
            refine x_iret dX11_orders_77 rfl (Or.inl rfl) (fun _ _ => h)
      · replace h := h.2 hc
        refine x_bipush dX11_orders_50 (by decide) (by decide) ?_
        refine x_iret dX11_orders_52 rfl (Or.inl rfl) (fun _ _ => h)
    · change X_ kk_X11_orders 21 [v_P 79, v_I x1, v_U] [v_I 0] M Q
      replace h := h.2 hc
      refine x_if_ne (tgt := 41) dX11_orders_21 (by decide) (fun hc => absurd hc (by decide)) (fun _ => ?_)
      refine x_iload_n dX11_orders_24 rfl rfl ?_
      refine x_i2l dX11_orders_25 ?_
      refine x_ldc2 (z := 20) dX11_orders_26 cl_X11_246 (by decide) (by decide) ?_
      refine x_ldc2 (z := 25) dX11_orders_29 cl_X11_248 (by decide) (by decide) ?_
      refine x_in (st := []) dX11_orders_32 ml_X11_110 ⟨by decide, by decide⟩ (fun _ _ => Nat.le_of_ble_eq_true rfl) (fun hc => ?_) (fun hc => ?_)
      · change X_ kk_X11_orders 35 [v_P 79, v_I x1, v_U] [v_I 1] M Q
        replace h := h.1 hc
        refine x_if_ne (tgt := 41) dX11_orders_35 (by decide) (fun _ => ?_) (fun hc => absurd hc (by decide))
        refine x_aload_n dX11_orders_41 rfl rfl ?_
        refine x_getI dX11_orders_42 sh_79 cf_X11 fl_X11_107 (by decide) (by decide) ?_
        refine x_bipush dX11_orders_45 (by decide) (by decide) ?_
        refine x_ic_le (tgt := 53) dX11_orders_47 (by decide) (fun hc => ?_) (fun hc => ?_)
        · replace h := h.1 hc
          refine x_aload_n dX11_orders_53 rfl rfl ?_
          obtain ⟨Qc21, hc24, h⟩ := h
          refine x_callV (as := []) (st := []) (Qc := Qc21) dX11_orders_54 mt_X11_findOrders ml_X11_250 ⟨by decide, by decide⟩ sh_79 rfl (fun _ _ => Nat.le_of_ble_eq_true rfl) hc24 (fun r22 M23 hr25 hM26 hq27 => ?_)
          replace h := h r22 M23 hr25 hM26 hq27
          change X_ kk_X11_orders 57 [v_P 79, v_I x1, v_U] [] M23 Q
          refine x_iload_n dX11_orders_57 rfl rfl ?_
          refine x_iconst dX11_orders_58 (by decide) ?_
          refine x_ic_ge (tgt := 78) dX11_orders_59 (by decide) (fun hc => ?_) (fun hc => ?_)
          · replace h := h.1 hc
            refine x_iload_n dX11_orders_78 rfl rfl ?_
            refine x_bipush dX11_orders_79 (by decide) (by decide) ?_
            obtain ⟨s28, h⟩ := h
            refine x_irem dX11_orders_81 s28 (by decide) ?_
            refine y_istore_n (ls' := [v_P 79, v_I x1, v_I (x1 % 10)]) dX11_orders_82 rfl (by decide) rfl ?_
            refine x_iload_n dX11_orders_83 rfl rfl ?_
            refine x_aload_n dX11_orders_84 rfl rfl ?_
            refine x_getI dX11_orders_85 sh_79 cf_X11 fl_X11_107 (by decide) (by decide) ?_
            refine x_ic_lt (tgt := 96) dX11_orders_88 (by decide) (fun hc => ?_) (fun hc => ?_)
            · replace h := h.1 hc
              refine x_iload_n dX11_orders_96 rfl rfl ?_
              refine x_bipush dX11_orders_97 (by decide) (by decide) ?_
              refine x_ic_ge (tgt := 111) dX11_orders_99 (by decide) (fun hc => ?_) (fun hc => ?_)
              · replace h := h.1 hc
                refine x_aload_n dX11_orders_111 rfl rfl ?_
                refine y_getP dX11_orders_112 sh_79 cf_X11 fl_X11_88 (by decide) (by decide) gg_79_31 ?_
                refine x_iload_n dX11_orders_115 rfl rfl ?_
                obtain ⟨s29, h⟩ := h
                refine x_iald dX11_orders_116 sh_106 s29 ?_
                refine x_iret dX11_orders_117 rfl (Or.inl rfl) (fun _ _ => h)
              · replace h := h.2 hc
                refine x_aload_n dX11_orders_102 rfl rfl ?_
                refine y_getP dX11_orders_103 sh_79 cf_X11 fl_X11_85 (by decide) (by decide) gg_79_30 ?_
                refine x_iload_n dX11_orders_106 rfl rfl ?_
                obtain ⟨s30, h⟩ := h
                refine x_iald dX11_orders_107 sh_105 s30 ?_
                refine x_goto (tgt := 117) dX11_orders_108 (by decide) ?_
                refine x_iret dX11_orders_117 rfl (Or.inl rfl) (fun _ _ => h)
            · replace h := h.2 hc
              refine x_bipush dX11_orders_91 (by decide) (by decide) ?_
              refine x_goto (tgt := 117) dX11_orders_93 (by decide) ?_
              refine x_iret dX11_orders_117 rfl (Or.inl rfl) (fun _ _ => h)
          · replace h := h.2 hc
            refine x_iload_n dX11_orders_62 rfl rfl ?_
            refine x_if_ne (tgt := 73) dX11_orders_63 (by decide) (fun hc => ?_) (fun hc => ?_)
            · replace h := h.1 hc
              refine x_aload_n dX11_orders_73 rfl rfl ?_
              refine x_getI dX11_orders_74 sh_79 cf_X11 fl_X11_234 (by decide) (by decide) ?_
              refine x_iret dX11_orders_77 rfl (Or.inl rfl) (fun _ _ => h)
            · replace h := h.2 hc
              refine x_aload_n dX11_orders_66 rfl rfl ?_
              refine x_getI dX11_orders_67 sh_79 cf_X11 fl_X11_230 (by decide) (by decide) ?_
              refine x_goto (tgt := 77) dX11_orders_70 (by decide) ?_
              refine x_iret dX11_orders_77 rfl (Or.inl rfl) (fun _ _ => h)
        · replace h := h.2 hc
          refine x_bipush dX11_orders_50 (by decide) (by decide) ?_
          refine x_iret dX11_orders_52 rfl (Or.inl rfl) (fun _ _ => h)
      · change X_ kk_X11_orders 35 [v_P 79, v_I x1, v_U] [v_I 0] M Q
        replace h := h.2 hc
        refine x_if_ne (tgt := 41) dX11_orders_35 (by decide) (fun hc => absurd hc (by decide)) (fun _ => ?_)
        refine x_bipush dX11_orders_38 (by decide) (by decide) ?_
        refine x_iret dX11_orders_40 rfl (Or.inl rfl) (fun _ _ => h)
theorem wp_X11_gainOf_0 {x1 x2 : Int} {M : mM} {Q : Int → mM → Prop} (h : ∃ Qc1 : Int → mM → Prop, C_ kk_X11_runDay [v_P 79, v_I x2] M Qc1 ∧ ∀ (r2 : Int) (M3 : mM), m_ir r2 → m_okM M3 → Qc1 r2 M3 → ∃ Qc8 : Int → mM → Prop, C_ kk_X11_worthOfDay [v_P 79, v_I x1] M3 Qc8 ∧ ∀ (r9 : Int) (M10 : mM), m_ir r9 → m_okM M10 → Qc8 r9 M10 → (0 ≤ x1 ∧ x1 < 6) ∧ (0 ≤ x1 ∧ x1 < 6) ∧ (m_ir ((M10 84 x1.toNat) - (M10 97 x1.toNat))) ∧ (m_ir (r9 - ((M10 84 x1.toNat) - (M10 97 x1.toNat)))) ∧ Q (r9 - ((M10 84 x1.toNat) - (M10 97 x1.toNat))) M10) : X_ kk_X11_gainOf 0 [v_P 79, v_I x1, v_I x2] [] M Q := by
  refine x_aload_n dX11_gainOf_0 rfl rfl ?_
  refine x_iload_n dX11_gainOf_1 rfl rfl ?_
  obtain ⟨Qc1, hc4, h⟩ := h
  refine x_callV (as := [v_I x2]) (st := []) (Qc := Qc1) dX11_gainOf_2 mt_X11_runDay ml_X11_185 ⟨by decide, by decide⟩ sh_79 rfl (fun _ _ => Nat.le_of_ble_eq_true rfl) hc4 (fun r2 M3 hr5 hM6 hq7 => ?_)
  replace h := h r2 M3 hr5 hM6 hq7
  change X_ kk_X11_gainOf 5 [v_P 79, v_I x1, v_I x2] [] M3 Q
  refine x_aload_n dX11_gainOf_5 rfl rfl ?_
  refine x_iload_n dX11_gainOf_6 rfl rfl ?_
  obtain ⟨Qc8, hc11, h⟩ := h
  refine x_callV (as := [v_I x1]) (st := []) (Qc := Qc8) dX11_gainOf_7 mt_X11_worthOfDay ml_X11_191 ⟨by decide, by decide⟩ sh_79 rfl (fun _ _ => Nat.le_of_ble_eq_true rfl) hc11 (fun r9 M10 hr12 hM13 hq14 => ?_)
  replace h := h r9 M10 hr12 hM13 hq14
  change X_ kk_X11_gainOf 10 [v_P 79, v_I x1, v_I x2] [v_I r9] M10 Q
  refine x_aload_n dX11_gainOf_10 rfl rfl ?_
  refine y_getP dX11_gainOf_11 sh_79 cf_X11 fl_X11_22 (by decide) (by decide) gg_79_5 ?_
  refine x_iload_n dX11_gainOf_14 rfl rfl ?_
  obtain ⟨s15, h⟩ := h
  refine x_iald dX11_gainOf_15 sh_84 s15 ?_
  refine x_aload_n dX11_gainOf_16 rfl rfl ?_
  refine y_getP dX11_gainOf_17 sh_79 cf_X11 fl_X11_61 (by decide) (by decide) gg_79_21 ?_
  refine x_iload_n dX11_gainOf_20 rfl rfl ?_
  obtain ⟨s16, h⟩ := h
  refine x_iald dX11_gainOf_21 sh_97 s16 ?_
  obtain ⟨s17, h⟩ := h
  refine x_isub dX11_gainOf_22 s17 ?_
  obtain ⟨s18, h⟩ := h
  refine x_isub dX11_gainOf_23 s18 ?_
  refine x_iret dX11_gainOf_24 rfl (Or.inl rfl) (fun _ _ => h)
theorem wp_X11_gain_0 {x1 : Int} {M : mM} {Q : Int → mM → Prop} (h : (0 ≤ M 79 8) ∧ (0 ≤ x1 ∧ x1 < M 79 8 → ∃ Qc1 : Int → mM → Prop, C_ kk_X11_layWorths [v_P 79] M Qc1 ∧ ∀ (r2 : Int) (M3 : mM), m_ir r2 → m_okM M3 → Qc1 r2 M3 → ∃ Qc8 : Int → mM → Prop, C_ kk_X11_gainOf [v_P 79, v_I x1, v_I (M3 79 9)] M3 Qc8 ∧ ∀ (r9 : Int) (M10 : mM), m_ir r9 → m_okM M10 → Qc8 r9 M10 → Q r9 M10) ∧ (¬ (0 ≤ x1 ∧ x1 < M 79 8) → Q (-1000000001) M)) : X_ kk_X11_gain 0 [v_P 79, v_I x1] [] M Q := by
  refine x_aload_n dX11_gain_0 rfl rfl ?_
  refine x_iload_n dX11_gain_1 rfl rfl ?_
  obtain ⟨s15, h⟩ := h
  refine x_isBuyer (st := []) dX11_gain_2 ml_X11_123 ⟨by decide, by decide⟩ (fun _ _ => Nat.le_of_ble_eq_true rfl) s15 (fun hc => ?_) (fun hc => ?_)
  · change X_ kk_X11_gain 5 [v_P 79, v_I x1] [v_I 1] M Q
    replace h := h.1 hc
    refine x_if_ne (tgt := 11) dX11_gain_5 (by decide) (fun _ => ?_) (fun hc => absurd hc (by decide))
    refine x_aload_n dX11_gain_11 rfl rfl ?_
    obtain ⟨Qc1, hc4, h⟩ := h
    refine x_callV (as := []) (st := []) (Qc := Qc1) dX11_gain_12 mt_X11_layWorths ml_X11_182 ⟨by decide, by decide⟩ sh_79 rfl (fun _ _ => Nat.le_of_ble_eq_true rfl) hc4 (fun r2 M3 hr5 hM6 hq7 => ?_)
    replace h := h r2 M3 hr5 hM6 hq7
    change X_ kk_X11_gain 15 [v_P 79, v_I x1] [] M3 Q
    refine x_aload_n dX11_gain_15 rfl rfl ?_
    refine x_iload_n dX11_gain_16 rfl rfl ?_
    refine x_aload_n dX11_gain_17 rfl rfl ?_
    refine x_getI dX11_gain_18 sh_79 cf_X11 fl_X11_103 (by decide) (by decide) ?_
    obtain ⟨Qc8, hc11, h⟩ := h
    refine x_callV (as := [v_I x1, v_I (M3 79 9)]) (st := []) (Qc := Qc8) dX11_gain_21 mt_X11_gainOf ml_X11_254 ⟨by decide, by decide⟩ sh_79 rfl (fun _ _ => Nat.le_of_ble_eq_true rfl) hc11 (fun r9 M10 hr12 hM13 hq14 => ?_)
    replace h := h r9 M10 hr12 hM13 hq14
    change X_ kk_X11_gain 24 [v_P 79, v_I x1] [v_I r9] M10 Q
    refine x_iret dX11_gain_24 rfl (Or.inl rfl) (fun _ _ => h)
  · change X_ kk_X11_gain 5 [v_P 79, v_I x1] [v_I 0] M Q
    replace h := h.2 hc
    refine x_if_ne (tgt := 11) dX11_gain_5 (by decide) (fun hc => absurd hc (by decide)) (fun _ => ?_)
    refine x_ldc (n := (-1000000001)) dX11_gain_8 ct_X11_253 (by decide) (by decide) ?_
    refine x_iret dX11_gain_10 rfl (Or.inl rfl) (fun _ _ => h)
theorem wp_X11_cut_0 {x1 x2 : Int} {M : mM} {Q : Int → mM → Prop} (h : (0 ≤ M 79 8) ∧ (0 ≤ x1 ∧ x1 < M 79 8 → (0 ≤ x2 ∧ x2 ≤ 1 → ∃ Qc1 : Int → mM → Prop, C_ kk_X11_layWorths [v_P 79] M Qc1 ∧ ∀ (r2 : Int) (M3 : mM), m_ir r2 → m_okM M3 → Qc1 r2 M3 → (0 ≤ x1 ∧ x1 < 6) ∧ X_ kk_X11_cut 47 [v_P 79, v_I x1, v_I x2, v_I (M3 85 x1.toNat), v_I 0, v_I (-1000000000), v_I 0, v_U] [] M3 Q) ∧ (¬ (0 ≤ x2 ∧ x2 ≤ 1) → Q (-1000000002) M)) ∧ (¬ (0 ≤ x1 ∧ x1 < M 79 8) → Q (-1000000001) M)) : X_ kk_X11_cut 0 [v_P 79, v_I x1, v_I x2, v_U, v_U, v_U, v_U, v_U] [] M Q := by
  refine x_aload_n dX11_cut_0 rfl rfl ?_
  refine x_iload_n dX11_cut_1 rfl rfl ?_
  obtain ⟨s9, h⟩ := h
  refine x_isBuyer (st := []) dX11_cut_2 ml_X11_123 ⟨by decide, by decide⟩ (fun _ _ => Nat.le_of_ble_eq_true rfl) s9 (fun hc => ?_) (fun hc => ?_)
  · change X_ kk_X11_cut 5 [v_P 79, v_I x1, v_I x2, v_U, v_U, v_U, v_U, v_U] [v_I 1] M Q
    replace h := h.1 hc
    refine x_if_ne (tgt := 11) dX11_cut_5 (by decide) (fun _ => ?_) (fun hc => absurd hc (by decide))
    refine x_iload_n dX11_cut_11 rfl rfl ?_
    refine x_i2l dX11_cut_12 ?_
    refine x_lconst (z := 0) dX11_cut_13 (by decide) (by decide) ?_
    refine x_lconst (z := 1) dX11_cut_14 (by decide) (by decide) ?_
    refine x_in (st := []) dX11_cut_15 ml_X11_110 ⟨by decide, by decide⟩ (fun _ _ => Nat.le_of_ble_eq_true rfl) (fun hc => ?_) (fun hc => ?_)
    · change X_ kk_X11_cut 18 [v_P 79, v_I x1, v_I x2, v_U, v_U, v_U, v_U, v_U] [v_I 1] M Q
      replace h := h.1 hc
      refine x_if_ne (tgt := 25) dX11_cut_18 (by decide) (fun _ => ?_) (fun hc => absurd hc (by decide))
      refine x_aload_n dX11_cut_25 rfl rfl ?_
      obtain ⟨Qc1, hc4, h⟩ := h
      refine x_callV (as := []) (st := []) (Qc := Qc1) dX11_cut_26 mt_X11_layWorths ml_X11_182 ⟨by decide, by decide⟩ sh_79 rfl (fun _ _ => Nat.le_of_ble_eq_true rfl) hc4 (fun r2 M3 hr5 hM6 hq7 => ?_)
      replace h := h r2 M3 hr5 hM6 hq7
      change X_ kk_X11_cut 29 [v_P 79, v_I x1, v_I x2, v_U, v_U, v_U, v_U, v_U] [] M3 Q
      refine x_aload_n dX11_cut_29 rfl rfl ?_
      refine y_getP dX11_cut_30 sh_79 cf_X11 fl_X11_25 (by decide) (by decide) gg_79_6 ?_
      refine x_iload_n dX11_cut_33 rfl rfl ?_
      obtain ⟨s8, h⟩ := h
      refine x_iald dX11_cut_34 sh_85 s8 ?_
      refine y_istore_n (ls' := [v_P 79, v_I x1, v_I x2, v_I (M3 85 x1.toNat), v_U, v_U, v_U, v_U]) dX11_cut_35 rfl (by decide) rfl ?_
      refine x_iconst dX11_cut_36 (by decide) ?_
      refine y_istore (ls' := [v_P 79, v_I x1, v_I x2, v_I (M3 85 x1.toNat), v_I 0, v_U, v_U, v_U]) dX11_cut_37 (by decide) rfl ?_
      refine x_ldc_w (n := (-1000000000)) dX11_cut_39 ct_X11_258 (by decide) (by decide) ?_
      refine y_istore (ls' := [v_P 79, v_I x1, v_I x2, v_I (M3 85 x1.toNat), v_I 0, v_I (-1000000000), v_U, v_U]) dX11_cut_42 (by decide) rfl ?_
      refine x_iconst dX11_cut_44 (by decide) ?_
      refine y_istore (ls' := [v_P 79, v_I x1, v_I x2, v_I (M3 85 x1.toNat), v_I 0, v_I (-1000000000), v_I 0, v_U]) dX11_cut_45 (by decide) rfl ?_
      exact h
    · change X_ kk_X11_cut 18 [v_P 79, v_I x1, v_I x2, v_U, v_U, v_U, v_U, v_U] [v_I 0] M Q
      replace h := h.2 hc
      refine x_if_ne (tgt := 25) dX11_cut_18 (by decide) (fun hc => absurd hc (by decide)) (fun _ => ?_)
      refine x_ldc_w (n := (-1000000002)) dX11_cut_21 ct_X11_257 (by decide) (by decide) ?_
      refine x_iret dX11_cut_24 rfl (Or.inl rfl) (fun _ _ => h)
  · change X_ kk_X11_cut 5 [v_P 79, v_I x1, v_I x2, v_U, v_U, v_U, v_U, v_U] [v_I 0] M Q
    replace h := h.2 hc
    refine x_if_ne (tgt := 11) dX11_cut_5 (by decide) (fun hc => absurd hc (by decide)) (fun _ => ?_)
    refine x_ldc (n := (-1000000001)) dX11_cut_8 ct_X11_253 (by decide) (by decide) ?_
    refine x_iret dX11_cut_10 rfl (Or.inl rfl) (fun _ _ => h)
theorem wp_X11_cut_47 {x1 x2 x3 x4 x5 x6 : Int} {M : mM} {Q : Int → mM → Prop} (h : (100 ≤ x6 → (0 ≤ x1 ∧ x1 < 6) ∧ (¬ x2 = 0 → Q x5 (m_up M 85 x1.toNat x3)) ∧ (x2 = 0 → Q x4 (m_up M 85 x1.toNat x3))) ∧ (¬ 100 ≤ x6 → (0 ≤ x1 ∧ x1 < 6) ∧ ∃ Qc3 : Int → mM → Prop, C_ kk_X11_gainOf [v_P 79, v_I x1, v_I (M 79 9)] (m_up M 85 x1.toNat x6) Qc3 ∧ ∀ (r4 : Int) (M5 : mM), m_ir r4 → m_okM M5 → Qc3 r4 M5 → (r4 ≤ x5 → (m_ir (x6 + 1)) ∧ X_ kk_X11_cut 47 [v_P 79, v_I x1, v_I x2, v_I x3, v_I x4, v_I x5, v_I (x6 + 1), v_U] [] M5 Q) ∧ (¬ r4 ≤ x5 → (m_ir (x6 + 1)) ∧ X_ kk_X11_cut 47 [v_P 79, v_I x1, v_I x2, v_I x3, v_I x6, v_I r4, v_I (x6 + 1), v_U] [] M5 Q))) : X_ kk_X11_cut 47 [v_P 79, v_I x1, v_I x2, v_I x3, v_I x4, v_I x5, v_I x6, v_U] [] M Q := by
  refine x_iload dX11_cut_47 rfl ?_
  refine x_bipush dX11_cut_49 (by decide) (by decide) ?_
  refine x_ic_ge (tgt := 94) dX11_cut_51 (by decide) (fun hc => ?_) (fun hc => ?_)
  · replace h := h.1 hc
    refine x_aload_n dX11_cut_94 rfl rfl ?_
    refine y_getP dX11_cut_95 sh_79 cf_X11 fl_X11_25 (by decide) (by decide) gg_79_6 ?_
    refine x_iload_n dX11_cut_98 rfl rfl ?_
    refine x_iload_n dX11_cut_99 rfl rfl ?_
    obtain ⟨s1, h⟩ := h
    refine x_iast dX11_cut_100 sh_85 s1 ?_
    refine x_iload_n dX11_cut_101 rfl rfl ?_
    refine x_if_ne (tgt := 110) dX11_cut_102 (by decide) (fun hc => ?_) (fun hc => ?_)
    · replace h := h.1 hc
      refine x_iload dX11_cut_110 rfl ?_
      refine x_iret dX11_cut_112 rfl (Or.inl rfl) (fun _ _ => h)
    · replace h := h.2 hc
      refine x_iload dX11_cut_105 rfl ?_
      refine x_goto (tgt := 112) dX11_cut_107 (by decide) ?_
      refine x_iret dX11_cut_112 rfl (Or.inl rfl) (fun _ _ => h)
  · replace h := h.2 hc
    refine x_aload_n dX11_cut_54 rfl rfl ?_
    refine y_getP dX11_cut_55 sh_79 cf_X11 fl_X11_25 (by decide) (by decide) gg_79_6 ?_
    refine x_iload_n dX11_cut_58 rfl rfl ?_
    refine x_iload dX11_cut_59 rfl ?_
    obtain ⟨s2, h⟩ := h
    refine x_iast dX11_cut_61 sh_85 s2 ?_
    refine x_aload_n dX11_cut_62 rfl rfl ?_
    refine x_iload_n dX11_cut_63 rfl rfl ?_
    refine x_aload_n dX11_cut_64 rfl rfl ?_
    refine y_getI (v := (M 79 9)) dX11_cut_65 sh_79 cf_X11 fl_X11_103 (by decide) (by decide) (m_up_ne (Or.inl (by decide))) ?_
    obtain ⟨Qc3, hc6, h⟩ := h
    refine x_callV (as := [v_I x1, v_I (M 79 9)]) (st := []) (Qc := Qc3) dX11_cut_68 mt_X11_gainOf ml_X11_254 ⟨by decide, by decide⟩ sh_79 rfl (fun _ _ => Nat.le_of_ble_eq_true rfl) hc6 (fun r4 M5 hr7 hM8 hq9 => ?_)
    replace h := h r4 M5 hr7 hM8 hq9
    change X_ kk_X11_cut 71 [v_P 79, v_I x1, v_I x2, v_I x3, v_I x4, v_I x5, v_I x6, v_U] [v_I r4] M5 Q
    refine y_istore (ls' := [v_P 79, v_I x1, v_I x2, v_I x3, v_I x4, v_I x5, v_I x6, v_I r4]) dX11_cut_71 (by decide) rfl ?_
    refine x_iload dX11_cut_73 rfl ?_
    refine x_iload dX11_cut_75 rfl ?_
    refine x_ic_le (tgt := 88) dX11_cut_77 (by decide) (fun hc => ?_) (fun hc => ?_)
    · replace h := h.1 hc
      obtain ⟨s10, h⟩ := h
      refine y_iinc (ls' := [v_P 79, v_I x1, v_I x2, v_I x3, v_I x4, v_I x5, v_I (x6 + 1), v_I r4]) dX11_cut_88 rfl s10 (by decide) rfl ?_
      refine x_goto (tgt := 47) dX11_cut_91 (by decide) ?_
      refine y_forget 7 (ls' := [v_P 79, v_I x1, v_I x2, v_I x3, v_I x4, v_I x5, v_I (x6 + 1), v_U]) rfl ?_
      exact h
    · replace h := h.2 hc
      refine x_iload dX11_cut_80 rfl ?_
      refine y_istore (ls' := [v_P 79, v_I x1, v_I x2, v_I x3, v_I x4, v_I r4, v_I x6, v_I r4]) dX11_cut_82 (by decide) rfl ?_
      refine x_iload dX11_cut_84 rfl ?_
      refine y_istore (ls' := [v_P 79, v_I x1, v_I x2, v_I x3, v_I x6, v_I r4, v_I x6, v_I r4]) dX11_cut_86 (by decide) rfl ?_
      obtain ⟨s11, h⟩ := h
      refine y_iinc (ls' := [v_P 79, v_I x1, v_I x2, v_I x3, v_I x6, v_I r4, v_I (x6 + 1), v_I r4]) dX11_cut_88 rfl s11 (by decide) rfl ?_
      refine x_goto (tgt := 47) dX11_cut_91 (by decide) ?_
      refine y_forget 7 (ls' := [v_P 79, v_I x1, v_I x2, v_I x3, v_I x6, v_I r4, v_I (x6 + 1), v_U]) rfl ?_
      exact h
theorem wp_X11_allWishes_0 {M : mM} {Q : Int → mM → Prop} (h : X_ kk_X11_allWishes 4 [v_P 79, v_I 0, v_I 0] [] M Q) : X_ kk_X11_allWishes 0 [v_P 79, v_U, v_U] [] M Q := by
  refine x_iconst dX11_allWishes_0 (by decide) ?_
  refine y_istore_n (ls' := [v_P 79, v_I 0, v_U]) dX11_allWishes_1 rfl (by decide) rfl ?_
  refine x_iconst dX11_allWishes_2 (by decide) ?_
  refine y_istore_n (ls' := [v_P 79, v_I 0, v_I 0]) dX11_allWishes_3 rfl (by decide) rfl ?_
  exact h
theorem wp_X11_allWishes_4 {x1 x2 : Int} {M : mM} {Q : Int → mM → Prop} (h : ((M 79 8) ≤ x2 → Q x1 M) ∧ (¬ (M 79 8) ≤ x2 → (0 ≤ x2 ∧ x2 < 6) ∧ (m_ir (x1 + (M 90 x2.toNat))) ∧ (m_ir (x2 + 1)) ∧ X_ kk_X11_allWishes 4 [v_P 79, v_I (x1 + (M 90 x2.toNat)), v_I (x2 + 1)] [] M Q)) : X_ kk_X11_allWishes 4 [v_P 79, v_I x1, v_I x2] [] M Q := by
  refine x_iload_n dX11_allWishes_4 rfl rfl ?_
  refine x_aload_n dX11_allWishes_5 rfl rfl ?_
  refine x_getI dX11_allWishes_6 sh_79 cf_X11 fl_X11_114 (by decide) (by decide) ?_
  refine x_ic_ge (tgt := 27) dX11_allWishes_9 (by decide) (fun hc => ?_) (fun hc => ?_)
  · replace h := h.1 hc
    refine x_iload_n dX11_allWishes_27 rfl rfl ?_
    refine x_iret dX11_allWishes_28 rfl (Or.inl rfl) (fun _ _ => h)
  · replace h := h.2 hc
    refine x_iload_n dX11_allWishes_12 rfl rfl ?_
    refine x_aload_n dX11_allWishes_13 rfl rfl ?_
    refine y_getP dX11_allWishes_14 sh_79 cf_X11 fl_X11_40 (by decide) (by decide) gg_79_14 ?_
    refine x_iload_n dX11_allWishes_17 rfl rfl ?_
    obtain ⟨s1, h⟩ := h
    refine x_iald dX11_allWishes_18 sh_90 s1 ?_
    obtain ⟨s2, h⟩ := h
    refine x_iadd dX11_allWishes_19 s2 ?_
    refine y_istore_n (ls' := [v_P 79, v_I (x1 + (M 90 x2.toNat)), v_I x2]) dX11_allWishes_20 rfl (by decide) rfl ?_
    obtain ⟨s3, h⟩ := h
    refine y_iinc (ls' := [v_P 79, v_I (x1 + (M 90 x2.toNat)), v_I (x2 + 1)]) dX11_allWishes_21 rfl s3 (by decide) rfl ?_
    refine x_goto (tgt := 4) dX11_allWishes_24 (by decide) ?_
    exact h
theorem wp_X11_leaveAll_0 {x1 : Int} {M : mM} {Q : Int → mM → Prop} (h : X_ kk_X11_leaveAll 7 [v_P 79, v_I x1, v_I 0, v_I 1, v_I 0, v_U] [] M Q) : X_ kk_X11_leaveAll 0 [v_P 79, v_I x1, v_U, v_U, v_U, v_U] [] M Q := by
  refine x_iconst dX11_leaveAll_0 (by decide) ?_
  refine y_istore_n (ls' := [v_P 79, v_I x1, v_I 0, v_U, v_U, v_U]) dX11_leaveAll_1 rfl (by decide) rfl ?_
  refine x_iconst dX11_leaveAll_2 (by decide) ?_
  refine y_istore_n (ls' := [v_P 79, v_I x1, v_I 0, v_I 1, v_U, v_U]) dX11_leaveAll_3 rfl (by decide) rfl ?_
  refine x_iconst dX11_leaveAll_4 (by decide) ?_
  refine y_istore (ls' := [v_P 79, v_I x1, v_I 0, v_I 1, v_I 0, v_U]) dX11_leaveAll_5 (by decide) rfl ?_
  exact h
theorem wp_X11_leaveAll_7 {x1 x2 x3 x4 : Int} {M : mM} {Q : Int → mM → Prop} (h : ((M 79 8) ≤ x4 → (x3 = 0 ∨ x3 = 1) ∧ Q x3 M) ∧ (¬ (M 79 8) ≤ x4 → (0 ≤ x4 ∧ x4 < 6) ∧ (m_ir ((m_shl 1 (M 90 x4.toNat)) - 1)) ∧ (x3 = 0 → (0 ≤ x4 ∧ x4 < 6) ∧ (0 ≤ x4 ∧ x4 < 6) ∧ ∀ M5 : mM, M5 = m_up M 91 x4.toNat (m_or (M 107 x4.toNat) (m_and (m_shr x1 x2) ((m_shl 1 (M 90 x4.toNat)) - 1))) → (0 ≤ x4 ∧ x4 < 6) ∧ (m_ir (x2 + (M 90 x4.toNat))) ∧ (m_ir (x4 + 1)) ∧ X_ kk_X11_leaveAll 7 [v_P 79, v_I x1, v_I (x2 + (M 90 x4.toNat)), v_I 0, v_I (x4 + 1), v_U] [] M5 Q) ∧ (¬ x3 = 0 → (0 ≤ x4 ∧ x4 < 6) ∧ (¬ (m_and (m_and (m_shr x1 x2) ((m_shl 1 (M 90 x4.toNat)) - 1)) (M 107 x4.toNat)) = 0 → (0 ≤ x4 ∧ x4 < 6) ∧ (0 ≤ x4 ∧ x4 < 6) ∧ ∀ M13 : mM, M13 = m_up M 91 x4.toNat (m_or (M 107 x4.toNat) (m_and (m_shr x1 x2) ((m_shl 1 (M 90 x4.toNat)) - 1))) → (0 ≤ x4 ∧ x4 < 6) ∧ (m_ir (x2 + (M 90 x4.toNat))) ∧ (m_ir (x4 + 1)) ∧ X_ kk_X11_leaveAll 7 [v_P 79, v_I x1, v_I (x2 + (M 90 x4.toNat)), v_I 0, v_I (x4 + 1), v_U] [] M13 Q) ∧ ((m_and (m_and (m_shr x1 x2) ((m_shl 1 (M 90 x4.toNat)) - 1)) (M 107 x4.toNat)) = 0 → (0 ≤ x4 ∧ x4 < 6) ∧ (0 ≤ x4 ∧ x4 < 6) ∧ ∀ M20 : mM, M20 = m_up M 91 x4.toNat (m_or (M 107 x4.toNat) (m_and (m_shr x1 x2) ((m_shl 1 (M 90 x4.toNat)) - 1))) → (0 ≤ x4 ∧ x4 < 6) ∧ (m_ir (x2 + (M 90 x4.toNat))) ∧ (m_ir (x4 + 1)) ∧ X_ kk_X11_leaveAll 7 [v_P 79, v_I x1, v_I (x2 + (M 90 x4.toNat)), v_I 1, v_I (x4 + 1), v_U] [] M20 Q)))) : X_ kk_X11_leaveAll 7 [v_P 79, v_I x1, v_I x2, v_I x3, v_I x4, v_U] [] M Q := by
  refine x_iload dX11_leaveAll_7 rfl ?_
  refine x_aload_n dX11_leaveAll_9 rfl rfl ?_
  refine x_getI dX11_leaveAll_10 sh_79 cf_X11 fl_X11_114 (by decide) (by decide) ?_
  refine x_ic_ge (tgt := 89) dX11_leaveAll_13 (by decide) (fun hc => ?_) (fun hc => ?_)
  · replace h := h.1 hc
    refine x_iload_n dX11_leaveAll_89 rfl rfl ?_
    refine x_iret dX11_leaveAll_90 rfl (Or.inr ⟨rfl, h.1⟩) (fun _ _ => h.2)
  · replace h := h.2 hc
    refine x_iload_n dX11_leaveAll_16 rfl rfl ?_
    refine x_iload_n dX11_leaveAll_17 rfl rfl ?_
    refine x_ishr dX11_leaveAll_18 ?_
    refine x_iconst dX11_leaveAll_19 (by decide) ?_
    refine x_aload_n dX11_leaveAll_20 rfl rfl ?_
    refine y_getP dX11_leaveAll_21 sh_79 cf_X11 fl_X11_40 (by decide) (by decide) gg_79_14 ?_
    refine x_iload dX11_leaveAll_24 rfl ?_
    obtain ⟨s1, h⟩ := h
    refine x_iald dX11_leaveAll_26 sh_90 s1 ?_
    refine x_ishl dX11_leaveAll_27 ?_
    refine x_iconst dX11_leaveAll_28 (by decide) ?_
    obtain ⟨s2, h⟩ := h
    refine x_isub dX11_leaveAll_29 s2 ?_
    refine x_iand dX11_leaveAll_30 ?_
    refine y_istore (ls' := [v_P 79, v_I x1, v_I x2, v_I x3, v_I x4, v_I (m_and (m_shr x1 x2) ((m_shl 1 (M 90 x4.toNat)) - 1))]) dX11_leaveAll_31 (by decide) rfl ?_
    refine x_iload_n dX11_leaveAll_33 rfl rfl ?_
    refine x_if_eq (tgt := 54) dX11_leaveAll_34 (by decide) (fun hc => ?_) (fun hc => ?_)
    · replace h := h.1 hc
      refine x_iconst dX11_leaveAll_54 (by decide) ?_
      refine y_istore_n (ls' := [v_P 79, v_I x1, v_I x2, v_I 0, v_I x4, v_I (m_and (m_shr x1 x2) ((m_shl 1 (M 90 x4.toNat)) - 1))]) dX11_leaveAll_55 rfl (by decide) rfl ?_
      refine x_aload_n dX11_leaveAll_56 rfl rfl ?_
      refine y_getP dX11_leaveAll_57 sh_79 cf_X11 fl_X11_43 (by decide) (by decide) gg_79_15 ?_
      refine x_iload dX11_leaveAll_60 rfl ?_
      refine x_aload_n dX11_leaveAll_62 rfl rfl ?_
      refine y_getP dX11_leaveAll_63 sh_79 cf_X11 fl_X11_91 (by decide) (by decide) gg_79_34 ?_
      refine x_iload dX11_leaveAll_66 rfl ?_
      obtain ⟨s3, h⟩ := h
      refine x_iald dX11_leaveAll_68 sh_107 s3 ?_
      refine x_iload dX11_leaveAll_69 rfl ?_
      refine x_ior dX11_leaveAll_71 ?_
      obtain ⟨s4, h⟩ := h
      refine x_iast dX11_leaveAll_72 sh_91 s4 ?_
      obtain ⟨M5, e6⟩ : ∃ z : mM, z = m_up M 91 x4.toNat (m_or (M 107 x4.toNat) (m_and (m_shr x1 x2) ((m_shl 1 (M 90 x4.toNat)) - 1))) := ⟨_, rfl⟩
      rw [← e6]
      replace h := h M5 e6
      refine x_iload_n dX11_leaveAll_73 rfl rfl ?_
      refine x_aload_n dX11_leaveAll_74 rfl rfl ?_
      refine y_getP dX11_leaveAll_75 sh_79 cf_X11 fl_X11_40 (by decide) (by decide) gg_79_14 ?_
      refine x_iload dX11_leaveAll_78 rfl ?_
      obtain ⟨s7, h⟩ := h
      refine y_iald (v := (M 90 x4.toNat)) dX11_leaveAll_80 sh_90 s7 ((congrFun (congrFun e6 90) x4.toNat).trans (m_up_ne (Or.inl (by decide)))) ?_
      obtain ⟨s8, h⟩ := h
      refine x_iadd dX11_leaveAll_81 s8 ?_
      refine y_istore_n (ls' := [v_P 79, v_I x1, v_I (x2 + (M 90 x4.toNat)), v_I 0, v_I x4, v_I (m_and (m_shr x1 x2) ((m_shl 1 (M 90 x4.toNat)) - 1))]) dX11_leaveAll_82 rfl (by decide) rfl ?_
      obtain ⟨s9, h⟩ := h
      refine y_iinc (ls' := [v_P 79, v_I x1, v_I (x2 + (M 90 x4.toNat)), v_I 0, v_I (x4 + 1), v_I (m_and (m_shr x1 x2) ((m_shl 1 (M 90 x4.toNat)) - 1))]) dX11_leaveAll_83 rfl s9 (by decide) rfl ?_
      refine x_goto (tgt := 7) dX11_leaveAll_86 (by decide) ?_
      refine y_forget 5 (ls' := [v_P 79, v_I x1, v_I (x2 + (M 90 x4.toNat)), v_I 0, v_I (x4 + 1), v_U]) rfl ?_
      exact h
    · replace h := h.2 hc
      refine x_iload dX11_leaveAll_37 rfl ?_
      refine x_aload_n dX11_leaveAll_39 rfl rfl ?_
      refine y_getP dX11_leaveAll_40 sh_79 cf_X11 fl_X11_91 (by decide) (by decide) gg_79_34 ?_
      refine x_iload dX11_leaveAll_43 rfl ?_
      obtain ⟨s10, h⟩ := h
      refine x_iald dX11_leaveAll_45 sh_107 s10 ?_
      refine x_iand dX11_leaveAll_46 ?_
      refine x_if_ne (tgt := 54) dX11_leaveAll_47 (by decide) (fun hc => ?_) (fun hc => ?_)
      · replace h := h.1 hc
        refine x_iconst dX11_leaveAll_54 (by decide) ?_
        refine y_istore_n (ls' := [v_P 79, v_I x1, v_I x2, v_I 0, v_I x4, v_I (m_and (m_shr x1 x2) ((m_shl 1 (M 90 x4.toNat)) - 1))]) dX11_leaveAll_55 rfl (by decide) rfl ?_
        refine x_aload_n dX11_leaveAll_56 rfl rfl ?_
        refine y_getP dX11_leaveAll_57 sh_79 cf_X11 fl_X11_43 (by decide) (by decide) gg_79_15 ?_
        refine x_iload dX11_leaveAll_60 rfl ?_
        refine x_aload_n dX11_leaveAll_62 rfl rfl ?_
        refine y_getP dX11_leaveAll_63 sh_79 cf_X11 fl_X11_91 (by decide) (by decide) gg_79_34 ?_
        refine x_iload dX11_leaveAll_66 rfl ?_
        obtain ⟨s11, h⟩ := h
        refine x_iald dX11_leaveAll_68 sh_107 s11 ?_
        refine x_iload dX11_leaveAll_69 rfl ?_
        refine x_ior dX11_leaveAll_71 ?_
        obtain ⟨s12, h⟩ := h
        refine x_iast dX11_leaveAll_72 sh_91 s12 ?_
        obtain ⟨M13, e14⟩ : ∃ z : mM, z = m_up M 91 x4.toNat (m_or (M 107 x4.toNat) (m_and (m_shr x1 x2) ((m_shl 1 (M 90 x4.toNat)) - 1))) := ⟨_, rfl⟩
        rw [← e14]
        replace h := h M13 e14
        refine x_iload_n dX11_leaveAll_73 rfl rfl ?_
        refine x_aload_n dX11_leaveAll_74 rfl rfl ?_
        refine y_getP dX11_leaveAll_75 sh_79 cf_X11 fl_X11_40 (by decide) (by decide) gg_79_14 ?_
        refine x_iload dX11_leaveAll_78 rfl ?_
        obtain ⟨s15, h⟩ := h
        refine y_iald (v := (M 90 x4.toNat)) dX11_leaveAll_80 sh_90 s15 ((congrFun (congrFun e14 90) x4.toNat).trans (m_up_ne (Or.inl (by decide)))) ?_
        obtain ⟨s16, h⟩ := h
        refine x_iadd dX11_leaveAll_81 s16 ?_
        refine y_istore_n (ls' := [v_P 79, v_I x1, v_I (x2 + (M 90 x4.toNat)), v_I 0, v_I x4, v_I (m_and (m_shr x1 x2) ((m_shl 1 (M 90 x4.toNat)) - 1))]) dX11_leaveAll_82 rfl (by decide) rfl ?_
        obtain ⟨s17, h⟩ := h
        refine y_iinc (ls' := [v_P 79, v_I x1, v_I (x2 + (M 90 x4.toNat)), v_I 0, v_I (x4 + 1), v_I (m_and (m_shr x1 x2) ((m_shl 1 (M 90 x4.toNat)) - 1))]) dX11_leaveAll_83 rfl s17 (by decide) rfl ?_
        refine x_goto (tgt := 7) dX11_leaveAll_86 (by decide) ?_
        refine y_forget 5 (ls' := [v_P 79, v_I x1, v_I (x2 + (M 90 x4.toNat)), v_I 0, v_I (x4 + 1), v_U]) rfl ?_
        exact h
      · replace h := h.2 hc
        refine x_iconst dX11_leaveAll_50 (by decide) ?_
        refine x_goto (tgt := 55) dX11_leaveAll_51 (by decide) ?_
        refine y_istore_n (ls' := [v_P 79, v_I x1, v_I x2, v_I 1, v_I x4, v_I (m_and (m_shr x1 x2) ((m_shl 1 (M 90 x4.toNat)) - 1))]) dX11_leaveAll_55 rfl (by decide) rfl ?_
        refine x_aload_n dX11_leaveAll_56 rfl rfl ?_
        refine y_getP dX11_leaveAll_57 sh_79 cf_X11 fl_X11_43 (by decide) (by decide) gg_79_15 ?_
        refine x_iload dX11_leaveAll_60 rfl ?_
        refine x_aload_n dX11_leaveAll_62 rfl rfl ?_
        refine y_getP dX11_leaveAll_63 sh_79 cf_X11 fl_X11_91 (by decide) (by decide) gg_79_34 ?_
        refine x_iload dX11_leaveAll_66 rfl ?_
        obtain ⟨s18, h⟩ := h
        refine x_iald dX11_leaveAll_68 sh_107 s18 ?_
        refine x_iload dX11_leaveAll_69 rfl ?_
        refine x_ior dX11_leaveAll_71 ?_
        obtain ⟨s19, h⟩ := h
        refine x_iast dX11_leaveAll_72 sh_91 s19 ?_
        obtain ⟨M20, e21⟩ : ∃ z : mM, z = m_up M 91 x4.toNat (m_or (M 107 x4.toNat) (m_and (m_shr x1 x2) ((m_shl 1 (M 90 x4.toNat)) - 1))) := ⟨_, rfl⟩
        rw [← e21]
        replace h := h M20 e21
        refine x_iload_n dX11_leaveAll_73 rfl rfl ?_
        refine x_aload_n dX11_leaveAll_74 rfl rfl ?_
        refine y_getP dX11_leaveAll_75 sh_79 cf_X11 fl_X11_40 (by decide) (by decide) gg_79_14 ?_
        refine x_iload dX11_leaveAll_78 rfl ?_
        obtain ⟨s22, h⟩ := h
        refine y_iald (v := (M 90 x4.toNat)) dX11_leaveAll_80 sh_90 s22 ((congrFun (congrFun e21 90) x4.toNat).trans (m_up_ne (Or.inl (by decide)))) ?_
        obtain ⟨s23, h⟩ := h
        refine x_iadd dX11_leaveAll_81 s23 ?_
        refine y_istore_n (ls' := [v_P 79, v_I x1, v_I (x2 + (M 90 x4.toNat)), v_I 1, v_I x4, v_I (m_and (m_shr x1 x2) ((m_shl 1 (M 90 x4.toNat)) - 1))]) dX11_leaveAll_82 rfl (by decide) rfl ?_
        obtain ⟨s24, h⟩ := h
        refine y_iinc (ls' := [v_P 79, v_I x1, v_I (x2 + (M 90 x4.toNat)), v_I 1, v_I (x4 + 1), v_I (m_and (m_shr x1 x2) ((m_shl 1 (M 90 x4.toNat)) - 1))]) dX11_leaveAll_83 rfl s24 (by decide) rfl ?_
        refine x_goto (tgt := 7) dX11_leaveAll_86 (by decide) ?_
        refine y_forget 5 (ls' := [v_P 79, v_I x1, v_I (x2 + (M 90 x4.toNat)), v_I 1, v_I (x4 + 1), v_U]) rfl ?_
        exact h
theorem wp_X11_broken_0 {x1 : Int} {M : mM} {Q : Int → mM → Prop} (h : (0 ≤ x1 ∧ x1 ≤ 1 → ∃ Qc1 : Int → mM → Prop, C_ kk_X11_allWishes [v_P 79] M Qc1 ∧ ∀ (r2 : Int) (M3 : mM), m_ir r2 → m_okM M3 → Qc1 r2 M3 → (r2 ≤ 8 → X_ kk_X11_broken 29 [v_P 79, v_I x1, v_I r2, v_I 0, v_U, v_U] [] M3 Q) ∧ (¬ r2 ≤ 8 → Q (-3) M3)) ∧ (¬ (0 ≤ x1 ∧ x1 ≤ 1) → Q (-2) M)) : X_ kk_X11_broken 0 [v_P 79, v_I x1, v_U, v_U, v_U, v_U] [] M Q := by
  refine x_iload_n dX11_broken_0 rfl rfl ?_
  refine x_i2l dX11_broken_1 ?_
  refine x_lconst (z := 0) dX11_broken_2 (by decide) (by decide) ?_
  refine x_lconst (z := 1) dX11_broken_3 (by decide) (by decide) ?_
  refine x_in (st := []) dX11_broken_4 ml_X11_110 ⟨by decide, by decide⟩ (fun _ _ => Nat.le_of_ble_eq_true rfl) (fun hc => ?_) (fun hc => ?_)
  · change X_ kk_X11_broken 7 [v_P 79, v_I x1, v_U, v_U, v_U, v_U] [v_I 1] M Q
    replace h := h.1 hc
    refine x_if_ne (tgt := 13) dX11_broken_7 (by decide) (fun _ => ?_) (fun hc => absurd hc (by decide))
    refine x_aload_n dX11_broken_13 rfl rfl ?_
    obtain ⟨Qc1, hc4, h⟩ := h
    refine x_callV (as := []) (st := []) (Qc := Qc1) dX11_broken_14 mt_X11_allWishes ml_X11_259 ⟨by decide, by decide⟩ sh_79 rfl (fun _ _ => Nat.le_of_ble_eq_true rfl) hc4 (fun r2 M3 hr5 hM6 hq7 => ?_)
    replace h := h r2 M3 hr5 hM6 hq7
    change X_ kk_X11_broken 17 [v_P 79, v_I x1, v_U, v_U, v_U, v_U] [v_I r2] M3 Q
    refine y_istore_n (ls' := [v_P 79, v_I x1, v_I r2, v_U, v_U, v_U]) dX11_broken_17 rfl (by decide) rfl ?_
    refine x_iload_n dX11_broken_18 rfl rfl ?_
    refine x_bipush dX11_broken_19 (by decide) (by decide) ?_
    refine x_ic_le (tgt := 27) dX11_broken_21 (by decide) (fun hc => ?_) (fun hc => ?_)
    · replace h := h.1 hc
      refine x_iconst dX11_broken_27 (by decide) ?_
      refine y_istore_n (ls' := [v_P 79, v_I x1, v_I r2, v_I 0, v_U, v_U]) dX11_broken_28 rfl (by decide) rfl ?_
      exact h
    · replace h := h.2 hc
      refine x_bipush dX11_broken_24 (by decide) (by decide) ?_
      refine x_iret dX11_broken_26 rfl (Or.inl rfl) (fun _ _ => h)
  · change X_ kk_X11_broken 7 [v_P 79, v_I x1, v_U, v_U, v_U, v_U] [v_I 0] M Q
    replace h := h.2 hc
    refine x_if_ne (tgt := 13) dX11_broken_7 (by decide) (fun hc => absurd hc (by decide)) (fun _ => ?_)
    refine x_bipush dX11_broken_10 (by decide) (by decide) ?_
    refine x_iret dX11_broken_12 rfl (Or.inl rfl) (fun _ _ => h)
theorem wp_X11_broken_29 {x1 x2 x3 : Int} {M : mM} {Q : Int → mM → Prop} (h : ((M 79 8) ≤ x3 → X_ kk_X11_broken 61 [v_P 79, v_I x1, v_I x2, v_I (-6), v_I 0, v_U] [] M Q) ∧ (¬ (M 79 8) ≤ x3 → (0 ≤ x3 ∧ x3 < 6) ∧ (0 ≤ x3 ∧ x3 < 6) ∧ (m_ir (x3 + 1)) ∧ X_ kk_X11_broken 29 [v_P 79, v_I x1, v_I x2, v_I (x3 + 1), v_U, v_U] [] (m_up M 107 x3.toNat (M 91 x3.toNat)) Q)) : X_ kk_X11_broken 29 [v_P 79, v_I x1, v_I x2, v_I x3, v_U, v_U] [] M Q := by
  refine x_iload_n dX11_broken_29 rfl rfl ?_
  refine x_aload_n dX11_broken_30 rfl rfl ?_
  refine x_getI dX11_broken_31 sh_79 cf_X11 fl_X11_114 (by decide) (by decide) ?_
  refine x_ic_ge (tgt := 55) dX11_broken_34 (by decide) (fun hc => ?_) (fun hc => ?_)
  · replace h := h.1 hc
    refine x_bipush dX11_broken_55 (by decide) (by decide) ?_
    refine y_istore_n (ls' := [v_P 79, v_I x1, v_I x2, v_I (-6), v_U, v_U]) dX11_broken_57 rfl (by decide) rfl ?_
    refine x_iconst dX11_broken_58 (by decide) ?_
    refine y_istore (ls' := [v_P 79, v_I x1, v_I x2, v_I (-6), v_I 0, v_U]) dX11_broken_59 (by decide) rfl ?_
    exact h
  · replace h := h.2 hc
    refine x_aload_n dX11_broken_37 rfl rfl ?_
    refine y_getP dX11_broken_38 sh_79 cf_X11 fl_X11_91 (by decide) (by decide) gg_79_34 ?_
    refine x_iload_n dX11_broken_41 rfl rfl ?_
    refine x_aload_n dX11_broken_42 rfl rfl ?_
    refine y_getP dX11_broken_43 sh_79 cf_X11 fl_X11_43 (by decide) (by decide) gg_79_15 ?_
    refine x_iload_n dX11_broken_46 rfl rfl ?_
    obtain ⟨s1, h⟩ := h
    refine x_iald dX11_broken_47 sh_91 s1 ?_
    obtain ⟨s2, h⟩ := h
    refine x_iast dX11_broken_48 sh_107 s2 ?_
    obtain ⟨s3, h⟩ := h
    refine y_iinc (ls' := [v_P 79, v_I x1, v_I x2, v_I (x3 + 1), v_U, v_U]) dX11_broken_49 rfl s3 (by decide) rfl ?_
    refine x_goto (tgt := 29) dX11_broken_52 (by decide) ?_
    exact h
theorem wp_X11_broken_61 {x1 x2 x3 x4 : Int} {M : mM} {Q : Int → mM → Prop} (h : ((m_shl 1 x2) ≤ x4 → X_ kk_X11_broken 133 [v_P 79, v_I x1, v_U, v_I x3, v_I 0, v_U] [] M Q) ∧ (¬ (m_shl 1 x2) ≤ x4 → (x3 < 0 → ∃ Qc1 : Int → mM → Prop, C_ kk_X11_leaveAll [v_P 79, v_I x4] M Qc1 ∧ ∀ (r2 : Int) (M3 : mM), m_ir r2 → m_okM M3 → Qc1 r2 M3 → (r2 = 0 → (m_ir (x4 + 1)) ∧ X_ kk_X11_broken 61 [v_P 79, v_I x1, v_I x2, v_I x3, v_I (x4 + 1), v_U] [] M3 Q) ∧ (¬ r2 = 0 → ∃ Qc9 : Int → mM → Prop, C_ kk_X11_layWorths [v_P 79] M3 Qc9 ∧ ∀ (r10 : Int) (M11 : mM), m_ir r10 → m_okM M11 → Qc9 r10 M11 → ∃ Qc16 : Int → mM → Prop, C_ kk_X11_raise [v_P 79] M11 Qc16 ∧ ∀ (r17 : Int) (M18 : mM), m_ir r17 → m_okM M18 → Qc16 r17 M18 → (¬ r17 = 0 → (m_ir (x4 + 1)) ∧ X_ kk_X11_broken 61 [v_P 79, v_I x1, v_I x2, v_I x3, v_I (x4 + 1), v_U] [] M18 Q) ∧ (r17 = 0 → (m_ir (x4 + 1)) ∧ X_ kk_X11_broken 61 [v_P 79, v_I x1, v_I x2, v_I x4, v_I (x4 + 1), v_U] [] M18 Q))) ∧ (¬ x3 < 0 → ∃ Qc25 : Int → mM → Prop, C_ kk_X11_ones [v_I x4] M Qc25 ∧ ∀ (r26 : Int) (M27 : mM), m_ir r26 → m_okM M27 → Qc25 r26 M27 → ∃ Qc32 : Int → mM → Prop, C_ kk_X11_ones [v_I x3] M27 Qc32 ∧ ∀ (r33 : Int) (M34 : mM), m_ir r33 → m_okM M34 → Qc32 r33 M34 → (r33 ≤ r26 → (m_ir (x4 + 1)) ∧ X_ kk_X11_broken 61 [v_P 79, v_I x1, v_I x2, v_I x3, v_I (x4 + 1), v_U] [] M34 Q) ∧ (¬ r33 ≤ r26 → ∃ Qc40 : Int → mM → Prop, C_ kk_X11_leaveAll [v_P 79, v_I x4] M34 Qc40 ∧ ∀ (r41 : Int) (M42 : mM), m_ir r41 → m_okM M42 → Qc40 r41 M42 → (r41 = 0 → (m_ir (x4 + 1)) ∧ X_ kk_X11_broken 61 [v_P 79, v_I x1, v_I x2, v_I x3, v_I (x4 + 1), v_U] [] M42 Q) ∧ (¬ r41 = 0 → ∃ Qc48 : Int → mM → Prop, C_ kk_X11_layWorths [v_P 79] M42 Qc48 ∧ ∀ (r49 : Int) (M50 : mM), m_ir r49 → m_okM M50 → Qc48 r49 M50 → ∃ Qc55 : Int → mM → Prop, C_ kk_X11_raise [v_P 79] M50 Qc55 ∧ ∀ (r56 : Int) (M57 : mM), m_ir r56 → m_okM M57 → Qc55 r56 M57 → (¬ r56 = 0 → (m_ir (x4 + 1)) ∧ X_ kk_X11_broken 61 [v_P 79, v_I x1, v_I x2, v_I x3, v_I (x4 + 1), v_U] [] M57 Q) ∧ (r56 = 0 → (m_ir (x4 + 1)) ∧ X_ kk_X11_broken 61 [v_P 79, v_I x1, v_I x2, v_I x4, v_I (x4 + 1), v_U] [] M57 Q)))))) : X_ kk_X11_broken 61 [v_P 79, v_I x1, v_I x2, v_I x3, v_I x4, v_U] [] M Q := by
  refine x_iload dX11_broken_61 rfl ?_
  refine x_iconst dX11_broken_63 (by decide) ?_
  refine x_iload_n dX11_broken_64 rfl rfl ?_
  refine x_ishl dX11_broken_65 ?_
  refine x_ic_ge (tgt := 130) dX11_broken_66 (by decide) (fun hc => ?_) (fun hc => ?_)
  · replace h := h.1 hc
    refine x_iconst dX11_broken_130 (by decide) ?_
    refine y_istore (ls' := [v_P 79, v_I x1, v_I x2, v_I x3, v_I 0, v_U]) dX11_broken_131 (by decide) rfl ?_
    refine y_forget 2 (ls' := [v_P 79, v_I x1, v_U, v_I x3, v_I 0, v_U]) rfl ?_
    exact h
  · replace h := h.2 hc
    refine x_iload_n dX11_broken_69 rfl rfl ?_
    refine x_if_lt (tgt := 85) dX11_broken_70 (by decide) (fun hc => ?_) (fun hc => ?_)
    · replace h := h.1 hc
      refine x_iconst dX11_broken_85 (by decide) ?_
      refine x_goto (tgt := 90) dX11_broken_86 (by decide) ?_
      refine y_istore (ls' := [v_P 79, v_I x1, v_I x2, v_I x3, v_I x4, v_I 1]) dX11_broken_90 (by decide) rfl ?_
      refine x_iload dX11_broken_92 rfl ?_
      refine x_if_eq (tgt := 124) dX11_broken_94 (by decide) (fun hc => absurd hc (by decide)) (fun _ => ?_)
      refine x_aload_n dX11_broken_97 rfl rfl ?_
      refine x_iload dX11_broken_98 rfl ?_
      obtain ⟨Qc1, hc4, h⟩ := h
      refine x_callV (as := [v_I x4]) (st := []) (Qc := Qc1) dX11_broken_100 mt_X11_leaveAll ml_X11_265 ⟨by decide, by decide⟩ sh_79 rfl (fun _ _ => Nat.le_of_ble_eq_true rfl) hc4 (fun r2 M3 hr5 hM6 hq7 => ?_)
      replace h := h r2 M3 hr5 hM6 hq7
      change X_ kk_X11_broken 103 [v_P 79, v_I x1, v_I x2, v_I x3, v_I x4, v_I 1] [v_I r2] M3 Q
      refine x_if_eq (tgt := 124) dX11_broken_103 (by decide) (fun hc => ?_) (fun hc => ?_)
      · replace h := h.1 hc
        obtain ⟨s8, h⟩ := h
        refine y_iinc (ls' := [v_P 79, v_I x1, v_I x2, v_I x3, v_I (x4 + 1), v_I 1]) dX11_broken_124 rfl s8 (by decide) rfl ?_
        refine x_goto (tgt := 61) dX11_broken_127 (by decide) ?_
        refine y_forget 5 (ls' := [v_P 79, v_I x1, v_I x2, v_I x3, v_I (x4 + 1), v_U]) rfl ?_
        exact h
      · replace h := h.2 hc
        refine x_aload_n dX11_broken_106 rfl rfl ?_
        obtain ⟨Qc9, hc12, h⟩ := h
        refine x_callV (as := []) (st := []) (Qc := Qc9) dX11_broken_107 mt_X11_layWorths ml_X11_182 ⟨by decide, by decide⟩ sh_79 rfl (fun _ _ => Nat.le_of_ble_eq_true rfl) hc12 (fun r10 M11 hr13 hM14 hq15 => ?_)
        replace h := h r10 M11 hr13 hM14 hq15
        change X_ kk_X11_broken 110 [v_P 79, v_I x1, v_I x2, v_I x3, v_I x4, v_I 1] [] M11 Q
        refine x_aload_n dX11_broken_110 rfl rfl ?_
        obtain ⟨Qc16, hc19, h⟩ := h
        refine x_callV (as := []) (st := []) (Qc := Qc16) dX11_broken_111 mt_X11_raise ml_X11_223 ⟨by decide, by decide⟩ sh_79 rfl (fun _ _ => Nat.le_of_ble_eq_true rfl) hc19 (fun r17 M18 hr20 hM21 hq22 => ?_)
        replace h := h r17 M18 hr20 hM21 hq22
        change X_ kk_X11_broken 114 [v_P 79, v_I x1, v_I x2, v_I x3, v_I x4, v_I 1] [v_I r17] M18 Q
        refine x_if_ne (tgt := 122) dX11_broken_114 (by decide) (fun hc => ?_) (fun hc => ?_)
        · replace h := h.1 hc
          refine x_iload_n dX11_broken_122 rfl rfl ?_
          refine y_istore_n (ls' := [v_P 79, v_I x1, v_I x2, v_I x3, v_I x4, v_I 1]) dX11_broken_123 rfl (by decide) rfl ?_
          obtain ⟨s23, h⟩ := h
          refine y_iinc (ls' := [v_P 79, v_I x1, v_I x2, v_I x3, v_I (x4 + 1), v_I 1]) dX11_broken_124 rfl s23 (by decide) rfl ?_
          refine x_goto (tgt := 61) dX11_broken_127 (by decide) ?_
          refine y_forget 5 (ls' := [v_P 79, v_I x1, v_I x2, v_I x3, v_I (x4 + 1), v_U]) rfl ?_
          exact h
        · replace h := h.2 hc
          refine x_iload dX11_broken_117 rfl ?_
          refine x_goto (tgt := 123) dX11_broken_119 (by decide) ?_
          refine y_istore_n (ls' := [v_P 79, v_I x1, v_I x2, v_I x4, v_I x4, v_I 1]) dX11_broken_123 rfl (by decide) rfl ?_
          obtain ⟨s24, h⟩ := h
          refine y_iinc (ls' := [v_P 79, v_I x1, v_I x2, v_I x4, v_I (x4 + 1), v_I 1]) dX11_broken_124 rfl s24 (by decide) rfl ?_
          refine x_goto (tgt := 61) dX11_broken_127 (by decide) ?_
          refine y_forget 5 (ls' := [v_P 79, v_I x1, v_I x2, v_I x4, v_I (x4 + 1), v_U]) rfl ?_
          exact h
    · replace h := h.2 hc
      refine x_iload dX11_broken_73 rfl ?_
      obtain ⟨Qc25, hc28, h⟩ := h
      refine x_callS (as := [v_I x4]) (st := []) (Qc := Qc25) dX11_broken_75 mt_X11_ones ml_X11_262 ⟨by decide, by decide⟩ (fun _ _ => Nat.le_of_ble_eq_true rfl) hc28 (fun r26 M27 hr29 hM30 hq31 => ?_)
      replace h := h r26 M27 hr29 hM30 hq31
      change X_ kk_X11_broken 78 [v_P 79, v_I x1, v_I x2, v_I x3, v_I x4, v_U] [v_I r26] M27 Q
      refine x_iload_n dX11_broken_78 rfl rfl ?_
      obtain ⟨Qc32, hc35, h⟩ := h
      refine x_callS (as := [v_I x3]) (st := [v_I r26]) (Qc := Qc32) dX11_broken_79 mt_X11_ones ml_X11_262 ⟨by decide, by decide⟩ (fun _ _ => Nat.le_of_ble_eq_true rfl) hc35 (fun r33 M34 hr36 hM37 hq38 => ?_)
      replace h := h r33 M34 hr36 hM37 hq38
      change X_ kk_X11_broken 82 [v_P 79, v_I x1, v_I x2, v_I x3, v_I x4, v_U] [v_I r33, v_I r26] M34 Q
      refine x_ic_ge (tgt := 89) dX11_broken_82 (by decide) (fun hc => ?_) (fun hc => ?_)
      · replace h := h.1 hc
        refine x_iconst dX11_broken_89 (by decide) ?_
        refine y_istore (ls' := [v_P 79, v_I x1, v_I x2, v_I x3, v_I x4, v_I 0]) dX11_broken_90 (by decide) rfl ?_
        refine x_iload dX11_broken_92 rfl ?_
        refine x_if_eq (tgt := 124) dX11_broken_94 (by decide) (fun _ => ?_) (fun hc => absurd hc (by decide))
        obtain ⟨s39, h⟩ := h
        refine y_iinc (ls' := [v_P 79, v_I x1, v_I x2, v_I x3, v_I (x4 + 1), v_I 0]) dX11_broken_124 rfl s39 (by decide) rfl ?_
        refine x_goto (tgt := 61) dX11_broken_127 (by decide) ?_
        refine y_forget 5 (ls' := [v_P 79, v_I x1, v_I x2, v_I x3, v_I (x4 + 1), v_U]) rfl ?_
        exact h
      · replace h := h.2 hc
        refine x_iconst dX11_broken_85 (by decide) ?_
        refine x_goto (tgt := 90) dX11_broken_86 (by decide) ?_
        refine y_istore (ls' := [v_P 79, v_I x1, v_I x2, v_I x3, v_I x4, v_I 1]) dX11_broken_90 (by decide) rfl ?_
        refine x_iload dX11_broken_92 rfl ?_
        refine x_if_eq (tgt := 124) dX11_broken_94 (by decide) (fun hc => absurd hc (by decide)) (fun _ => ?_)
        refine x_aload_n dX11_broken_97 rfl rfl ?_
        refine x_iload dX11_broken_98 rfl ?_
        obtain ⟨Qc40, hc43, h⟩ := h
        refine x_callV (as := [v_I x4]) (st := []) (Qc := Qc40) dX11_broken_100 mt_X11_leaveAll ml_X11_265 ⟨by decide, by decide⟩ sh_79 rfl (fun _ _ => Nat.le_of_ble_eq_true rfl) hc43 (fun r41 M42 hr44 hM45 hq46 => ?_)
        replace h := h r41 M42 hr44 hM45 hq46
        change X_ kk_X11_broken 103 [v_P 79, v_I x1, v_I x2, v_I x3, v_I x4, v_I 1] [v_I r41] M42 Q
        refine x_if_eq (tgt := 124) dX11_broken_103 (by decide) (fun hc => ?_) (fun hc => ?_)
        · replace h := h.1 hc
          obtain ⟨s47, h⟩ := h
          refine y_iinc (ls' := [v_P 79, v_I x1, v_I x2, v_I x3, v_I (x4 + 1), v_I 1]) dX11_broken_124 rfl s47 (by decide) rfl ?_
          refine x_goto (tgt := 61) dX11_broken_127 (by decide) ?_
          refine y_forget 5 (ls' := [v_P 79, v_I x1, v_I x2, v_I x3, v_I (x4 + 1), v_U]) rfl ?_
          exact h
        · replace h := h.2 hc
          refine x_aload_n dX11_broken_106 rfl rfl ?_
          obtain ⟨Qc48, hc51, h⟩ := h
          refine x_callV (as := []) (st := []) (Qc := Qc48) dX11_broken_107 mt_X11_layWorths ml_X11_182 ⟨by decide, by decide⟩ sh_79 rfl (fun _ _ => Nat.le_of_ble_eq_true rfl) hc51 (fun r49 M50 hr52 hM53 hq54 => ?_)
          replace h := h r49 M50 hr52 hM53 hq54
          change X_ kk_X11_broken 110 [v_P 79, v_I x1, v_I x2, v_I x3, v_I x4, v_I 1] [] M50 Q
          refine x_aload_n dX11_broken_110 rfl rfl ?_
          obtain ⟨Qc55, hc58, h⟩ := h
          refine x_callV (as := []) (st := []) (Qc := Qc55) dX11_broken_111 mt_X11_raise ml_X11_223 ⟨by decide, by decide⟩ sh_79 rfl (fun _ _ => Nat.le_of_ble_eq_true rfl) hc58 (fun r56 M57 hr59 hM60 hq61 => ?_)
          replace h := h r56 M57 hr59 hM60 hq61
          change X_ kk_X11_broken 114 [v_P 79, v_I x1, v_I x2, v_I x3, v_I x4, v_I 1] [v_I r56] M57 Q
          refine x_if_ne (tgt := 122) dX11_broken_114 (by decide) (fun hc => ?_) (fun hc => ?_)
          · replace h := h.1 hc
            refine x_iload_n dX11_broken_122 rfl rfl ?_
            refine y_istore_n (ls' := [v_P 79, v_I x1, v_I x2, v_I x3, v_I x4, v_I 1]) dX11_broken_123 rfl (by decide) rfl ?_
            obtain ⟨s62, h⟩ := h
            refine y_iinc (ls' := [v_P 79, v_I x1, v_I x2, v_I x3, v_I (x4 + 1), v_I 1]) dX11_broken_124 rfl s62 (by decide) rfl ?_
            refine x_goto (tgt := 61) dX11_broken_127 (by decide) ?_
            refine y_forget 5 (ls' := [v_P 79, v_I x1, v_I x2, v_I x3, v_I (x4 + 1), v_U]) rfl ?_
            exact h
          · replace h := h.2 hc
            refine x_iload dX11_broken_117 rfl ?_
            refine x_goto (tgt := 123) dX11_broken_119 (by decide) ?_
            refine y_istore_n (ls' := [v_P 79, v_I x1, v_I x2, v_I x4, v_I x4, v_I 1]) dX11_broken_123 rfl (by decide) rfl ?_
            obtain ⟨s63, h⟩ := h
            refine y_iinc (ls' := [v_P 79, v_I x1, v_I x2, v_I x4, v_I (x4 + 1), v_I 1]) dX11_broken_124 rfl s63 (by decide) rfl ?_
            refine x_goto (tgt := 61) dX11_broken_127 (by decide) ?_
            refine y_forget 5 (ls' := [v_P 79, v_I x1, v_I x2, v_I x4, v_I (x4 + 1), v_U]) rfl ?_
            exact h
theorem wp_X11_broken_133 {x1 x3 x4 : Int} {M : mM} {Q : Int → mM → Prop} (h : ((M 79 8) ≤ x4 → (¬ x1 = 0 → ∃ Qc1 : Int → mM → Prop, C_ kk_X11_ones [v_I x3] M Qc1 ∧ ∀ (r2 : Int) (M3 : mM), m_ir r2 → m_okM M3 → Qc1 r2 M3 → Q r2 M3) ∧ (x1 = 0 → Q x3 M)) ∧ (¬ (M 79 8) ≤ x4 → (0 ≤ x4 ∧ x4 < 6) ∧ (0 ≤ x4 ∧ x4 < 6) ∧ (m_ir (x4 + 1)) ∧ X_ kk_X11_broken 133 [v_P 79, v_I x1, v_U, v_I x3, v_I (x4 + 1), v_U] [] (m_up M 91 x4.toNat (M 107 x4.toNat)) Q)) : X_ kk_X11_broken 133 [v_P 79, v_I x1, v_U, v_I x3, v_I x4, v_U] [] M Q := by
  refine x_iload dX11_broken_133 rfl ?_
  refine x_aload_n dX11_broken_135 rfl rfl ?_
  refine x_getI dX11_broken_136 sh_79 cf_X11 fl_X11_114 (by decide) (by decide) ?_
  refine x_ic_ge (tgt := 162) dX11_broken_139 (by decide) (fun hc => ?_) (fun hc => ?_)
  · replace h := h.1 hc
    refine x_iload_n dX11_broken_162 rfl rfl ?_
    refine x_if_ne (tgt := 170) dX11_broken_163 (by decide) (fun hc => ?_) (fun hc => ?_)
    · replace h := h.1 hc
      refine x_iload_n dX11_broken_170 rfl rfl ?_
      obtain ⟨Qc1, hc4, h⟩ := h
      refine x_callS (as := [v_I x3]) (st := []) (Qc := Qc1) dX11_broken_171 mt_X11_ones ml_X11_262 ⟨by decide, by decide⟩ (fun _ _ => Nat.le_of_ble_eq_true rfl) hc4 (fun r2 M3 hr5 hM6 hq7 => ?_)
      replace h := h r2 M3 hr5 hM6 hq7
      change X_ kk_X11_broken 174 [v_P 79, v_I x1, v_U, v_I x3, v_I x4, v_U] [v_I r2] M3 Q
      refine x_iret dX11_broken_174 rfl (Or.inl rfl) (fun _ _ => h)
    · replace h := h.2 hc
      refine x_iload_n dX11_broken_166 rfl rfl ?_
      refine x_goto (tgt := 174) dX11_broken_167 (by decide) ?_
      refine x_iret dX11_broken_174 rfl (Or.inl rfl) (fun _ _ => h)
  · replace h := h.2 hc
    refine x_aload_n dX11_broken_142 rfl rfl ?_
    refine y_getP dX11_broken_143 sh_79 cf_X11 fl_X11_43 (by decide) (by decide) gg_79_15 ?_
    refine x_iload dX11_broken_146 rfl ?_
    refine x_aload_n dX11_broken_148 rfl rfl ?_
    refine y_getP dX11_broken_149 sh_79 cf_X11 fl_X11_91 (by decide) (by decide) gg_79_34 ?_
    refine x_iload dX11_broken_152 rfl ?_
    obtain ⟨s8, h⟩ := h
    refine x_iald dX11_broken_154 sh_107 s8 ?_
    obtain ⟨s9, h⟩ := h
    refine x_iast dX11_broken_155 sh_91 s9 ?_
    obtain ⟨s10, h⟩ := h
    refine y_iinc (ls' := [v_P 79, v_I x1, v_U, v_I x3, v_I (x4 + 1), v_U]) dX11_broken_156 rfl s10 (by decide) rfl ?_
    refine x_goto (tgt := 133) dX11_broken_159 (by decide) ?_
    exact h
theorem wp_X11_lesson_0 {x1 : Int} {M : mM} {Q : Int → mM → Prop} (h : (1 ≤ x1 ∧ x1 ≤ 200 → (¬ (M 79 36) = 8 → (0 ≤ (M 79 36) ∧ (M 79 36) < 8) ∧ (m_ir ((M 79 36) + 1)) ∧ Q ((M 79 36) + 1) (m_up (m_up M 108 ((M 79 36).toNat) x1) 79 36 ((M 79 36) + 1))) ∧ ((M 79 36) = 8 → Q (-4) M)) ∧ (¬ (1 ≤ x1 ∧ x1 ≤ 200) → Q (-2) M)) : X_ kk_X11_lesson 0 [v_P 79, v_I x1] [] M Q := by
  refine x_iload_n dX11_lesson_0 rfl rfl ?_
  refine x_i2l dX11_lesson_1 ?_
  refine x_lconst (z := 1) dX11_lesson_2 (by decide) (by decide) ?_
  refine x_ldc2 (z := 200) dX11_lesson_3 cl_X11_121 (by decide) (by decide) ?_
  refine x_in (st := []) dX11_lesson_6 ml_X11_110 ⟨by decide, by decide⟩ (fun _ _ => Nat.le_of_ble_eq_true rfl) (fun hc => ?_) (fun hc => ?_)
  · change X_ kk_X11_lesson 9 [v_P 79, v_I x1] [v_I 1] M Q
    replace h := h.1 hc
    refine x_if_ne (tgt := 15) dX11_lesson_9 (by decide) (fun _ => ?_) (fun hc => absurd hc (by decide))
    refine x_aload_n dX11_lesson_15 rfl rfl ?_
    refine x_getI dX11_lesson_16 sh_79 cf_X11 fl_X11_268 (by decide) (by decide) ?_
    refine x_bipush dX11_lesson_19 (by decide) (by decide) ?_
    refine x_ic_ne (tgt := 27) dX11_lesson_21 (by decide) (fun hc => ?_) (fun hc => ?_)
    · replace h := h.1 hc
      refine x_aload_n dX11_lesson_27 rfl rfl ?_
      refine y_getP dX11_lesson_28 sh_79 cf_X11 fl_X11_94 (by decide) (by decide) gg_79_35 ?_
      refine x_aload_n dX11_lesson_31 rfl rfl ?_
      refine x_getI dX11_lesson_32 sh_79 cf_X11 fl_X11_268 (by decide) (by decide) ?_
      refine x_iload_n dX11_lesson_35 rfl rfl ?_
      obtain ⟨s1, h⟩ := h
      refine x_iast dX11_lesson_36 sh_108 s1 ?_
      refine x_aload_n dX11_lesson_37 rfl rfl ?_
      refine x_dup dX11_lesson_38 (fun _ _ => rfl) ?_
      refine y_getI (v := (M 79 36)) dX11_lesson_39 sh_79 cf_X11 fl_X11_268 (by decide) (by decide) (m_up_ne (Or.inl (by decide))) ?_
      refine x_iconst dX11_lesson_42 (by decide) ?_
      obtain ⟨s2, h⟩ := h
      refine x_iadd dX11_lesson_43 s2 ?_
      refine x_putI dX11_lesson_44 sh_79 cf_X11 fl_X11_268 (by decide) rfl (by decide) (Or.inl rfl) ?_
      refine x_aload_n dX11_lesson_47 rfl rfl ?_
      refine y_getI (v := ((M 79 36) + 1)) dX11_lesson_48 sh_79 cf_X11 fl_X11_268 (by decide) (by decide) (m_up_same _ _ _ _) ?_
      refine x_iret dX11_lesson_51 rfl (Or.inl rfl) (fun _ _ => h)
    · replace h := h.2 hc
      refine x_bipush dX11_lesson_24 (by decide) (by decide) ?_
      refine x_iret dX11_lesson_26 rfl (Or.inl rfl) (fun _ _ => h)
  · change X_ kk_X11_lesson 9 [v_P 79, v_I x1] [v_I 0] M Q
    replace h := h.2 hc
    refine x_if_ne (tgt := 15) dX11_lesson_9 (by decide) (fun hc => absurd hc (by decide)) (fun _ => ?_)
    refine x_bipush dX11_lesson_12 (by decide) (by decide) ?_
    refine x_iret dX11_lesson_14 rfl (Or.inl rfl) (fun _ _ => h)
theorem wp_X11_unlearn_0 {M : mM} {Q : Int → mM → Prop} (h : Q (M 79 36) (m_up M 79 36 0)) : X_ kk_X11_unlearn 0 [v_P 79, v_U] [] M Q := by
  refine x_aload_n dX11_unlearn_0 rfl rfl ?_
  refine x_getI dX11_unlearn_1 sh_79 cf_X11 fl_X11_268 (by decide) (by decide) ?_
  refine y_istore_n (ls' := [v_P 79, v_I (M 79 36)]) dX11_unlearn_4 rfl (by decide) rfl ?_
  refine x_aload_n dX11_unlearn_5 rfl rfl ?_
  refine x_iconst dX11_unlearn_6 (by decide) ?_
  refine x_putI dX11_unlearn_7 sh_79 cf_X11 fl_X11_268 (by decide) rfl (by decide) (Or.inl rfl) ?_
  refine x_iload_n dX11_unlearn_10 rfl rfl ?_
  refine x_iret dX11_unlearn_11 rfl (Or.inl rfl) (fun _ _ => h)
theorem wp_X11_broughtAhead_0 {x1 x2 : Int} {M : mM} {Q : Int → mM → Prop} (h : X_ kk_X11_broughtAhead 5 [v_P 79, v_I x1, v_I x2, v_I 0, v_I 0] [] M Q) : X_ kk_X11_broughtAhead 0 [v_P 79, v_I x1, v_I x2, v_U, v_U] [] M Q := by
  refine x_iconst dX11_broughtAhead_0 (by decide) ?_
  refine y_istore_n (ls' := [v_P 79, v_I x1, v_I x2, v_I 0, v_U]) dX11_broughtAhead_1 rfl (by decide) rfl ?_
  refine x_iconst dX11_broughtAhead_2 (by decide) ?_
  refine y_istore (ls' := [v_P 79, v_I x1, v_I x2, v_I 0, v_I 0]) dX11_broughtAhead_3 (by decide) rfl ?_
  exact h
theorem wp_X11_broughtAhead_5 {x1 x2 x3 x4 : Int} {M : mM} {Q : Int → mM → Prop} (h : (x2 ≤ x4 → Q x3 M) ∧ (¬ x2 ≤ x4 → (m_ir (3 * x4)) ∧ (m_ir ((3 * x4) + x1)) ∧ (0 ≤ ((3 * x4) + x1) ∧ ((3 * x4) + x1) < 24) ∧ (m_ir (x3 + (M 109 (((3 * x4) + x1).toNat)))) ∧ (m_ir (x4 + 1)) ∧ X_ kk_X11_broughtAhead 5 [v_P 79, v_I x1, v_I x2, v_I (x3 + (M 109 (((3 * x4) + x1).toNat))), v_I (x4 + 1)] [] M Q)) : X_ kk_X11_broughtAhead 5 [v_P 79, v_I x1, v_I x2, v_I x3, v_I x4] [] M Q := by
  refine x_iload dX11_broughtAhead_5 rfl ?_
  refine x_iload_n dX11_broughtAhead_7 rfl rfl ?_
  refine x_ic_ge (tgt := 31) dX11_broughtAhead_8 (by decide) (fun hc => ?_) (fun hc => ?_)
  · replace h := h.1 hc
    refine x_iload_n dX11_broughtAhead_31 rfl rfl ?_
    refine x_iret dX11_broughtAhead_32 rfl (Or.inl rfl) (fun _ _ => h)
  · replace h := h.2 hc
    refine x_iload_n dX11_broughtAhead_11 rfl rfl ?_
    refine x_aload_n dX11_broughtAhead_12 rfl rfl ?_
    refine y_getP dX11_broughtAhead_13 sh_79 cf_X11 fl_X11_97 (by decide) (by decide) gg_79_37 ?_
    refine x_iconst dX11_broughtAhead_16 (by decide) ?_
    refine x_iload dX11_broughtAhead_17 rfl ?_
    obtain ⟨s1, h⟩ := h
    refine x_imul dX11_broughtAhead_19 s1 ?_
    refine x_iload_n dX11_broughtAhead_20 rfl rfl ?_
    obtain ⟨s2, h⟩ := h
    refine x_iadd dX11_broughtAhead_21 s2 ?_
    obtain ⟨s3, h⟩ := h
    refine x_iald dX11_broughtAhead_22 sh_109 s3 ?_
    obtain ⟨s4, h⟩ := h
    refine x_iadd dX11_broughtAhead_23 s4 ?_
    refine y_istore_n (ls' := [v_P 79, v_I x1, v_I x2, v_I (x3 + (M 109 (((3 * x4) + x1).toNat))), v_I x4]) dX11_broughtAhead_24 rfl (by decide) rfl ?_
    obtain ⟨s5, h⟩ := h
    refine y_iinc (ls' := [v_P 79, v_I x1, v_I x2, v_I (x3 + (M 109 (((3 * x4) + x1).toNat))), v_I (x4 + 1)]) dX11_broughtAhead_25 rfl s5 (by decide) rfl ?_
    refine x_goto (tgt := 5) dX11_broughtAhead_28 (by decide) ?_
    exact h
theorem wp_X11_bestAhead_0 {x1 : Int} {M : mM} {Q : Int → mM → Prop} (h : X_ kk_X11_bestAhead 4 [v_P 79, v_I x1, v_I 0, v_I 1] [] M Q) : X_ kk_X11_bestAhead 0 [v_P 79, v_I x1, v_U, v_U] [] M Q := by
  refine x_iconst dX11_bestAhead_0 (by decide) ?_
  refine y_istore_n (ls' := [v_P 79, v_I x1, v_I 0, v_U]) dX11_bestAhead_1 rfl (by decide) rfl ?_
  refine x_iconst dX11_bestAhead_2 (by decide) ?_
  refine y_istore_n (ls' := [v_P 79, v_I x1, v_I 0, v_I 1]) dX11_bestAhead_3 rfl (by decide) rfl ?_
  exact h
theorem wp_X11_bestAhead_4 {x1 x2 x3 : Int} {M : mM} {Q : Int → mM → Prop} (h : (3 ≤ x3 → Q x2 M) ∧ (¬ 3 ≤ x3 → ∃ Qc1 : Int → mM → Prop, C_ kk_X11_broughtAhead [v_P 79, v_I x3, v_I x1] M Qc1 ∧ ∀ (r2 : Int) (M3 : mM), m_ir r2 → m_okM M3 → Qc1 r2 M3 → ∃ Qc8 : Int → mM → Prop, C_ kk_X11_broughtAhead [v_P 79, v_I x2, v_I x1] M3 Qc8 ∧ ∀ (r9 : Int) (M10 : mM), m_ir r9 → m_okM M10 → Qc8 r9 M10 → (r2 ≤ r9 → (m_ir (x3 + 1)) ∧ X_ kk_X11_bestAhead 4 [v_P 79, v_I x1, v_I x2, v_I (x3 + 1)] [] M10 Q) ∧ (¬ r2 ≤ r9 → (m_ir (x3 + 1)) ∧ X_ kk_X11_bestAhead 4 [v_P 79, v_I x1, v_I x3, v_I (x3 + 1)] [] M10 Q))) : X_ kk_X11_bestAhead 4 [v_P 79, v_I x1, v_I x2, v_I x3] [] M Q := by
  refine x_iload_n dX11_bestAhead_4 rfl rfl ?_
  refine x_iconst dX11_bestAhead_5 (by decide) ?_
  refine x_ic_ge (tgt := 36) dX11_bestAhead_6 (by decide) (fun hc => ?_) (fun hc => ?_)
  · replace h := h.1 hc
    refine x_iload_n dX11_bestAhead_36 rfl rfl ?_
    refine x_iret dX11_bestAhead_37 rfl (Or.inl rfl) (fun _ _ => h)
  · replace h := h.2 hc
    refine x_aload_n dX11_bestAhead_9 rfl rfl ?_
    refine x_iload_n dX11_bestAhead_10 rfl rfl ?_
    refine x_iload_n dX11_bestAhead_11 rfl rfl ?_
    obtain ⟨Qc1, hc4, h⟩ := h
    refine x_callV (as := [v_I x3, v_I x1]) (st := []) (Qc := Qc1) dX11_bestAhead_12 mt_X11_broughtAhead ml_X11_271 ⟨by decide, by decide⟩ sh_79 rfl (fun _ _ => Nat.le_of_ble_eq_true rfl) hc4 (fun r2 M3 hr5 hM6 hq7 => ?_)
    replace h := h r2 M3 hr5 hM6 hq7
    change X_ kk_X11_bestAhead 15 [v_P 79, v_I x1, v_I x2, v_I x3] [v_I r2] M3 Q
    refine x_aload_n dX11_bestAhead_15 rfl rfl ?_
    refine x_iload_n dX11_bestAhead_16 rfl rfl ?_
    refine x_iload_n dX11_bestAhead_17 rfl rfl ?_
    obtain ⟨Qc8, hc11, h⟩ := h
    refine x_callV (as := [v_I x2, v_I x1]) (st := [v_I r2]) (Qc := Qc8) dX11_bestAhead_18 mt_X11_broughtAhead ml_X11_271 ⟨by decide, by decide⟩ sh_79 rfl (fun _ _ => Nat.le_of_ble_eq_true rfl) hc11 (fun r9 M10 hr12 hM13 hq14 => ?_)
    replace h := h r9 M10 hr12 hM13 hq14
    change X_ kk_X11_bestAhead 21 [v_P 79, v_I x1, v_I x2, v_I x3] [v_I r9, v_I r2] M10 Q
    refine x_ic_le (tgt := 28) dX11_bestAhead_21 (by decide) (fun hc => ?_) (fun hc => ?_)
    · replace h := h.1 hc
      refine x_iload_n dX11_bestAhead_28 rfl rfl ?_
      refine y_istore_n (ls' := [v_P 79, v_I x1, v_I x2, v_I x3]) dX11_bestAhead_29 rfl (by decide) rfl ?_
      obtain ⟨s15, h⟩ := h
      refine y_iinc (ls' := [v_P 79, v_I x1, v_I x2, v_I (x3 + 1)]) dX11_bestAhead_30 rfl s15 (by decide) rfl ?_
      refine x_goto (tgt := 4) dX11_bestAhead_33 (by decide) ?_
      exact h
    · replace h := h.2 hc
      refine x_iload_n dX11_bestAhead_24 rfl rfl ?_
      refine x_goto (tgt := 29) dX11_bestAhead_25 (by decide) ?_
      refine y_istore_n (ls' := [v_P 79, v_I x1, v_I x3, v_I x3]) dX11_bestAhead_29 rfl (by decide) rfl ?_
      obtain ⟨s16, h⟩ := h
      refine y_iinc (ls' := [v_P 79, v_I x1, v_I x3, v_I (x3 + 1)]) dX11_bestAhead_30 rfl s16 (by decide) rfl ?_
      refine x_goto (tgt := 4) dX11_bestAhead_33 (by decide) ?_
      exact h
theorem wp_X11_learn_0 {x1 x2 x3 : Int} {M : mM} {Q : Int → mM → Prop} (h : (0 ≤ M 79 8) ∧ (0 ≤ x1 ∧ x1 < M 79 8 → (0 ≤ x2 ∧ x2 ≤ 79 → (0 ≤ x3 ∧ x3 ≤ 2 → ∃ Qc1 : Int → mM → Prop, C_ kk_X11_layWorths [v_P 79] M Qc1 ∧ ∀ (r2 : Int) (M3 : mM), m_ir r2 → m_okM M3 → Qc1 r2 M3 → (0 ≤ x1 ∧ x1 < 6) ∧ X_ kk_X11_learn 68 [v_P 79, v_I x1, v_I x2, v_I x3, v_I (M3 85 x1.toNat), v_I 0, v_U] [] M3 Q) ∧ (¬ (0 ≤ x3 ∧ x3 ≤ 2) → (10 ≤ x3 ∧ x3 ≤ 17 → ∃ Qc9 : Int → mM → Prop, C_ kk_X11_layWorths [v_P 79] M Qc9 ∧ ∀ (r10 : Int) (M11 : mM), m_ir r10 → m_okM M11 → Qc9 r10 M11 → (0 ≤ x1 ∧ x1 < 6) ∧ X_ kk_X11_learn 68 [v_P 79, v_I x1, v_I x2, v_I x3, v_I (M11 85 x1.toNat), v_I 0, v_U] [] M11 Q) ∧ (¬ (10 ≤ x3 ∧ x3 ≤ 17) → Q (-1000000002) M))) ∧ (¬ (0 ≤ x2 ∧ x2 ≤ 79) → Q (-1000000002) M)) ∧ (¬ (0 ≤ x1 ∧ x1 < M 79 8) → Q (-1000000001) M)) : X_ kk_X11_learn 0 [v_P 79, v_I x1, v_I x2, v_I x3, v_U, v_U, v_U] [] M Q := by
  refine x_aload_n dX11_learn_0 rfl rfl ?_
  refine x_iload_n dX11_learn_1 rfl rfl ?_
  obtain ⟨s17, h⟩ := h
  refine x_isBuyer (st := []) dX11_learn_2 ml_X11_123 ⟨by decide, by decide⟩ (fun _ _ => Nat.le_of_ble_eq_true rfl) s17 (fun hc => ?_) (fun hc => ?_)
  · change X_ kk_X11_learn 5 [v_P 79, v_I x1, v_I x2, v_I x3, v_U, v_U, v_U] [v_I 1] M Q
    replace h := h.1 hc
    refine x_if_ne (tgt := 11) dX11_learn_5 (by decide) (fun _ => ?_) (fun hc => absurd hc (by decide))
    refine x_iload_n dX11_learn_11 rfl rfl ?_
    refine x_i2l dX11_learn_12 ?_
    refine x_lconst (z := 0) dX11_learn_13 (by decide) (by decide) ?_
    refine x_ldc2 (z := 79) dX11_learn_14 cl_X11_274 (by decide) (by decide) ?_
    refine x_in (st := []) dX11_learn_17 ml_X11_110 ⟨by decide, by decide⟩ (fun _ _ => Nat.le_of_ble_eq_true rfl) (fun hc => ?_) (fun hc => ?_)
    · change X_ kk_X11_learn 20 [v_P 79, v_I x1, v_I x2, v_I x3, v_U, v_U, v_U] [v_I 1] M Q
      replace h := h.1 hc
      refine x_if_eq (tgt := 49) dX11_learn_20 (by decide) (fun hc => absurd hc (by decide)) (fun _ => ?_)
      refine x_iload_n dX11_learn_23 rfl rfl ?_
      refine x_i2l dX11_learn_24 ?_
      refine x_lconst (z := 0) dX11_learn_25 (by decide) (by decide) ?_
      refine x_ldc2 (z := 2) dX11_learn_26 cl_X11_119 (by decide) (by decide) ?_
      refine x_in (st := []) dX11_learn_29 ml_X11_110 ⟨by decide, by decide⟩ (fun _ _ => Nat.le_of_ble_eq_true rfl) (fun hc => ?_) (fun hc => ?_)
      · change X_ kk_X11_learn 32 [v_P 79, v_I x1, v_I x2, v_I x3, v_U, v_U, v_U] [v_I 1] M Q
        replace h := h.1 hc
        refine x_if_ne (tgt := 53) dX11_learn_32 (by decide) (fun _ => ?_) (fun hc => absurd hc (by decide))
        refine x_aload_n dX11_learn_53 rfl rfl ?_
        obtain ⟨Qc1, hc4, h⟩ := h
        refine x_callV (as := []) (st := []) (Qc := Qc1) dX11_learn_54 mt_X11_layWorths ml_X11_182 ⟨by decide, by decide⟩ sh_79 rfl (fun _ _ => Nat.le_of_ble_eq_true rfl) hc4 (fun r2 M3 hr5 hM6 hq7 => ?_)
        replace h := h r2 M3 hr5 hM6 hq7
        change X_ kk_X11_learn 57 [v_P 79, v_I x1, v_I x2, v_I x3, v_U, v_U, v_U] [] M3 Q
        refine x_aload_n dX11_learn_57 rfl rfl ?_
        refine y_getP dX11_learn_58 sh_79 cf_X11 fl_X11_25 (by decide) (by decide) gg_79_6 ?_
        refine x_iload_n dX11_learn_61 rfl rfl ?_
        obtain ⟨s8, h⟩ := h
        refine x_iald dX11_learn_62 sh_85 s8 ?_
        refine y_istore (ls' := [v_P 79, v_I x1, v_I x2, v_I x3, v_I (M3 85 x1.toNat), v_U, v_U]) dX11_learn_63 (by decide) rfl ?_
        refine x_iconst dX11_learn_65 (by decide) ?_
        refine y_istore (ls' := [v_P 79, v_I x1, v_I x2, v_I x3, v_I (M3 85 x1.toNat), v_I 0, v_U]) dX11_learn_66 (by decide) rfl ?_
        exact h
      · change X_ kk_X11_learn 32 [v_P 79, v_I x1, v_I x2, v_I x3, v_U, v_U, v_U] [v_I 0] M Q
        replace h := h.2 hc
        refine x_if_ne (tgt := 53) dX11_learn_32 (by decide) (fun hc => absurd hc (by decide)) (fun _ => ?_)
        refine x_iload_n dX11_learn_35 rfl rfl ?_
        refine x_i2l dX11_learn_36 ?_
        refine x_ldc2 (z := 10) dX11_learn_37 cl_X11_219 (by decide) (by decide) ?_
        refine x_ldc2 (z := 17) dX11_learn_40 cl_X11_221 (by decide) (by decide) ?_
        refine x_in (st := []) dX11_learn_43 ml_X11_110 ⟨by decide, by decide⟩ (fun _ _ => Nat.le_of_ble_eq_true rfl) (fun hc => ?_) (fun hc => ?_)
        · change X_ kk_X11_learn 46 [v_P 79, v_I x1, v_I x2, v_I x3, v_U, v_U, v_U] [v_I 1] M Q
          replace h := h.1 hc
          refine x_if_ne (tgt := 53) dX11_learn_46 (by decide) (fun _ => ?_) (fun hc => absurd hc (by decide))
          refine x_aload_n dX11_learn_53 rfl rfl ?_
          obtain ⟨Qc9, hc12, h⟩ := h
          refine x_callV (as := []) (st := []) (Qc := Qc9) dX11_learn_54 mt_X11_layWorths ml_X11_182 ⟨by decide, by decide⟩ sh_79 rfl (fun _ _ => Nat.le_of_ble_eq_true rfl) hc12 (fun r10 M11 hr13 hM14 hq15 => ?_)
          replace h := h r10 M11 hr13 hM14 hq15
          change X_ kk_X11_learn 57 [v_P 79, v_I x1, v_I x2, v_I x3, v_U, v_U, v_U] [] M11 Q
          refine x_aload_n dX11_learn_57 rfl rfl ?_
          refine y_getP dX11_learn_58 sh_79 cf_X11 fl_X11_25 (by decide) (by decide) gg_79_6 ?_
          refine x_iload_n dX11_learn_61 rfl rfl ?_
          obtain ⟨s16, h⟩ := h
          refine x_iald dX11_learn_62 sh_85 s16 ?_
          refine y_istore (ls' := [v_P 79, v_I x1, v_I x2, v_I x3, v_I (M11 85 x1.toNat), v_U, v_U]) dX11_learn_63 (by decide) rfl ?_
          refine x_iconst dX11_learn_65 (by decide) ?_
          refine y_istore (ls' := [v_P 79, v_I x1, v_I x2, v_I x3, v_I (M11 85 x1.toNat), v_I 0, v_U]) dX11_learn_66 (by decide) rfl ?_
          exact h
        · change X_ kk_X11_learn 46 [v_P 79, v_I x1, v_I x2, v_I x3, v_U, v_U, v_U] [v_I 0] M Q
          replace h := h.2 hc
          refine x_if_ne (tgt := 53) dX11_learn_46 (by decide) (fun hc => absurd hc (by decide)) (fun _ => ?_)
          refine x_ldc_w (n := (-1000000002)) dX11_learn_49 ct_X11_257 (by decide) (by decide) ?_
          refine x_iret dX11_learn_52 rfl (Or.inl rfl) (fun _ _ => h)
    · change X_ kk_X11_learn 20 [v_P 79, v_I x1, v_I x2, v_I x3, v_U, v_U, v_U] [v_I 0] M Q
      replace h := h.2 hc
      refine x_if_eq (tgt := 49) dX11_learn_20 (by decide) (fun _ => ?_) (fun hc => absurd hc (by decide))
      refine x_ldc_w (n := (-1000000002)) dX11_learn_49 ct_X11_257 (by decide) (by decide) ?_
      refine x_iret dX11_learn_52 rfl (Or.inl rfl) (fun _ _ => h)
  · change X_ kk_X11_learn 5 [v_P 79, v_I x1, v_I x2, v_I x3, v_U, v_U, v_U] [v_I 0] M Q
    replace h := h.2 hc
    refine x_if_ne (tgt := 11) dX11_learn_5 (by decide) (fun hc => absurd hc (by decide)) (fun _ => ?_)
    refine x_ldc (n := (-1000000001)) dX11_learn_8 ct_X11_253 (by decide) (by decide) ?_
    refine x_iret dX11_learn_10 rfl (Or.inl rfl) (fun _ _ => h)
theorem wp_X11_learn_68 {x1 x2 x3 x4 x5 : Int} {M : mM} {Q : Int → mM → Prop} (h : ((M 79 36) ≤ x5 → (0 ≤ x1 ∧ x1 < 6) ∧ X_ kk_X11_learn 149 [v_P 79, v_U, v_I x2, v_I x3, v_U, v_I 0, v_I 0] [] (m_up M 85 x1.toNat x4) Q) ∧ (¬ (M 79 36) ≤ x5 → X_ kk_X11_learn 80 [v_P 79, v_I x1, v_I x2, v_I x3, v_I x4, v_I x5, v_I 0] [] M Q)) : X_ kk_X11_learn 68 [v_P 79, v_I x1, v_I x2, v_I x3, v_I x4, v_I x5, v_U] [] M Q := by
  refine x_iload dX11_learn_68 rfl ?_
  refine x_aload_n dX11_learn_70 rfl rfl ?_
  refine x_getI dX11_learn_71 sh_79 cf_X11 fl_X11_268 (by decide) (by decide) ?_
  refine x_ic_ge (tgt := 135) dX11_learn_74 (by decide) (fun hc => ?_) (fun hc => ?_)
  · replace h := h.1 hc
    refine x_aload_n dX11_learn_135 rfl rfl ?_
    refine y_getP dX11_learn_136 sh_79 cf_X11 fl_X11_25 (by decide) (by decide) gg_79_6 ?_
    refine x_iload_n dX11_learn_139 rfl rfl ?_
    refine x_iload dX11_learn_140 rfl ?_
    obtain ⟨s1, h⟩ := h
    refine x_iast dX11_learn_142 sh_85 s1 ?_
    refine x_iconst dX11_learn_143 (by decide) ?_
    refine y_istore (ls' := [v_P 79, v_I x1, v_I x2, v_I x3, v_I x4, v_I 0, v_U]) dX11_learn_144 (by decide) rfl ?_
    refine x_iconst dX11_learn_146 (by decide) ?_
    refine y_istore (ls' := [v_P 79, v_I x1, v_I x2, v_I x3, v_I x4, v_I 0, v_I 0]) dX11_learn_147 (by decide) rfl ?_
    refine y_forget 1 (ls' := [v_P 79, v_U, v_I x2, v_I x3, v_I x4, v_I 0, v_I 0]) rfl ?_
    refine y_forget 4 (ls' := [v_P 79, v_U, v_I x2, v_I x3, v_U, v_I 0, v_I 0]) rfl ?_
    exact h
  · replace h := h.2 hc
    refine x_iconst dX11_learn_77 (by decide) ?_
    refine y_istore (ls' := [v_P 79, v_I x1, v_I x2, v_I x3, v_I x4, v_I x5, v_I 0]) dX11_learn_78 (by decide) rfl ?_
    exact h
theorem wp_X11_learn_80 {x1 x2 x3 x4 x5 x6 : Int} {M : mM} {Q : Int → mM → Prop} (h : (3 ≤ x6 → (m_ir (x5 + 1)) ∧ X_ kk_X11_learn 68 [v_P 79, v_I x1, v_I x2, v_I x3, v_I x4, v_I (x5 + 1), v_U] [] M Q) ∧ (¬ 3 ≤ x6 → (m_ir (10 * x6)) ∧ (m_ir (x2 + (10 * x6))) ∧ (0 ≤ x1 ∧ x1 < 6) ∧ (m_ir (3 * x5)) ∧ (m_ir ((3 * x5) + x6)) ∧ (0 ≤ x5 ∧ x5 < 8) ∧ ∃ Qc8 : Int → mM → Prop, C_ kk_X11_gainOf [v_P 79, v_I x1, v_I (M 108 x5.toNat)] (m_up M 85 x1.toNat (x2 + (10 * x6))) Qc8 ∧ ∀ (r9 : Int) (M10 : mM), m_ir r9 → m_okM M10 → Qc8 r9 M10 → (0 ≤ ((3 * x5) + x6) ∧ ((3 * x5) + x6) < 24) ∧ (m_ir (x6 + 1)) ∧ X_ kk_X11_learn 80 [v_P 79, v_I x1, v_I x2, v_I x3, v_I x4, v_I x5, v_I (x6 + 1)] [] (m_up M10 109 (((3 * x5) + x6).toNat) r9) Q)) : X_ kk_X11_learn 80 [v_P 79, v_I x1, v_I x2, v_I x3, v_I x4, v_I x5, v_I x6] [] M Q := by
  refine x_iload dX11_learn_80 rfl ?_
  refine x_iconst dX11_learn_82 (by decide) ?_
  refine x_ic_ge (tgt := 129) dX11_learn_83 (by decide) (fun hc => ?_) (fun hc => ?_)
  · replace h := h.1 hc
    obtain ⟨s1, h⟩ := h
    refine y_iinc (ls' := [v_P 79, v_I x1, v_I x2, v_I x3, v_I x4, v_I (x5 + 1), v_I x6]) dX11_learn_129 rfl s1 (by decide) rfl ?_
    refine x_goto (tgt := 68) dX11_learn_132 (by decide) ?_
    refine y_forget 6 (ls' := [v_P 79, v_I x1, v_I x2, v_I x3, v_I x4, v_I (x5 + 1), v_U]) rfl ?_
    exact h
  · replace h := h.2 hc
    refine x_aload_n dX11_learn_86 rfl rfl ?_
    refine y_getP dX11_learn_87 sh_79 cf_X11 fl_X11_25 (by decide) (by decide) gg_79_6 ?_
    refine x_iload_n dX11_learn_90 rfl rfl ?_
    refine x_iload_n dX11_learn_91 rfl rfl ?_
    refine x_bipush dX11_learn_92 (by decide) (by decide) ?_
    refine x_iload dX11_learn_94 rfl ?_
    obtain ⟨s2, h⟩ := h
    refine x_imul dX11_learn_96 s2 ?_
    obtain ⟨s3, h⟩ := h
    refine x_iadd dX11_learn_97 s3 ?_
    obtain ⟨s4, h⟩ := h
    refine x_iast dX11_learn_98 sh_85 s4 ?_
    refine x_aload_n dX11_learn_99 rfl rfl ?_
    refine y_getP dX11_learn_100 sh_79 cf_X11 fl_X11_97 (by decide) (by decide) gg_79_37 ?_
    refine x_iconst dX11_learn_103 (by decide) ?_
    refine x_iload dX11_learn_104 rfl ?_
    obtain ⟨s5, h⟩ := h
    refine x_imul dX11_learn_106 s5 ?_
    refine x_iload dX11_learn_107 rfl ?_
    obtain ⟨s6, h⟩ := h
    refine x_iadd dX11_learn_109 s6 ?_
    refine x_aload_n dX11_learn_110 rfl rfl ?_
    refine x_iload_n dX11_learn_111 rfl rfl ?_
    refine x_aload_n dX11_learn_112 rfl rfl ?_
    refine y_getP dX11_learn_113 sh_79 cf_X11 fl_X11_94 (by decide) (by decide) gg_79_35 ?_
    refine x_iload dX11_learn_116 rfl ?_
    obtain ⟨s7, h⟩ := h
    refine y_iald (v := (M 108 x5.toNat)) dX11_learn_118 sh_108 s7 (m_up_ne (Or.inl (by decide))) ?_
    obtain ⟨Qc8, hc11, h⟩ := h
    refine x_callV (as := [v_I x1, v_I (M 108 x5.toNat)]) (st := [v_I ((3 * x5) + x6), v_P 109]) (Qc := Qc8) dX11_learn_119 mt_X11_gainOf ml_X11_254 ⟨by decide, by decide⟩ sh_79 rfl (fun _ _ => Nat.le_of_ble_eq_true rfl) hc11 (fun r9 M10 hr12 hM13 hq14 => ?_)
    replace h := h r9 M10 hr12 hM13 hq14
    change X_ kk_X11_learn 122 [v_P 79, v_I x1, v_I x2, v_I x3, v_I x4, v_I x5, v_I x6] [v_I r9, v_I ((3 * x5) + x6), v_P 109] M10 Q
    obtain ⟨s15, h⟩ := h
    refine x_iast dX11_learn_122 sh_109 s15 ?_
    obtain ⟨s16, h⟩ := h
    refine y_iinc (ls' := [v_P 79, v_I x1, v_I x2, v_I x3, v_I x4, v_I x5, v_I (x6 + 1)]) dX11_learn_123 rfl s16 (by decide) rfl ?_
    refine x_goto (tgt := 80) dX11_learn_126 (by decide) ?_
    exact h
theorem wp_X11_learn_149 {x2 x3 x5 x6 : Int} {M : mM} {Q : Int → mM → Prop} (h : ((M 79 36) ≤ x6 → (x3 ≤ 9 → ∃ Qc1 : Int → mM → Prop, C_ kk_X11_bestAhead [v_P 79, v_I (M 79 36)] M Qc1 ∧ ∀ (r2 : Int) (M3 : mM), m_ir r2 → m_okM M3 → Qc1 r2 M3 → ∃ Qc8 : Int → mM → Prop, C_ kk_X11_broughtAhead [v_P 79, v_I r2, v_I (M3 79 36)] M3 Qc8 ∧ ∀ (r9 : Int) (M10 : mM), m_ir r9 → m_okM M10 → Qc8 r9 M10 → (¬ x3 = 0 → (¬ x3 = 1 → (m_ir (r9 - x5)) ∧ Q (r9 - x5) M10) ∧ (x3 = 1 → Q r9 M10)) ∧ (x3 = 0 → Q x5 M10)) ∧ (¬ x3 ≤ 9 → (m_ir (x3 - 10)) ∧ ((M 79 36) ≤ (x3 - 10) → Q (-6) M) ∧ (¬ (M 79 36) ≤ (x3 - 10) → (m_ir (x3 - 10)) ∧ (0 ≤ (x3 - 10) ∧ (x3 - 10) < 8) ∧ (m_ir (10 * (M 110 ((x3 - 10).toNat)))) ∧ (m_ir (x2 + (10 * (M 110 ((x3 - 10).toNat))))) ∧ Q (x2 + (10 * (M 110 ((x3 - 10).toNat)))) M))) ∧ (¬ (M 79 36) ≤ x6 → ∃ Qc21 : Int → mM → Prop, C_ kk_X11_bestAhead [v_P 79, v_I x6] M Qc21 ∧ ∀ (r22 : Int) (M23 : mM), m_ir r22 → m_okM M23 → Qc21 r22 M23 → (0 ≤ x6 ∧ x6 < 8) ∧ (m_ir (3 * x6)) ∧ (0 ≤ x6 ∧ x6 < 8) ∧ (m_ir ((3 * x6) + r22)) ∧ (0 ≤ ((3 * x6) + r22) ∧ ((3 * x6) + r22) < 24) ∧ (m_ir (x5 + (M23 109 (((3 * x6) + r22).toNat)))) ∧ (m_ir (x6 + 1)) ∧ X_ kk_X11_learn 149 [v_P 79, v_U, v_I x2, v_I x3, v_U, v_I (x5 + (M23 109 (((3 * x6) + r22).toNat))), v_I (x6 + 1)] [] (m_up M23 110 x6.toNat r22) Q)) : X_ kk_X11_learn 149 [v_P 79, v_U, v_I x2, v_I x3, v_U, v_I x5, v_I x6] [] M Q := by
  refine x_iload dX11_learn_149 rfl ?_
  refine x_aload_n dX11_learn_151 rfl rfl ?_
  refine x_getI dX11_learn_152 sh_79 cf_X11 fl_X11_268 (by decide) (by decide) ?_
  refine x_ic_ge (tgt := 199) dX11_learn_155 (by decide) (fun hc => ?_) (fun hc => ?_)
  · replace h := h.1 hc
    refine x_iload_n dX11_learn_199 rfl rfl ?_
    refine x_bipush dX11_learn_200 (by decide) (by decide) ?_
    refine x_ic_le (tgt := 236) dX11_learn_202 (by decide) (fun hc => ?_) (fun hc => ?_)
    · replace h := h.1 hc
      refine x_aload_n dX11_learn_236 rfl rfl ?_
      refine x_aload_n dX11_learn_237 rfl rfl ?_
      refine x_aload_n dX11_learn_238 rfl rfl ?_
      refine x_getI dX11_learn_239 sh_79 cf_X11 fl_X11_268 (by decide) (by decide) ?_
      obtain ⟨Qc1, hc4, h⟩ := h
      refine x_callV (as := [v_I (M 79 36)]) (st := [v_P 79]) (Qc := Qc1) dX11_learn_242 mt_X11_bestAhead ml_X11_276 ⟨by decide, by decide⟩ sh_79 rfl (fun _ _ => Nat.le_of_ble_eq_true rfl) hc4 (fun r2 M3 hr5 hM6 hq7 => ?_)
      replace h := h r2 M3 hr5 hM6 hq7
      change X_ kk_X11_learn 245 [v_P 79, v_U, v_I x2, v_I x3, v_U, v_I x5, v_I x6] [v_I r2, v_P 79] M3 Q
      refine x_aload_n dX11_learn_245 rfl rfl ?_
      refine x_getI dX11_learn_246 sh_79 cf_X11 fl_X11_268 (by decide) (by decide) ?_
      obtain ⟨Qc8, hc11, h⟩ := h
      refine x_callV (as := [v_I r2, v_I (M3 79 36)]) (st := []) (Qc := Qc8) dX11_learn_249 mt_X11_broughtAhead ml_X11_271 ⟨by decide, by decide⟩ sh_79 rfl (fun _ _ => Nat.le_of_ble_eq_true rfl) hc11 (fun r9 M10 hr12 hM13 hq14 => ?_)
      replace h := h r9 M10 hr12 hM13 hq14
      change X_ kk_X11_learn 252 [v_P 79, v_U, v_I x2, v_I x3, v_U, v_I x5, v_I x6] [v_I r9] M10 Q
      refine y_istore (ls' := [v_P 79, v_U, v_I x2, v_I x3, v_U, v_I x5, v_I r9]) dX11_learn_252 (by decide) rfl ?_
      refine x_iload_n dX11_learn_254 rfl rfl ?_
      refine x_if_ne (tgt := 263) dX11_learn_255 (by decide) (fun hc => ?_) (fun hc => ?_)
      · replace h := h.1 hc
        refine x_iload_n dX11_learn_263 rfl rfl ?_
        refine x_iconst dX11_learn_264 (by decide) ?_
        refine x_ic_ne (tgt := 273) dX11_learn_265 (by decide) (fun hc => ?_) (fun hc => ?_)
        · replace h := h.1 hc
          refine x_iload dX11_learn_273 rfl ?_
          refine x_iload dX11_learn_275 rfl ?_
          obtain ⟨s15, h⟩ := h
          refine x_isub dX11_learn_277 s15 ?_
          refine x_iret dX11_learn_278 rfl (Or.inl rfl) (fun _ _ => h)
        · replace h := h.2 hc
          refine x_iload dX11_learn_268 rfl ?_
          refine x_goto (tgt := 278) dX11_learn_270 (by decide) ?_
          refine x_iret dX11_learn_278 rfl (Or.inl rfl) (fun _ _ => h)
      · replace h := h.2 hc
        refine x_iload dX11_learn_258 rfl ?_
        refine x_goto (tgt := 278) dX11_learn_260 (by decide) ?_
        refine x_iret dX11_learn_278 rfl (Or.inl rfl) (fun _ _ => h)
    · replace h := h.2 hc
      refine x_iload_n dX11_learn_205 rfl rfl ?_
      refine x_bipush dX11_learn_206 (by decide) (by decide) ?_
      obtain ⟨s16, h⟩ := h
      refine x_isub dX11_learn_208 s16 ?_
      refine x_aload_n dX11_learn_209 rfl rfl ?_
      refine x_getI dX11_learn_210 sh_79 cf_X11 fl_X11_268 (by decide) (by decide) ?_
      refine x_ic_ge (tgt := 233) dX11_learn_213 (by decide) (fun hc => ?_) (fun hc => ?_)
      · replace h := h.1 hc
        refine x_bipush dX11_learn_233 (by decide) (by decide) ?_
        refine x_iret dX11_learn_235 rfl (Or.inl rfl) (fun _ _ => h)
      · replace h := h.2 hc
        refine x_iload_n dX11_learn_216 rfl rfl ?_
        refine x_bipush dX11_learn_217 (by decide) (by decide) ?_
        refine x_aload_n dX11_learn_219 rfl rfl ?_
        refine y_getP dX11_learn_220 sh_79 cf_X11 fl_X11_100 (by decide) (by decide) gg_79_38 ?_
        refine x_iload_n dX11_learn_223 rfl rfl ?_
        refine x_bipush dX11_learn_224 (by decide) (by decide) ?_
        obtain ⟨s17, h⟩ := h
        refine x_isub dX11_learn_226 s17 ?_
        obtain ⟨s18, h⟩ := h
        refine x_iald dX11_learn_227 sh_110 s18 ?_
        obtain ⟨s19, h⟩ := h
        refine x_imul dX11_learn_228 s19 ?_
        obtain ⟨s20, h⟩ := h
        refine x_iadd dX11_learn_229 s20 ?_
        refine x_goto (tgt := 235) dX11_learn_230 (by decide) ?_
        refine x_iret dX11_learn_235 rfl (Or.inl rfl) (fun _ _ => h)
  · replace h := h.2 hc
    refine x_aload_n dX11_learn_158 rfl rfl ?_
    refine y_getP dX11_learn_159 sh_79 cf_X11 fl_X11_100 (by decide) (by decide) gg_79_38 ?_
    refine x_iload dX11_learn_162 rfl ?_
    refine x_aload_n dX11_learn_164 rfl rfl ?_
    refine x_iload dX11_learn_165 rfl ?_
    obtain ⟨Qc21, hc24, h⟩ := h
    refine x_callV (as := [v_I x6]) (st := [v_I x6, v_P 110]) (Qc := Qc21) dX11_learn_167 mt_X11_bestAhead ml_X11_276 ⟨by decide, by decide⟩ sh_79 rfl (fun _ _ => Nat.le_of_ble_eq_true rfl) hc24 (fun r22 M23 hr25 hM26 hq27 => ?_)
    replace h := h r22 M23 hr25 hM26 hq27
    change X_ kk_X11_learn 170 [v_P 79, v_U, v_I x2, v_I x3, v_U, v_I x5, v_I x6] [v_I r22, v_I x6, v_P 110] M23 Q
    obtain ⟨s28, h⟩ := h
    refine x_iast dX11_learn_170 sh_110 s28 ?_
    refine x_iload dX11_learn_171 rfl ?_
    refine x_aload_n dX11_learn_173 rfl rfl ?_
    refine y_getP dX11_learn_174 sh_79 cf_X11 fl_X11_97 (by decide) (by decide) gg_79_37 ?_
    refine x_iconst dX11_learn_177 (by decide) ?_
    refine x_iload dX11_learn_178 rfl ?_
    obtain ⟨s29, h⟩ := h
    refine x_imul dX11_learn_180 s29 ?_
    refine x_aload_n dX11_learn_181 rfl rfl ?_
    refine y_getP dX11_learn_182 sh_79 cf_X11 fl_X11_100 (by decide) (by decide) gg_79_38 ?_
    refine x_iload dX11_learn_185 rfl ?_
    obtain ⟨s30, h⟩ := h
    refine y_iald (v := r22) dX11_learn_187 sh_110 s30 (m_up_same _ _ _ _) ?_
    obtain ⟨s31, h⟩ := h
    refine x_iadd dX11_learn_188 s31 ?_
    obtain ⟨s32, h⟩ := h
    refine y_iald (v := (M23 109 (((3 * x6) + r22).toNat))) dX11_learn_189 sh_109 s32 (m_up_ne (Or.inl (by decide))) ?_
    obtain ⟨s33, h⟩ := h
    refine x_iadd dX11_learn_190 s33 ?_
    refine y_istore (ls' := [v_P 79, v_U, v_I x2, v_I x3, v_U, v_I (x5 + (M23 109 (((3 * x6) + r22).toNat))), v_I x6]) dX11_learn_191 (by decide) rfl ?_
    obtain ⟨s34, h⟩ := h
    refine y_iinc (ls' := [v_P 79, v_U, v_I x2, v_I x3, v_U, v_I (x5 + (M23 109 (((3 * x6) + r22).toNat))), v_I (x6 + 1)]) dX11_learn_193 rfl s34 (by decide) rfl ?_
    refine x_goto (tgt := 149) dX11_learn_196 (by decide) ?_
    exact h
theorem wp_X11_told_0 {x1 : Int} {M : mM} {Q : Int → mM → Prop} (h : (10 ≤ x1 ∧ x1 ≤ 15 → (m_ir (x1 - 10)) ∧ ((M 79 8) ≤ (x1 - 10) → Q 0 M) ∧ (¬ (M 79 8) ≤ (x1 - 10) → (m_ir (x1 - 10)) ∧ (0 ≤ (x1 - 10) ∧ (x1 - 10) < 6) ∧ Q (M 90 ((x1 - 10).toNat)) M)) ∧ (¬ (10 ≤ x1 ∧ x1 ≤ 15) → (x1 = 0 → Q (M 79 4) M) ∧ (x1 = 1 → Q (M 79 8) M) ∧ (x1 = 2 → Q (M 79 11) M) ∧ (x1 = 3 → Q (M 79 36) M) ∧ (x1 = 4 → Q (M 79 9) M) ∧ ((x1 < 0 ∨ 4 < x1) → Q (-2) M))) : X_ kk_X11_told 0 [v_P 79, v_I x1] [] M Q := by
  refine x_iload_n dX11_told_0 rfl rfl ?_
  refine x_i2l dX11_told_1 ?_
  refine x_ldc2 (z := 10) dX11_told_2 cl_X11_219 (by decide) (by decide) ?_
  refine x_ldc2 (z := 15) dX11_told_5 cl_X11_244 (by decide) (by decide) ?_
  refine x_in (st := []) dX11_told_8 ml_X11_110 ⟨by decide, by decide⟩ (fun _ _ => Nat.le_of_ble_eq_true rfl) (fun hc => ?_) (fun hc => ?_)
  · change X_ kk_X11_told 11 [v_P 79, v_I x1] [v_I 1] M Q
    replace h := h.1 hc
    refine x_if_eq (tgt := 39) dX11_told_11 (by decide) (fun hc => absurd hc (by decide)) (fun _ => ?_)
    refine x_iload_n dX11_told_14 rfl rfl ?_
    refine x_bipush dX11_told_15 (by decide) (by decide) ?_
    obtain ⟨s1, h⟩ := h
    refine x_isub dX11_told_17 s1 ?_
    refine x_aload_n dX11_told_18 rfl rfl ?_
    refine x_getI dX11_told_19 sh_79 cf_X11 fl_X11_114 (by decide) (by decide) ?_
    refine x_ic_ge (tgt := 37) dX11_told_22 (by decide) (fun hc => ?_) (fun hc => ?_)
    · replace h := h.1 hc
      refine x_iconst dX11_told_37 (by decide) ?_
      refine x_iret dX11_told_38 rfl (Or.inl rfl) (fun _ _ => h)
    · replace h := h.2 hc
      refine x_aload_n dX11_told_25 rfl rfl ?_
      refine y_getP dX11_told_26 sh_79 cf_X11 fl_X11_40 (by decide) (by decide) gg_79_14 ?_
      refine x_iload_n dX11_told_29 rfl rfl ?_
      refine x_bipush dX11_told_30 (by decide) (by decide) ?_
      obtain ⟨s2, h⟩ := h
      refine x_isub dX11_told_32 s2 ?_
      obtain ⟨s3, h⟩ := h
      refine x_iald dX11_told_33 sh_90 s3 ?_
      refine x_goto (tgt := 38) dX11_told_34 (by decide) ?_
      refine x_iret dX11_told_38 rfl (Or.inl rfl) (fun _ _ => h)
  · change X_ kk_X11_told 11 [v_P 79, v_I x1] [v_I 0] M Q
    replace h := h.2 hc
    refine x_if_eq (tgt := 39) dX11_told_11 (by decide) (fun _ => ?_) (fun hc => absurd hc (by decide))
    refine x_iload_n dX11_told_39 rfl rfl ?_
    by_cases hx : x1 = 0
    · refine x_tsIn (k := kk_X11_told) (pc := 40) (x := x1) (j := 0) (off := 36) (tgt := 76) dX11_told_40 hx ⟨by decide, by decide⟩ rfl (by decide) ?_
      replace h := h.1 hx
      refine x_aload_n dX11_told_76 rfl rfl ?_
      refine x_getI dX11_told_77 sh_79 cf_X11 fl_X11_107 (by decide) (by decide) ?_
      refine x_iret dX11_told_80 rfl (Or.inl rfl) (fun _ _ => h)
    · replace h := h.2
      by_cases hx : x1 = 1
      · refine x_tsIn (k := kk_X11_told) (pc := 40) (x := x1) (j := 1) (off := 41) (tgt := 81) dX11_told_40 hx ⟨by decide, by decide⟩ rfl (by decide) ?_
        replace h := h.1 hx
        refine x_aload_n dX11_told_81 rfl rfl ?_
        refine x_getI dX11_told_82 sh_79 cf_X11 fl_X11_114 (by decide) (by decide) ?_
        refine x_iret dX11_told_85 rfl (Or.inl rfl) (fun _ _ => h)
      · replace h := h.2
        by_cases hx : x1 = 2
        · refine x_tsIn (k := kk_X11_told) (pc := 40) (x := x1) (j := 2) (off := 46) (tgt := 86) dX11_told_40 hx ⟨by decide, by decide⟩ rfl (by decide) ?_
          replace h := h.1 hx
          refine x_aload_n dX11_told_86 rfl rfl ?_
          refine x_getI dX11_told_87 sh_79 cf_X11 fl_X11_135 (by decide) (by decide) ?_
          refine x_iret dX11_told_90 rfl (Or.inl rfl) (fun _ _ => h)
        · replace h := h.2
          by_cases hx : x1 = 3
          · refine x_tsIn (k := kk_X11_told) (pc := 40) (x := x1) (j := 3) (off := 51) (tgt := 91) dX11_told_40 hx ⟨by decide, by decide⟩ rfl (by decide) ?_
            replace h := h.1 hx
            refine x_aload_n dX11_told_91 rfl rfl ?_
            refine x_getI dX11_told_92 sh_79 cf_X11 fl_X11_268 (by decide) (by decide) ?_
            refine x_iret dX11_told_95 rfl (Or.inl rfl) (fun _ _ => h)
          · replace h := h.2
            by_cases hx : x1 = 4
            · refine x_tsIn (k := kk_X11_told) (pc := 40) (x := x1) (j := 4) (off := 56) (tgt := 96) dX11_told_40 hx ⟨by decide, by decide⟩ rfl (by decide) ?_
              replace h := h.1 hx
              refine x_aload_n dX11_told_96 rfl rfl ?_
              refine x_getI dX11_told_97 sh_79 cf_X11 fl_X11_103 (by decide) (by decide) ?_
              refine x_iret dX11_told_100 rfl (Or.inl rfl) (fun _ _ => h)
            · replace h := h.2
              have ho : x1 < 0 ∨ 4 < x1 := by clear h; omega
              refine x_tsOut (k := kk_X11_told) (pc := 40) (x := x1) (tgt := 101) dX11_told_40 ho (by decide) ?_
              replace h := h ho
              refine x_bipush dX11_told_101 (by decide) (by decide) ?_
              refine x_iret dX11_told_103 rfl (Or.inl rfl) (fun _ _ => h)
