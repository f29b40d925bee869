theorem wp_X1_most_0 {x0 : Int} {M : mM} {Q : Int → mM → Prop} (h : (¬ x0 = 0 → (¬ x0 = 1 → Q 99 M) ∧ (x0 = 1 → Q 99 M)) ∧ (x0 = 0 → Q 1000 M)) : X_ kk_X1_most 0 [v_I x0] [] M Q := by
  refine x_iload_n dX1_most_0 rfl rfl ?_
  refine x_if_ne (tgt := 8) dX1_most_1 (by decide) (fun hc => ?_) (fun hc => ?_)
  · replace h := h.1 hc
    refine x_iload_n dX1_most_8 rfl rfl ?_
    refine x_iconst dX1_most_9 (by decide) ?_
    refine x_ic_ne (tgt := 18) dX1_most_10 (by decide) (fun hc => ?_) (fun hc => ?_)
    · replace h := h.1 hc
      refine x_bipush dX1_most_18 (by decide) (by decide) ?_
      refine x_iret dX1_most_20 rfl (Or.inl rfl) (fun _ _ => h)
    · replace h := h.2 hc
      refine x_bipush dX1_most_13 (by decide) (by decide) ?_
      refine x_goto (tgt := 20) dX1_most_15 (by decide) ?_
      refine x_iret dX1_most_20 rfl (Or.inl rfl) (fun _ _ => h)
  · replace h := h.2 hc
    refine x_sipush dX1_most_4 (by decide) (by decide) ?_
    refine x_iret dX1_most_7 rfl (Or.inl rfl) (fun _ _ => h)
theorem wp_X1_put_0 {x1 x2 : Int} {q0 : Nat} {M : mM} {Q : Int → mM → Prop} (hq0 : m_isB q0) (h : (¬ x1 = 0 → (¬ x1 = 1 → Q (M q0 2) (m_up M q0 2 x2)) ∧ (x1 = 1 → Q (M q0 1) (m_up M q0 1 x2))) ∧ (x1 = 0 → Q (M q0 0) (m_up M q0 0 x2))) : X_ kk_X1_put 0 [v_P q0, v_I x1, v_I x2, v_U] [] M Q := by
  have hq0_r := isB_rng hq0
  refine x_iload_n dX1_put_0 rfl rfl ?_
  refine x_if_ne (tgt := 17) dX1_put_1 (by decide) (fun hc => ?_) (fun hc => ?_)
  · replace h := h.1 hc
    refine x_iload_n dX1_put_17 rfl rfl ?_
    refine x_iconst dX1_put_18 (by decide) ?_
    refine x_ic_ne (tgt := 35) dX1_put_19 (by decide) (fun hc => ?_) (fun hc => ?_)
    · replace h := h.1 hc
      refine x_aload_n dX1_put_35 rfl rfl ?_
      refine x_getI dX1_put_36 (hq0).1 cf_X1 fl_X1_18 (by decide) (by decide) ?_
      refine y_istore_n (ls' := [v_P q0, v_I x1, v_I x2, v_I (M q0 2)]) dX1_put_39 rfl (by decide) rfl ?_
      refine x_aload_n dX1_put_40 rfl rfl ?_
      refine x_iload_n dX1_put_41 rfl rfl ?_
      refine x_putI dX1_put_42 (hq0).1 cf_X1 fl_X1_18 (by decide) rfl (by decide) (Or.inl rfl) ?_
      refine x_iload_n dX1_put_45 rfl rfl ?_
      refine x_iret dX1_put_46 rfl (Or.inl rfl) (fun _ _ => h)
    · replace h := h.2 hc
      refine x_aload_n dX1_put_22 rfl rfl ?_
      refine x_getI dX1_put_23 (hq0).1 cf_X1 fl_X1_15 (by decide) (by decide) ?_
      refine y_istore_n (ls' := [v_P q0, v_I x1, v_I x2, v_I (M q0 1)]) dX1_put_26 rfl (by decide) rfl ?_
      refine x_aload_n dX1_put_27 rfl rfl ?_
      refine x_iload_n dX1_put_28 rfl rfl ?_
      refine x_putI dX1_put_29 (hq0).1 cf_X1 fl_X1_15 (by decide) rfl (by decide) (Or.inl rfl) ?_
      refine x_goto (tgt := 45) dX1_put_32 (by decide) ?_
      refine x_iload_n dX1_put_45 rfl rfl ?_
      refine x_iret dX1_put_46 rfl (Or.inl rfl) (fun _ _ => h)
  · replace h := h.2 hc
    refine x_aload_n dX1_put_4 rfl rfl ?_
    refine x_getI dX1_put_5 (hq0).1 cf_X1 fl_X1_9 (by decide) (by decide) ?_
    refine y_istore_n (ls' := [v_P q0, v_I x1, v_I x2, v_I (M q0 0)]) dX1_put_8 rfl (by decide) rfl ?_
    refine x_aload_n dX1_put_9 rfl rfl ?_
    refine x_iload_n dX1_put_10 rfl rfl ?_
    refine x_putI dX1_put_11 (hq0).1 cf_X1 fl_X1_9 (by decide) rfl (by decide) (Or.inl rfl) ?_
    refine x_goto (tgt := 45) dX1_put_14 (by decide) ?_
    refine x_iload_n dX1_put_45 rfl rfl ?_
    refine x_iret dX1_put_46 rfl (Or.inl rfl) (fun _ _ => h)
theorem wp_X1_take_0 {q0 : Nat} {M : mM} {Q : Int → mM → Prop} (hq0 : m_isB q0) (h : (m_ir ((M 26 4) + 1)) ∧ (((0 : Int) ≤ 0 ∧ (0 : Int) ≤ 0 ∧ (0 : Int) ≤ ((M 26 4) + 1)) ∧ 0 + ((M 26 4) + 1) ≤ (6 : Nat) ∧ 0 + ((M 26 4) + 1) ≤ (6 : Nat)) ∧ ∀ M3 : mM, M3 = m_cp (m_up M q0 3 ((M 26 4) + 1)) 28 (Int.toNat 0) (q0 + 1) (Int.toNat 0) (Int.toNat ((M 26 4) + 1)) → (((0 : Int) ≤ 0 ∧ (0 : Int) ≤ 0 ∧ (0 : Int) ≤ (M3 q0 3)) ∧ 0 + (M3 q0 3) ≤ (6 : Nat) ∧ 0 + (M3 q0 3) ≤ (6 : Nat)) ∧ ∀ M6 : mM, M6 = m_up (m_cp M3 29 (Int.toNat 0) (q0 + 2) (Int.toNat 0) (Int.toNat (M3 q0 3))) q0 6 0 → Q 0 M6) : X_ kk_X1_take 0 [v_P q0, v_P 26] [] M Q := by
  have hq0_r := isB_rng hq0
  refine x_aload_n dX1_take_0 rfl rfl ?_
  refine x_aload_n dX1_take_1 rfl rfl ?_
  refine x_getI dX1_take_2 sh_26 cf_X9 fl_X1_28 (by decide) (by decide) ?_
  refine x_iconst dX1_take_5 (by decide) ?_
  obtain ⟨s1, h⟩ := h
  refine x_iadd dX1_take_6 s1 ?_
  refine x_putI dX1_take_7 (hq0).1 cf_X1 fl_X1_33 (by decide) rfl (by decide) (Or.inl rfl) ?_
  refine x_aload_n dX1_take_10 rfl rfl ?_
  refine y_getP dX1_take_11 sh_26 cf_X9 fl_X1_36 (by decide) (by decide) gg_26_2 ?_
  refine x_iconst dX1_take_14 (by decide) ?_
  refine x_aload_n dX1_take_15 rfl rfl ?_
  refine y_getP dX1_take_16 (hq0).1 cf_X1 fl_X1_21 (by decide) (by decide) (hq0).2.1 ?_
  refine x_iconst dX1_take_19 (by decide) ?_
  refine x_aload_n dX1_take_20 rfl rfl ?_
  refine y_getI (v := ((M 26 4) + 1)) dX1_take_21 (hq0).1 cf_X1 fl_X1_33 (by decide) (by decide) (m_up_same _ _ _ _) ?_
  obtain ⟨s2, h⟩ := h
  refine x_copy dX1_take_24 (m_in3 (List.mem_of_getElem? (i := 27) rfl) rfl) (by decide) (by decide) sh_28 (hq0).2.2.2.1 s2 ?_
  obtain ⟨M3, e4⟩ : ∃ z : mM, z = m_cp (m_up M q0 3 ((M 26 4) + 1)) 28 (Int.toNat 0) (q0 + 1) (Int.toNat 0) (Int.toNat ((M 26 4) + 1)) := ⟨_, rfl⟩
  rw [← e4]
  replace h := h M3 e4
  refine x_aload_n dX1_take_27 rfl rfl ?_
  refine y_getP dX1_take_28 sh_26 cf_X9 fl_X1_43 (by decide) (by decide) gg_26_3 ?_
  refine x_iconst dX1_take_31 (by decide) ?_
  refine x_aload_n dX1_take_32 rfl rfl ?_
  refine y_getP dX1_take_33 (hq0).1 cf_X1 fl_X1_25 (by decide) (by decide) (hq0).2.2.1 ?_
  refine x_iconst dX1_take_36 (by decide) ?_
  refine x_aload_n dX1_take_37 rfl rfl ?_
  refine x_getI dX1_take_38 (hq0).1 cf_X1 fl_X1_33 (by decide) (by decide) ?_
  obtain ⟨s5, h⟩ := h
  refine x_copy dX1_take_41 (m_in3 (List.mem_of_getElem? (i := 27) rfl) rfl) (by decide) (by decide) sh_29 (hq0).2.2.2.2 s5 ?_
  refine x_aload_n dX1_take_44 rfl rfl ?_
  refine x_iconst dX1_take_45 (by decide) ?_
  refine x_putI dX1_take_46 (hq0).1 cf_X1 fl_X1_44 (by decide) rfl (by decide) (Or.inl rfl) ?_
  obtain ⟨M6, e7⟩ : ∃ z : mM, z = m_up (m_cp M3 29 (Int.toNat 0) (q0 + 2) (Int.toNat 0) (Int.toNat (M3 q0 3))) q0 6 0 := ⟨_, rfl⟩
  rw [← e7]
  replace h := h M6 e7
  refine x_ret dX1_take_49 rfl (fun _ => h)
theorem wp_X1_isThere_0 {x1 : Int} {q0 : Nat} {M : mM} {Q : Int → mM → Prop} (hq0 : m_isB q0) (h : (¬ (m_and (m_shr (m_or (M q0 6) (M q0 7)) x1) 1) = 0 → Q 0 M) ∧ ((m_and (m_shr (m_or (M q0 6) (M q0 7)) x1) 1) = 0 → Q 1 M)) : X_ kk_X1_isThere 0 [v_P q0, v_I x1] [] M Q := by
  have hq0_r := isB_rng hq0
  refine x_aload_n dX1_isThere_0 rfl rfl ?_
  refine x_getI dX1_isThere_1 (hq0).1 cf_X1 fl_X1_44 (by decide) (by decide) ?_
  refine x_aload_n dX1_isThere_4 rfl rfl ?_
  refine x_getI dX1_isThere_5 (hq0).1 cf_X1 fl_X1_47 (by decide) (by decide) ?_
  refine x_ior dX1_isThere_8 ?_
  refine x_iload_n dX1_isThere_9 rfl rfl ?_
  refine x_ishr dX1_isThere_10 ?_
  refine x_iconst dX1_isThere_11 (by decide) ?_
  refine x_iand dX1_isThere_12 ?_
  refine x_if_ne (tgt := 20) dX1_isThere_13 (by decide) (fun hc => ?_) (fun hc => ?_)
  · replace h := h.1 hc
    refine x_iconst dX1_isThere_20 (by decide) ?_
    refine x_iret dX1_isThere_21 rfl (Or.inr ⟨rfl, Or.inl rfl⟩) (fun _ _ => h)
  · replace h := h.2 hc
    refine x_iconst dX1_isThere_16 (by decide) ?_
    refine x_goto (tgt := 21) dX1_isThere_17 (by decide) ?_
    refine x_iret dX1_isThere_21 rfl (Or.inr ⟨rfl, Or.inr rfl⟩) (fun _ _ => h)
theorem wp_X1_worthOf_0 {x1 : Int} {q0 : Nat} {M : mM} {Q : Int → mM → Prop} (hq0 : m_isB q0) (h : X_ kk_X1_worthOf 21 [v_P q0, v_U, v_I (m_or (M q0 6) (M q0 7)), v_I (m_or x1 17318416), v_I 0, v_I 0, v_U] [] M Q) : X_ kk_X1_worthOf 0 [v_P q0, v_I x1, v_U, v_U, v_U, v_U, v_U] [] M Q := by
  have hq0_r := isB_rng hq0
  refine x_aload_n dX1_worthOf_0 rfl rfl ?_
  refine x_getI dX1_worthOf_1 (hq0).1 cf_X1 fl_X1_44 (by decide) (by decide) ?_
  refine x_aload_n dX1_worthOf_4 rfl rfl ?_
  refine x_getI dX1_worthOf_5 (hq0).1 cf_X1 fl_X1_47 (by decide) (by decide) ?_
  refine x_ior dX1_worthOf_8 ?_
  refine y_istore_n (ls' := [v_P q0, v_I x1, v_I (m_or (M q0 6) (M q0 7)), v_U, v_U, v_U, v_U]) dX1_worthOf_9 rfl (by decide) rfl ?_
  refine x_iload_n dX1_worthOf_10 rfl rfl ?_
  refine x_ldc (n := 17318416) dX1_worthOf_11 ct_X1_52 (by decide) (by decide) ?_
  refine x_ior dX1_worthOf_13 ?_
  refine y_istore_n (ls' := [v_P q0, v_I x1, v_I (m_or (M q0 6) (M q0 7)), v_I (m_or x1 17318416), v_U, v_U, v_U]) dX1_worthOf_14 rfl (by decide) rfl ?_
  refine x_iconst dX1_worthOf_15 (by decide) ?_
  refine y_istore (ls' := [v_P q0, v_I x1, v_I (m_or (M q0 6) (M q0 7)), v_I (m_or x1 17318416), v_I 0, v_U, v_U]) dX1_worthOf_16 (by decide) rfl ?_
  refine x_iconst dX1_worthOf_18 (by decide) ?_
  refine y_istore (ls' := [v_P q0, v_I x1, v_I (m_or (M q0 6) (M q0 7)), v_I (m_or x1 17318416), v_I 0, v_I 0, v_U]) dX1_worthOf_19 (by decide) rfl ?_
  refine y_forget 1 (ls' := [v_P q0, v_U, v_I (m_or (M q0 6) (M q0 7)), v_I (m_or x1 17318416), v_I 0, v_I 0, v_U]) rfl ?_
  exact h
theorem wp_X1_worthOf_21 {x2 x3 x4 x5 : Int} {q0 : Nat} {M : mM} {Q : Int → mM → Prop} (hq0 : m_isB q0) (h : ((M q0 3) ≤ x5 → Q x4 M) ∧ (¬ (M q0 3) ≤ x5 → (0 ≤ x5 ∧ x5 < 6) ∧ (m_ir (x3 - (M (q0 + 2) x5.toNat))) ∧ (¬ (m_and (x3 - (M (q0 + 2) x5.toNat)) 17318416) = 17318416 → (m_ir (x5 + 1)) ∧ X_ kk_X1_worthOf 21 [v_P q0, v_U, v_I x2, v_I x3, v_I x4, v_I (x5 + 1), v_U] [] M Q) ∧ ((m_and (x3 - (M (q0 + 2) x5.toNat)) 17318416) = 17318416 → (0 ≤ x5 ∧ x5 < 6) ∧ ((M (q0 + 1) x5.toNat) ≤ x4 → (m_ir (x5 + 1)) ∧ X_ kk_X1_worthOf 21 [v_P q0, v_U, v_I x2, v_I x3, v_I x4, v_I (x5 + 1), v_U] [] M Q) ∧ (¬ (M (q0 + 1) x5.toNat) ≤ x4 → (¬ (m_and (m_shr x2 x5) 1) = 0 → (m_ir (x5 + 1)) ∧ X_ kk_X1_worthOf 21 [v_P q0, v_U, v_I x2, v_I x3, v_I x4, v_I (x5 + 1), v_U] [] M Q) ∧ ((m_and (m_shr x2 x5) 1) = 0 → (0 ≤ x5 ∧ x5 < 6) ∧ (m_ir (x5 + 1)) ∧ X_ kk_X1_worthOf 21 [v_P q0, v_U, v_I x2, v_I x3, v_I (M (q0 + 1) x5.toNat), v_I (x5 + 1), v_U] [] M Q))))) : X_ kk_X1_worthOf 21 [v_P q0, v_U, v_I x2, v_I x3, v_I x4, v_I x5, v_U] [] M Q := by
  have hq0_r := isB_rng hq0
  refine x_iload dX1_worthOf_21 rfl ?_
  refine x_aload_n dX1_worthOf_23 rfl rfl ?_
  refine x_getI dX1_worthOf_24 (hq0).1 cf_X1 fl_X1_33 (by decide) (by decide) ?_
  refine x_ic_ge (tgt := 95) dX1_worthOf_27 (by decide) (fun hc => ?_) (fun hc => ?_)
  · replace h := h.1 hc
    refine x_iload dX1_worthOf_95 rfl ?_
    refine x_iret dX1_worthOf_97 rfl (Or.inl rfl) (fun _ _ => h)
  · replace h := h.2 hc
    refine x_iload_n dX1_worthOf_30 rfl rfl ?_
    refine x_aload_n dX1_worthOf_31 rfl rfl ?_
    refine y_getP dX1_worthOf_32 (hq0).1 cf_X1 fl_X1_25 (by decide) (by decide) (hq0).2.2.1 ?_
    refine x_iload dX1_worthOf_35 rfl ?_
    obtain ⟨s1, h⟩ := h
    refine x_iald dX1_worthOf_37 (hq0).2.2.2.2 s1 ?_
    obtain ⟨s2, h⟩ := h
    refine x_isub dX1_worthOf_38 s2 ?_
    refine x_ldc (n := 17318416) dX1_worthOf_39 ct_X1_52 (by decide) (by decide) ?_
    refine x_iand dX1_worthOf_41 ?_
    refine x_ldc (n := 17318416) dX1_worthOf_42 ct_X1_52 (by decide) (by decide) ?_
    refine x_ic_ne (tgt := 51) dX1_worthOf_44 (by decide) (fun hc => ?_) (fun hc => ?_)
    · replace h := h.1 hc
      refine x_iconst dX1_worthOf_51 (by decide) ?_
      refine y_istore (ls' := [v_P q0, v_U, v_I x2, v_I x3, v_I x4, v_I x5, v_I 0]) dX1_worthOf_52 (by decide) rfl ?_
      refine x_iload dX1_worthOf_54 rfl ?_
      refine x_if_eq (tgt := 89) dX1_worthOf_56 (by decide) (fun _ => ?_) (fun hc => absurd hc (by decide))
      obtain ⟨s3, h⟩ := h
      refine y_iinc (ls' := [v_P q0, v_U, v_I x2, v_I x3, v_I x4, v_I (x5 + 1), v_I 0]) dX1_worthOf_89 rfl s3 (by decide) rfl ?_
      refine x_goto (tgt := 21) dX1_worthOf_92 (by decide) ?_
      refine y_forget 6 (ls' := [v_P q0, v_U, v_I x2, v_I x3, v_I x4, v_I (x5 + 1), v_U]) rfl ?_
      exact h
    · replace h := h.2 hc
      refine x_iconst dX1_worthOf_47 (by decide) ?_
      refine x_goto (tgt := 52) dX1_worthOf_48 (by decide) ?_
      refine y_istore (ls' := [v_P q0, v_U, v_I x2, v_I x3, v_I x4, v_I x5, v_I 1]) dX1_worthOf_52 (by decide) rfl ?_
      refine x_iload dX1_worthOf_54 rfl ?_
      refine x_if_eq (tgt := 89) dX1_worthOf_56 (by decide) (fun hc => absurd hc (by decide)) (fun _ => ?_)
      refine x_aload_n dX1_worthOf_59 rfl rfl ?_
      refine y_getP dX1_worthOf_60 (hq0).1 cf_X1 fl_X1_21 (by decide) (by decide) (hq0).2.1 ?_
      refine x_iload dX1_worthOf_63 rfl ?_
      obtain ⟨s4, h⟩ := h
      refine x_iald dX1_worthOf_65 (hq0).2.2.2.1 s4 ?_
      refine x_iload dX1_worthOf_66 rfl ?_
      refine x_ic_le (tgt := 89) dX1_worthOf_68 (by decide) (fun hc => ?_) (fun hc => ?_)
      · replace h := h.1 hc
        obtain ⟨s5, h⟩ := h
        refine y_iinc (ls' := [v_P q0, v_U, v_I x2, v_I x3, v_I x4, v_I (x5 + 1), v_I 1]) dX1_worthOf_89 rfl s5 (by decide) rfl ?_
        refine x_goto (tgt := 21) dX1_worthOf_92 (by decide) ?_
        refine y_forget 6 (ls' := [v_P q0, v_U, v_I x2, v_I x3, v_I x4, v_I (x5 + 1), v_U]) rfl ?_
        exact h
      · replace h := h.2 hc
        refine x_iload_n dX1_worthOf_71 rfl rfl ?_
        refine x_iload dX1_worthOf_72 rfl ?_
        refine x_ishr dX1_worthOf_74 ?_
        refine x_iconst dX1_worthOf_75 (by decide) ?_
        refine x_iand dX1_worthOf_76 ?_
        refine x_if_ne (tgt := 89) dX1_worthOf_77 (by decide) (fun hc => ?_) (fun hc => ?_)
        · replace h := h.1 hc
          obtain ⟨s6, h⟩ := h
          refine y_iinc (ls' := [v_P q0, v_U, v_I x2, v_I x3, v_I x4, v_I (x5 + 1), v_I 1]) dX1_worthOf_89 rfl s6 (by decide) rfl ?_
          refine x_goto (tgt := 21) dX1_worthOf_92 (by decide) ?_
          refine y_forget 6 (ls' := [v_P q0, v_U, v_I x2, v_I x3, v_I x4, v_I (x5 + 1), v_U]) rfl ?_
          exact h
        · replace h := h.2 hc
          refine x_aload_n dX1_worthOf_80 rfl rfl ?_
          refine y_getP dX1_worthOf_81 (hq0).1 cf_X1 fl_X1_21 (by decide) (by decide) (hq0).2.1 ?_
          refine x_iload dX1_worthOf_84 rfl ?_
          obtain ⟨s7, h⟩ := h
          refine x_iald dX1_worthOf_86 (hq0).2.2.2.1 s7 ?_
          refine y_istore (ls' := [v_P q0, v_U, v_I x2, v_I x3, v_I (M (q0 + 1) x5.toNat), v_I x5, v_I 1]) dX1_worthOf_87 (by decide) rfl ?_
          obtain ⟨s8, h⟩ := h
          refine y_iinc (ls' := [v_P q0, v_U, v_I x2, v_I x3, v_I (M (q0 + 1) x5.toNat), v_I (x5 + 1), v_I 1]) dX1_worthOf_89 rfl s8 (by decide) rfl ?_
          refine x_goto (tgt := 21) dX1_worthOf_92 (by decide) ?_
          refine y_forget 6 (ls' := [v_P q0, v_U, v_I x2, v_I x3, v_I (M (q0 + 1) x5.toNat), v_I (x5 + 1), v_U]) rfl ?_
          exact h
theorem wp_X1_firstMet_0 {x1 x2 : Int} {q0 : Nat} {M : mM} {Q : Int → mM → Prop} (hq0 : m_isB q0) (h : X_ kk_X1_firstMet 2 [v_P q0, v_I x1, v_I x2, v_I 0] [] M Q) : X_ kk_X1_firstMet 0 [v_P q0, v_I x1, v_I x2, v_U] [] M Q := by
  have hq0_r := isB_rng hq0
  refine x_iconst dX1_firstMet_0 (by decide) ?_
  refine y_istore_n (ls' := [v_P q0, v_I x1, v_I x2, v_I 0]) dX1_firstMet_1 rfl (by decide) rfl ?_
  exact h
theorem wp_X1_firstMet_2 {x1 x2 x3 : Int} {q0 : Nat} {M : mM} {Q : Int → mM → Prop} (hq0 : m_isB q0) (h : ((M q0 3) ≤ x3 → Q (-6) M) ∧ (¬ (M q0 3) ≤ x3 → (0 ≤ x3 ∧ x3 < 6) ∧ (¬ (M (q0 + 1) x3.toNat) = x2 → (m_ir (x3 + 1)) ∧ X_ kk_X1_firstMet 2 [v_P q0, v_I x1, v_I x2, v_I (x3 + 1)] [] M Q) ∧ ((M (q0 + 1) x3.toNat) = x2 → ∃ Qc3 : Int → mM → Prop, C_ kk_X1_isThere [v_P q0, v_I x3] M Qc3 ∧ ∀ (r4 : Int) (M5 : mM), m_ir r4 → m_okM M5 → Qc3 r4 M5 → (r4 = 0 → (m_ir (x3 + 1)) ∧ X_ kk_X1_firstMet 2 [v_P q0, v_I x1, v_I x2, v_I (x3 + 1)] [] M5 Q) ∧ (¬ r4 = 0 → (0 ≤ x3 ∧ x3 < 6) ∧ ∃ Qc12 : Int → mM → Prop, C_ kk_X3_cover [v_I x1, v_I (M5 (q0 + 2) x3.toNat)] M5 Qc12 ∧ ∀ (r13 : Int) (M14 : mM), m_ir r13 → m_okM M14 → Qc12 r13 M14 → (r13 = 0 → (m_ir (x3 + 1)) ∧ X_ kk_X1_firstMet 2 [v_P q0, v_I x1, v_I x2, v_I (x3 + 1)] [] M14 Q) ∧ (¬ r13 = 0 → Q x3 M14))))) : X_ kk_X1_firstMet 2 [v_P q0, v_I x1, v_I x2, v_I x3] [] M Q := by
  have hq0_r := isB_rng hq0
  refine x_iload_n dX1_firstMet_2 rfl rfl ?_
  refine x_aload_n dX1_firstMet_3 rfl rfl ?_
  refine x_getI dX1_firstMet_4 (hq0).1 cf_X1 fl_X1_33 (by decide) (by decide) ?_
  refine x_ic_ge (tgt := 49) dX1_firstMet_7 (by decide) (fun hc => ?_) (fun hc => ?_)
  · replace h := h.1 hc
    refine x_bipush dX1_firstMet_49 (by decide) (by decide) ?_
    refine x_iret dX1_firstMet_51 rfl (Or.inl rfl) (fun _ _ => h)
  · replace h := h.2 hc
    refine x_aload_n dX1_firstMet_10 rfl rfl ?_
    refine y_getP dX1_firstMet_11 (hq0).1 cf_X1 fl_X1_21 (by decide) (by decide) (hq0).2.1 ?_
    refine x_iload_n dX1_firstMet_14 rfl rfl ?_
    obtain ⟨s1, h⟩ := h
    refine x_iald dX1_firstMet_15 (hq0).2.2.2.1 s1 ?_
    refine x_iload_n dX1_firstMet_16 rfl rfl ?_
    refine x_ic_ne (tgt := 43) dX1_firstMet_17 (by decide) (fun hc => ?_) (fun hc => ?_)
    · replace h := h.1 hc
      obtain ⟨s2, h⟩ := h
      refine y_iinc (ls' := [v_P q0, v_I x1, v_I x2, v_I (x3 + 1)]) dX1_firstMet_43 rfl s2 (by decide) rfl ?_
      refine x_goto (tgt := 2) dX1_firstMet_46 (by decide) ?_
      exact h
    · replace h := h.2 hc
      refine x_aload_n dX1_firstMet_20 rfl rfl ?_
      refine x_iload_n dX1_firstMet_21 rfl rfl ?_
      obtain ⟨Qc3, hc6, h⟩ := h
      refine x_callV (as := [v_I x3]) (st := []) (Qc := Qc3) dX1_firstMet_22 mt_X1_isThere ml_X1_53 ⟨by decide, by decide⟩ (hq0).1 rfl (fun _ _ => Nat.le_of_ble_eq_true rfl) hc6 (fun r4 M5 hr7 hM8 hq9 => ?_)
      replace h := h r4 M5 hr7 hM8 hq9
      change X_ kk_X1_firstMet 25 [v_P q0, v_I x1, v_I x2, v_I x3] [v_I r4] M5 Q
      refine x_if_eq (tgt := 43) dX1_firstMet_25 (by decide) (fun hc => ?_) (fun hc => ?_)
      · replace h := h.1 hc
        obtain ⟨s10, h⟩ := h
        refine y_iinc (ls' := [v_P q0, v_I x1, v_I x2, v_I (x3 + 1)]) dX1_firstMet_43 rfl s10 (by decide) rfl ?_
        refine x_goto (tgt := 2) dX1_firstMet_46 (by decide) ?_
        exact h
      · replace h := h.2 hc
        refine x_iload_n dX1_firstMet_28 rfl rfl ?_
        refine x_aload_n dX1_firstMet_29 rfl rfl ?_
        refine y_getP dX1_firstMet_30 (hq0).1 cf_X1 fl_X1_25 (by decide) (by decide) (hq0).2.2.1 ?_
        refine x_iload_n dX1_firstMet_33 rfl rfl ?_
        obtain ⟨s11, h⟩ := h
        refine x_iald dX1_firstMet_34 (hq0).2.2.2.2 s11 ?_
        obtain ⟨Qc12, hc15, h⟩ := h
        refine x_callS (as := [v_I x1, v_I (M5 (q0 + 2) x3.toNat)]) (st := []) (Qc := Qc12) dX1_firstMet_35 mt_X3_cover ml_X1_57 ⟨by decide, by decide⟩ (fun _ _ => Nat.le_of_ble_eq_true rfl) hc15 (fun r13 M14 hr16 hM17 hq18 => ?_)
        replace h := h r13 M14 hr16 hM17 hq18
        change X_ kk_X1_firstMet 38 [v_P q0, v_I x1, v_I x2, v_I x3] [v_I r13] M14 Q
        refine x_if_eq (tgt := 43) dX1_firstMet_38 (by decide) (fun hc => ?_) (fun hc => ?_)
        · replace h := h.1 hc
          obtain ⟨s19, h⟩ := h
          refine y_iinc (ls' := [v_P q0, v_I x1, v_I x2, v_I (x3 + 1)]) dX1_firstMet_43 rfl s19 (by decide) rfl ?_
          refine x_goto (tgt := 2) dX1_firstMet_46 (by decide) ?_
          exact h
        · replace h := h.2 hc
          refine x_iload_n dX1_firstMet_41 rfl rfl ?_
          refine x_iret dX1_firstMet_42 rfl (Or.inl rfl) (fun _ _ => h)
theorem wp_X3_one_0 {x0 : Int} {M : mM} {Q : Int → mM → Prop} (h : (m_ir (5 * x0)) ∧ Q (m_shl 1 (5 * x0)) M) : X_ kk_X3_one 0 [v_I x0] [] M Q := by
  refine x_iconst dX3_one_0 (by decide) ?_
  refine x_iconst dX3_one_1 (by decide) ?_
  refine x_iload_n dX3_one_2 rfl rfl ?_
  obtain ⟨s1, h⟩ := h
  refine x_imul dX3_one_3 s1 ?_
  refine x_ishl dX3_one_4 ?_
  refine x_iret dX3_one_5 rfl (Or.inl rfl) (fun _ _ => h)
theorem wp_X3_of_0 {x0 x1 : Int} {M : mM} {Q : Int → mM → Prop} (h : (m_ir (5 * x1)) ∧ Q (m_and (m_shr x0 (5 * x1)) 15) M) : X_ kk_X3_of 0 [v_I x0, v_I x1] [] M Q := by
  refine x_iload_n dX3_of_0 rfl rfl ?_
  refine x_iconst dX3_of_1 (by decide) ?_
  refine x_iload_n dX3_of_2 rfl rfl ?_
  obtain ⟨s1, h⟩ := h
  refine x_imul dX3_of_3 s1 ?_
  refine x_ishr dX3_of_4 ?_
  refine x_bipush dX3_of_5 (by decide) (by decide) ?_
  refine x_iand dX3_of_7 ?_
  refine x_iret dX3_of_8 rfl (Or.inl rfl) (fun _ _ => h)
theorem wp_X3_cover_0 {x0 x1 : Int} {M : mM} {Q : Int → mM → Prop} (h : (m_ir ((m_or x0 17318416) - x1)) ∧ (¬ (m_and ((m_or x0 17318416) - x1) 17318416) = 17318416 → Q 0 M) ∧ ((m_and ((m_or x0 17318416) - x1) 17318416) = 17318416 → Q 1 M)) : X_ kk_X3_cover 0 [v_I x0, v_I x1] [] M Q := by
  refine x_iload_n dX3_cover_0 rfl rfl ?_
  refine x_ldc (n := 17318416) dX3_cover_1 ct_X3_9 (by decide) (by decide) ?_
  refine x_ior dX3_cover_3 ?_
  refine x_iload_n dX3_cover_4 rfl rfl ?_
  obtain ⟨s1, h⟩ := h
  refine x_isub dX3_cover_5 s1 ?_
  refine x_ldc (n := 17318416) dX3_cover_6 ct_X3_9 (by decide) (by decide) ?_
  refine x_iand dX3_cover_8 ?_
  refine x_ldc (n := 17318416) dX3_cover_9 ct_X3_9 (by decide) (by decide) ?_
  refine x_ic_ne (tgt := 18) dX3_cover_11 (by decide) (fun hc => ?_) (fun hc => ?_)
  · replace h := h.1 hc
    refine x_iconst dX3_cover_18 (by decide) ?_
    refine x_iret dX3_cover_19 rfl (Or.inr ⟨rfl, Or.inl rfl⟩) (fun _ _ => h)
  · replace h := h.2 hc
    refine x_iconst dX3_cover_14 (by decide) ?_
    refine x_goto (tgt := 19) dX3_cover_15 (by decide) ?_
    refine x_iret dX3_cover_19 rfl (Or.inr ⟨rfl, Or.inr rfl⟩) (fun _ _ => h)
theorem wp_X6_addLot_0 {x1 x2 x3 : Int} {M : mM} {Q : Int → mM → Prop} (h : ∃ Qc1 : Int → mM → Prop, C_ kk_X3_one [v_I x1] M Qc1 ∧ ∀ (r2 : Int) (M3 : mM), m_ir r2 → m_okM M3 → Qc1 r2 M3 → (0 ≤ (M 1 0) ∧ (M 1 0) < 8) ∧ (0 ≤ (M3 1 0) ∧ (M3 1 0) < 8) ∧ (0 ≤ (M3 1 0) ∧ (M3 1 0) < 8) ∧ ∀ M11 : mM, M11 = m_up (m_up (m_up M3 2 ((M 1 0).toNat) r2) 3 ((M3 1 0).toNat) x2) 4 ((M3 1 0).toNat) x3 → (0 ≤ (M3 1 0) ∧ (M3 1 0) < 8) ∧ (0 ≤ (M3 1 0) ∧ (M3 1 0) < 8) ∧ ∀ M15 : mM, M15 = m_up (m_up M11 5 ((M3 1 0).toNat) (M3 1 0)) 6 ((M3 1 0).toNat) (M3 1 0) → (m_ir ((M3 1 0) + 1)) ∧ (m_ir (((M3 1 0) + 1) - 1)) ∧ Q (((M3 1 0) + 1) - 1) (m_up M15 1 0 ((M3 1 0) + 1))) : X_ kk_X6_addLot 0 [v_P 1, v_I x1, v_I x2, v_I x3] [] M Q := by
  refine x_aload_n dX6_addLot_0 rfl rfl ?_
  refine y_getP dX6_addLot_1 sh_1 cf_X6 fl_X6_9 (by decide) (by decide) gg_1_1 ?_
  refine x_aload_n dX6_addLot_4 rfl rfl ?_
  refine x_getI dX6_addLot_5 sh_1 cf_X6 fl_X6_38 (by decide) (by decide) ?_
  refine x_iload_n dX6_addLot_8 rfl rfl ?_
  obtain ⟨Qc1, hc4, h⟩ := h
  refine x_callS (as := [v_I x1]) (st := [v_I (M 1 0), v_P 2]) (Qc := Qc1) dX6_addLot_9 mt_X3_one ml_X6_44 ⟨by decide, by decide⟩ (fun _ _ => Nat.le_of_ble_eq_true rfl) hc4 (fun r2 M3 hr5 hM6 hq7 => ?_)
  replace h := h r2 M3 hr5 hM6 hq7
  change X_ kk_X6_addLot 12 [v_P 1, v_I x1, v_I x2, v_I x3] [v_I r2, v_I (M 1 0), v_P 2] M3 Q
  obtain ⟨s8, h⟩ := h
  refine x_iast dX6_addLot_12 sh_2 s8 ?_
  refine x_aload_n dX6_addLot_13 rfl rfl ?_
  refine y_getP dX6_addLot_14 sh_1 cf_X6 fl_X6_15 (by decide) (by decide) gg_1_2 ?_
  refine x_aload_n dX6_addLot_17 rfl rfl ?_
  refine y_getI (v := (M3 1 0)) dX6_addLot_18 sh_1 cf_X6 fl_X6_38 (by decide) (by decide) (m_up_ne (Or.inl (by decide))) ?_
  refine x_iload_n dX6_addLot_21 rfl rfl ?_
  obtain ⟨s9, h⟩ := h
  refine x_iast dX6_addLot_22 sh_3 s9 ?_
  refine x_aload_n dX6_addLot_23 rfl rfl ?_
  refine y_getP dX6_addLot_24 sh_1 cf_X6 fl_X6_18 (by decide) (by decide) gg_1_3 ?_
  refine x_aload_n dX6_addLot_27 rfl rfl ?_
  refine y_getI (v := (M3 1 0)) dX6_addLot_28 sh_1 cf_X6 fl_X6_38 (by decide) (by decide) ((m_up_ne (Or.inl (by decide))).trans (m_up_ne (Or.inl (by decide)))) ?_
  refine x_iload_n dX6_addLot_31 rfl rfl ?_
  obtain ⟨s10, h⟩ := h
  refine x_iast dX6_addLot_32 sh_4 s10 ?_
  obtain ⟨M11, e12⟩ : ∃ z : mM, z = m_up (m_up (m_up M3 2 ((M 1 0).toNat) r2) 3 ((M3 1 0).toNat) x2) 4 ((M3 1 0).toNat) x3 := ⟨_, rfl⟩
  rw [← e12]
  replace h := h M11 e12
  refine x_aload_n dX6_addLot_33 rfl rfl ?_
  refine y_getP dX6_addLot_34 sh_1 cf_X6 fl_X6_21 (by decide) (by decide) gg_1_4 ?_
  refine x_aload_n dX6_addLot_37 rfl rfl ?_
  refine y_getI (v := (M3 1 0)) dX6_addLot_38 sh_1 cf_X6 fl_X6_38 (by decide) (by decide) ((congrFun (congrFun e12 1) 0).trans ((m_up_ne (Or.inl (by decide))).trans ((m_up_ne (Or.inl (by decide))).trans (m_up_ne (Or.inl (by decide)))))) ?_
  refine x_aload_n dX6_addLot_41 rfl rfl ?_
  refine y_getI (v := (M3 1 0)) dX6_addLot_42 sh_1 cf_X6 fl_X6_38 (by decide) (by decide) ((congrFun (congrFun e12 1) 0).trans ((m_up_ne (Or.inl (by decide))).trans ((m_up_ne (Or.inl (by decide))).trans (m_up_ne (Or.inl (by decide)))))) ?_
  obtain ⟨s13, h⟩ := h
  refine x_iast dX6_addLot_45 sh_5 s13 ?_
  refine x_aload_n dX6_addLot_46 rfl rfl ?_
  refine y_getP dX6_addLot_47 sh_1 cf_X6 fl_X6_24 (by decide) (by decide) gg_1_5 ?_
  refine x_aload_n dX6_addLot_50 rfl rfl ?_
  refine y_getI (v := (M3 1 0)) dX6_addLot_51 sh_1 cf_X6 fl_X6_38 (by decide) (by decide) ((m_up_ne (Or.inl (by decide))).trans ((congrFun (congrFun e12 1) 0).trans ((m_up_ne (Or.inl (by decide))).trans ((m_up_ne (Or.inl (by decide))).trans (m_up_ne (Or.inl (by decide))))))) ?_
  refine x_aload_n dX6_addLot_54 rfl rfl ?_
  refine y_getI (v := (M3 1 0)) dX6_addLot_55 sh_1 cf_X6 fl_X6_38 (by decide) (by decide) ((m_up_ne (Or.inl (by decide))).trans ((congrFun (congrFun e12 1) 0).trans ((m_up_ne (Or.inl (by decide))).trans ((m_up_ne (Or.inl (by decide))).trans (m_up_ne (Or.inl (by decide))))))) ?_
  obtain ⟨s14, h⟩ := h
  refine x_iast dX6_addLot_58 sh_6 s14 ?_
  obtain ⟨M15, e16⟩ : ∃ z : mM, z = m_up (m_up M11 5 ((M3 1 0).toNat) (M3 1 0)) 6 ((M3 1 0).toNat) (M3 1 0) := ⟨_, rfl⟩
  rw [← e16]
  replace h := h M15 e16
  refine x_aload_n dX6_addLot_59 rfl rfl ?_
  refine x_dup dX6_addLot_60 (fun _ _ => rfl) ?_
  refine y_getI (v := (M3 1 0)) dX6_addLot_61 sh_1 cf_X6 fl_X6_38 (by decide) (by decide) ((congrFun (congrFun e16 1) 0).trans ((m_up_ne (Or.inl (by decide))).trans ((m_up_ne (Or.inl (by decide))).trans ((congrFun (congrFun e12 1) 0).trans ((m_up_ne (Or.inl (by decide))).trans ((m_up_ne (Or.inl (by decide))).trans (m_up_ne (Or.inl (by decide))))))))) ?_
  refine x_iconst dX6_addLot_64 (by decide) ?_
  obtain ⟨s17, h⟩ := h
  refine x_iadd dX6_addLot_65 s17 ?_
  refine x_putI dX6_addLot_66 sh_1 cf_X6 fl_X6_38 (by decide) rfl (by decide) (Or.inl rfl) ?_
  refine x_aload_n dX6_addLot_69 rfl rfl ?_
  refine y_getI (v := ((M3 1 0) + 1)) dX6_addLot_70 sh_1 cf_X6 fl_X6_38 (by decide) (by decide) (m_up_same _ _ _ _) ?_
  refine x_iconst dX6_addLot_73 (by decide) ?_
  obtain ⟨s18, h⟩ := h
  refine x_isub dX6_addLot_74 s18 ?_
  refine x_iret dX6_addLot_75 rfl (Or.inl rfl) (fun _ _ => h)
theorem wp_X6_changePlaces_0 {x1 x2 : Int} {M : mM} {Q : Int → mM → Prop} (h : X_ kk_X6_changePlaces 2 [v_P 1, v_I x1, v_I x2, v_I 0] [] M Q) : X_ kk_X6_changePlaces 0 [v_P 1, v_I x1, v_I x2, v_U] [] M Q := by
  refine x_iconst dX6_changePlaces_0 (by decide) ?_
  refine y_istore_n (ls' := [v_P 1, v_I x1, v_I x2, v_I 0]) dX6_changePlaces_1 rfl (by decide) rfl ?_
  exact h
theorem wp_X6_changePlaces_2 {x1 x2 x3 : Int} {M : mM} {Q : Int → mM → Prop} (h : ((M 1 0) ≤ x3 → Q 0 M) ∧ (¬ (M 1 0) ≤ x3 → (0 ≤ x3 ∧ x3 < 8) ∧ (¬ (M 5 x3.toNat) = x1 → (0 ≤ x3 ∧ x3 < 8) ∧ (¬ (M 5 x3.toNat) = x2 → (m_ir (x3 + 1)) ∧ X_ kk_X6_changePlaces 2 [v_P 1, v_I x1, v_I x2, v_I (x3 + 1)] [] M Q) ∧ ((M 5 x3.toNat) = x2 → (0 ≤ x3 ∧ x3 < 8) ∧ (m_ir (x3 + 1)) ∧ X_ kk_X6_changePlaces 2 [v_P 1, v_I x1, v_I x2, v_I (x3 + 1)] [] (m_up M 5 x3.toNat x1) Q)) ∧ ((M 5 x3.toNat) = x1 → (0 ≤ x3 ∧ x3 < 8) ∧ (m_ir (x3 + 1)) ∧ X_ kk_X6_changePlaces 2 [v_P 1, v_I x1, v_I x2, v_I (x3 + 1)] [] (m_up M 5 x3.toNat x2) Q))) : X_ kk_X6_changePlaces 2 [v_P 1, v_I x1, v_I x2, v_I x3] [] M Q := by
  refine x_iload_n dX6_changePlaces_2 rfl rfl ?_
  refine x_aload_n dX6_changePlaces_3 rfl rfl ?_
  refine x_getI dX6_changePlaces_4 sh_1 cf_X6 fl_X6_38 (by decide) (by decide) ?_
  refine x_ic_ge (tgt := 53) dX6_changePlaces_7 (by decide) (fun hc => ?_) (fun hc => ?_)
  · replace h := h.1 hc
    refine x_ret dX6_changePlaces_53 rfl (fun _ => h)
  · replace h := h.2 hc
    refine x_aload_n dX6_changePlaces_10 rfl rfl ?_
    refine y_getP dX6_changePlaces_11 sh_1 cf_X6 fl_X6_21 (by decide) (by decide) gg_1_4 ?_
    refine x_iload_n dX6_changePlaces_14 rfl rfl ?_
    obtain ⟨s1, h⟩ := h
    refine x_iald dX6_changePlaces_15 sh_5 s1 ?_
    refine x_iload_n dX6_changePlaces_16 rfl rfl ?_
    refine x_ic_ne (tgt := 30) dX6_changePlaces_17 (by decide) (fun hc => ?_) (fun hc => ?_)
    · replace h := h.1 hc
      refine x_aload_n dX6_changePlaces_30 rfl rfl ?_
      refine y_getP dX6_changePlaces_31 sh_1 cf_X6 fl_X6_21 (by decide) (by decide) gg_1_4 ?_
      refine x_iload_n dX6_changePlaces_34 rfl rfl ?_
      obtain ⟨s2, h⟩ := h
      refine x_iald dX6_changePlaces_35 sh_5 s2 ?_
      refine x_iload_n dX6_changePlaces_36 rfl rfl ?_
      refine x_ic_ne (tgt := 47) dX6_changePlaces_37 (by decide) (fun hc => ?_) (fun hc => ?_)
      · replace h := h.1 hc
        obtain ⟨s3, h⟩ := h
        refine y_iinc (ls' := [v_P 1, v_I x1, v_I x2, v_I (x3 + 1)]) dX6_changePlaces_47 rfl s3 (by decide) rfl ?_
        refine x_goto (tgt := 2) dX6_changePlaces_50 (by decide) ?_
        exact h
      · replace h := h.2 hc
        refine x_aload_n dX6_changePlaces_40 rfl rfl ?_
        refine y_getP dX6_changePlaces_41 sh_1 cf_X6 fl_X6_21 (by decide) (by decide) gg_1_4 ?_
        refine x_iload_n dX6_changePlaces_44 rfl rfl ?_
        refine x_iload_n dX6_changePlaces_45 rfl rfl ?_
        obtain ⟨s4, h⟩ := h
        refine x_iast dX6_changePlaces_46 sh_5 s4 ?_
        obtain ⟨s5, h⟩ := h
        refine y_iinc (ls' := [v_P 1, v_I x1, v_I x2, v_I (x3 + 1)]) dX6_changePlaces_47 rfl s5 (by decide) rfl ?_
        refine x_goto (tgt := 2) dX6_changePlaces_50 (by decide) ?_
        exact h
    · replace h := h.2 hc
      refine x_aload_n dX6_changePlaces_20 rfl rfl ?_
      refine y_getP dX6_changePlaces_21 sh_1 cf_X6 fl_X6_21 (by decide) (by decide) gg_1_4 ?_
      refine x_iload_n dX6_changePlaces_24 rfl rfl ?_
      refine x_iload_n dX6_changePlaces_25 rfl rfl ?_
      obtain ⟨s6, h⟩ := h
      refine x_iast dX6_changePlaces_26 sh_5 s6 ?_
      refine x_goto (tgt := 47) dX6_changePlaces_27 (by decide) ?_
      obtain ⟨s7, h⟩ := h
      refine y_iinc (ls' := [v_P 1, v_I x1, v_I x2, v_I (x3 + 1)]) dX6_changePlaces_47 rfl s7 (by decide) rfl ?_
      refine x_goto (tgt := 2) dX6_changePlaces_50 (by decide) ?_
      exact h
theorem wp_X6_allLots_0 {M : mM} {Q : Int → mM → Prop} (h : (m_ir ((m_shl 1 (M 1 0)) - 1)) ∧ Q ((m_shl 1 (M 1 0)) - 1) M) : X_ kk_X6_allLots 0 [v_P 1] [] M Q := by
  refine x_iconst dX6_allLots_0 (by decide) ?_
  refine x_aload_n dX6_allLots_1 rfl rfl ?_
  refine x_getI dX6_allLots_2 sh_1 cf_X6 fl_X6_38 (by decide) (by decide) ?_
  refine x_ishl dX6_allLots_5 ?_
  refine x_iconst dX6_allLots_6 (by decide) ?_
  obtain ⟨s1, h⟩ := h
  refine x_isub dX6_allLots_7 s1 ?_
  refine x_iret dX6_allLots_8 rfl (Or.inl rfl) (fun _ _ => h)
theorem wp_X6_countsOf_0 {x1 : Int} {M : mM} {Q : Int → mM → Prop} (h : X_ kk_X6_countsOf 4 [v_P 1, v_I x1, v_I 0, v_I 0] [] M Q) : X_ kk_X6_countsOf 0 [v_P 1, v_I x1, v_U, v_U] [] M Q := by
  refine x_iconst dX6_countsOf_0 (by decide) ?_
  refine y_istore_n (ls' := [v_P 1, v_I x1, v_I 0, v_U]) dX6_countsOf_1 rfl (by decide) rfl ?_
  refine x_iconst dX6_countsOf_2 (by decide) ?_
  refine y_istore_n (ls' := [v_P 1, v_I x1, v_I 0, v_I 0]) dX6_countsOf_3 rfl (by decide) rfl ?_
  exact h
theorem wp_X6_countsOf_4 {x1 x2 x3 : Int} {M : mM} {Q : Int → mM → Prop} (h : ((M 1 0) ≤ x3 → Q x2 M) ∧ (¬ (M 1 0) ≤ x3 → ((m_and (m_shr x1 x3) 1) = 0 → (m_ir (x3 + 1)) ∧ X_ kk_X6_countsOf 4 [v_P 1, v_I x1, v_I x2, v_I (x3 + 1)] [] M Q) ∧ (¬ (m_and (m_shr x1 x3) 1) = 0 → (0 ≤ x3 ∧ x3 < 8) ∧ (m_ir (x2 + (M 2 x3.toNat))) ∧ (m_ir (x3 + 1)) ∧ X_ kk_X6_countsOf 4 [v_P 1, v_I x1, v_I (x2 + (M 2 x3.toNat)), v_I (x3 + 1)] [] M Q))) : X_ kk_X6_countsOf 4 [v_P 1, v_I x1, v_I x2, v_I x3] [] M Q := by
  refine x_iload_n dX6_countsOf_4 rfl rfl ?_
  refine x_aload_n dX6_countsOf_5 rfl rfl ?_
  refine x_getI dX6_countsOf_6 sh_1 cf_X6 fl_X6_38 (by decide) (by decide) ?_
  refine x_ic_ge (tgt := 35) dX6_countsOf_9 (by decide) (fun hc => ?_) (fun hc => ?_)
  · replace h := h.1 hc
    refine x_iload_n dX6_countsOf_35 rfl rfl ?_
    refine x_iret dX6_countsOf_36 rfl (Or.inl rfl) (fun _ _ => h)
  · replace h := h.2 hc
    refine x_iload_n dX6_countsOf_12 rfl rfl ?_
    refine x_iload_n dX6_countsOf_13 rfl rfl ?_
    refine x_ishr dX6_countsOf_14 ?_
    refine x_iconst dX6_countsOf_15 (by decide) ?_
    refine x_iand dX6_countsOf_16 ?_
    refine x_if_eq (tgt := 29) dX6_countsOf_17 (by decide) (fun hc => ?_) (fun hc => ?_)
    · replace h := h.1 hc
      obtain ⟨s1, h⟩ := h
      refine y_iinc (ls' := [v_P 1, v_I x1, v_I x2, v_I (x3 + 1)]) dX6_countsOf_29 rfl s1 (by decide) rfl ?_
      refine x_goto (tgt := 4) dX6_countsOf_32 (by decide) ?_
      exact h
    · replace h := h.2 hc
      refine x_iload_n dX6_countsOf_20 rfl rfl ?_
      refine x_aload_n dX6_countsOf_21 rfl rfl ?_
      refine y_getP dX6_countsOf_22 sh_1 cf_X6 fl_X6_9 (by decide) (by decide) gg_1_1 ?_
      refine x_iload_n dX6_countsOf_25 rfl rfl ?_
      obtain ⟨s2, h⟩ := h
      refine x_iald dX6_countsOf_26 sh_2 s2 ?_
      obtain ⟨s3, h⟩ := h
      refine x_iadd dX6_countsOf_27 s3 ?_
      refine y_istore_n (ls' := [v_P 1, v_I x1, v_I (x2 + (M 2 x3.toNat)), v_I x3]) dX6_countsOf_28 rfl (by decide) rfl ?_
      obtain ⟨s4, h⟩ := h
      refine y_iinc (ls' := [v_P 1, v_I x1, v_I (x2 + (M 2 x3.toNat)), v_I (x3 + 1)]) dX6_countsOf_29 rfl s4 (by decide) rfl ?_
      refine x_goto (tgt := 4) dX6_countsOf_32 (by decide) ?_
      exact h
theorem wp_X6_alternatives_0 {M : mM} {Q : Int → mM → Prop} (h : X_ kk_X6_alternatives 4 [v_P 1, v_I 0, v_I 0] [] M Q) : X_ kk_X6_alternatives 0 [v_P 1, v_U, v_U] [] M Q := by
  refine x_iconst dX6_alternatives_0 (by decide) ?_
  refine y_istore_n (ls' := [v_P 1, v_I 0, v_U]) dX6_alternatives_1 rfl (by decide) rfl ?_
  refine x_iconst dX6_alternatives_2 (by decide) ?_
  refine y_istore_n (ls' := [v_P 1, v_I 0, v_I 0]) dX6_alternatives_3 rfl (by decide) rfl ?_
  exact h
theorem wp_X6_alternatives_4 {x1 x2 : Int} {M : mM} {Q : Int → mM → Prop} (h : ((M 1 6) ≤ x2 → Q x1 M) ∧ (¬ (M 1 6) ≤ x2 → ((0 : Int) ≤ x2 ∧ x2 < (6 : Int)) ∧ (m_ir (x1 + (M (8 + 3 * x2.toNat) 3))) ∧ (m_ir (x2 + 1)) ∧ X_ kk_X6_alternatives 4 [v_P 1, v_I (x1 + (M (8 + 3 * x2.toNat) 3)), v_I (x2 + 1)] [] M Q)) : X_ kk_X6_alternatives 4 [v_P 1, v_I x1, v_I x2] [] M Q := by
  refine x_iload_n dX6_alternatives_4 rfl rfl ?_
  refine x_aload_n dX6_alternatives_5 rfl rfl ?_
  refine x_getI dX6_alternatives_6 sh_1 cf_X6 fl_X6_41 (by decide) (by decide) ?_
  refine x_ic_ge (tgt := 30) dX6_alternatives_9 (by decide) (fun hc => ?_) (fun hc => ?_)
  · replace h := h.1 hc
    refine x_iload_n dX6_alternatives_30 rfl rfl ?_
    refine x_iret dX6_alternatives_31 rfl (Or.inl rfl) (fun _ _ => h)
  · replace h := h.2 hc
    refine x_iload_n dX6_alternatives_12 rfl rfl ?_
    refine x_aload_n dX6_alternatives_13 rfl rfl ?_
    refine y_getP dX6_alternatives_14 sh_1 cf_X6 fl_X6_29 (by decide) (by decide) gg_1_7 ?_
    refine x_iload_n dX6_alternatives_17 rfl rfl ?_
    obtain ⟨s1, h⟩ := h
    refine y_aaldB dX6_alternatives_18 s1 ?_
    have g2 := isB_at (j := x2.toNat) (by clear h; omega)
    refine x_getI dX6_alternatives_19 (g2).1 cf_X1 fl_X6_50 (by decide) (by decide) ?_
    obtain ⟨s3, h⟩ := h
    refine x_iadd dX6_alternatives_22 s3 ?_
    refine y_istore_n (ls' := [v_P 1, v_I (x1 + (M (8 + 3 * x2.toNat) 3)), v_I x2]) dX6_alternatives_23 rfl (by decide) rfl ?_
    obtain ⟨s4, h⟩ := h
    refine y_iinc (ls' := [v_P 1, v_I (x1 + (M (8 + 3 * x2.toNat) 3)), v_I (x2 + 1)]) dX6_alternatives_24 rfl s4 (by decide) rfl ?_
    refine x_goto (tgt := 4) dX6_alternatives_27 (by decide) ?_
    exact h
theorem wp_X6_pick_0 {x1 x3 : Int} {q2 : Nat} {M : mM} {Q : Int → mM → Prop} (hq2 : m_sh q2 = (20, 8)) (h : X_ kk_X6_pick 9 [v_P 1, v_U, v_P q2, v_I x3, v_I 0, v_I x1, v_I 0, v_U] [] M Q) : X_ kk_X6_pick 0 [v_P 1, v_I x1, v_P q2, v_I x3, v_U, v_U, v_U, v_U] [] M Q := by
  refine x_iconst dX6_pick_0 (by decide) ?_
  refine y_istore (ls' := [v_P 1, v_I x1, v_P q2, v_I x3, v_I 0, v_U, v_U, v_U]) dX6_pick_1 (by decide) rfl ?_
  refine x_iload_n dX6_pick_3 rfl rfl ?_
  refine y_istore (ls' := [v_P 1, v_I x1, v_P q2, v_I x3, v_I 0, v_I x1, v_U, v_U]) dX6_pick_4 (by decide) rfl ?_
  refine x_iconst dX6_pick_6 (by decide) ?_
  refine y_istore (ls' := [v_P 1, v_I x1, v_P q2, v_I x3, v_I 0, v_I x1, v_I 0, v_U]) dX6_pick_7 (by decide) rfl ?_
  refine y_forget 1 (ls' := [v_P 1, v_U, v_P q2, v_I x3, v_I 0, v_I x1, v_I 0, v_U]) rfl ?_
  exact h
theorem wp_X6_pick_9 {x3 x4 x5 x6 : Int} {q2 : Nat} {M : mM} {Q : Int → mM → Prop} (hq2 : m_sh q2 = (20, 8)) (h : ((M 1 0) ≤ x6 → (¬ x5 = 0 → Q (-6) M) ∧ (x5 = 0 → Q x4 M)) ∧ (¬ (M 1 0) ≤ x6 → (x5 = 0 → (¬ x5 = 0 → Q (-6) M) ∧ (x5 = 0 → Q x4 M)) ∧ (¬ x5 = 0 → (0 ≤ x6 ∧ x6 < 8) ∧ ((m_and (m_shr x3 (M q2 x6.toNat)) 1) = 0 → (m_ir (x6 + 1)) ∧ X_ kk_X6_pick 9 [v_P 1, v_U, v_P q2, v_I x3, v_I x4, v_I x5, v_I (x6 + 1), v_U] [] M Q) ∧ (¬ (m_and (m_shr x3 (M q2 x6.toNat)) 1) = 0 → (0 ≤ (M q2 x6.toNat) ∧ (M q2 x6.toNat) < 8) ∧ (m_ir (15 * (M 2 ((M q2 x6.toNat).toNat)))) ∧ ((m_and x5 (15 * (M 2 ((M q2 x6.toNat).toNat)))) = 0 → (m_ir (x6 + 1)) ∧ X_ kk_X6_pick 9 [v_P 1, v_U, v_P q2, v_I x3, v_I x4, v_I x5, v_I (x6 + 1), v_U] [] M Q) ∧ (¬ (m_and x5 (15 * (M 2 ((M q2 x6.toNat).toNat)))) = 0 → (0 ≤ (M q2 x6.toNat) ∧ (M q2 x6.toNat) < 8) ∧ (m_ir (x5 - (M 2 ((M q2 x6.toNat).toNat)))) ∧ (m_ir (x6 + 1)) ∧ X_ kk_X6_pick 9 [v_P 1, v_U, v_P q2, v_I x3, v_I (m_or x4 (m_shl 1 (M q2 x6.toNat))), v_I (x5 - (M 2 ((M q2 x6.toNat).toNat))), v_I (x6 + 1), v_U] [] M Q))))) : X_ kk_X6_pick 9 [v_P 1, v_U, v_P q2, v_I x3, v_I x4, v_I x5, v_I x6, v_U] [] M Q := by
  refine x_iload dX6_pick_9 rfl ?_
  refine x_aload_n dX6_pick_11 rfl rfl ?_
  refine x_getI dX6_pick_12 sh_1 cf_X6 fl_X6_38 (by decide) (by decide) ?_
  refine x_ic_ge (tgt := 81) dX6_pick_15 (by decide) (fun hc => ?_) (fun hc => ?_)
  · replace h := h.1 hc
    refine x_iload dX6_pick_81 rfl ?_
    refine x_if_ne (tgt := 91) dX6_pick_83 (by decide) (fun hc => ?_) (fun hc => ?_)
    · replace h := h.1 hc
      refine x_bipush dX6_pick_91 (by decide) (by decide) ?_
      refine x_iret dX6_pick_93 rfl (Or.inl rfl) (fun _ _ => h)
    · replace h := h.2 hc
      refine x_iload dX6_pick_86 rfl ?_
      refine x_goto (tgt := 93) dX6_pick_88 (by decide) ?_
      refine x_iret dX6_pick_93 rfl (Or.inl rfl) (fun _ _ => h)
  · replace h := h.2 hc
    refine x_iload dX6_pick_18 rfl ?_
    refine x_if_eq (tgt := 81) dX6_pick_20 (by decide) (fun hc => ?_) (fun hc => ?_)
    · replace h := h.1 hc
      refine x_iload dX6_pick_81 rfl ?_
      refine x_if_ne (tgt := 91) dX6_pick_83 (by decide) (fun hc => ?_) (fun hc => ?_)
      · replace h := h.1 hc
        refine x_bipush dX6_pick_91 (by decide) (by decide) ?_
        refine x_iret dX6_pick_93 rfl (Or.inl rfl) (fun _ _ => h)
      · replace h := h.2 hc
        refine x_iload dX6_pick_86 rfl ?_
        refine x_goto (tgt := 93) dX6_pick_88 (by decide) ?_
        refine x_iret dX6_pick_93 rfl (Or.inl rfl) (fun _ _ => h)
    · replace h := h.2 hc
      refine x_aload_n dX6_pick_23 rfl rfl ?_
      refine x_iload dX6_pick_24 rfl ?_
      obtain ⟨s1, h⟩ := h
      refine x_iald dX6_pick_26 hq2 s1 ?_
      refine y_istore (ls' := [v_P 1, v_U, v_P q2, v_I x3, v_I x4, v_I x5, v_I x6, v_I (M q2 x6.toNat)]) dX6_pick_27 (by decide) rfl ?_
      refine x_iload_n dX6_pick_29 rfl rfl ?_
      refine x_iload dX6_pick_30 rfl ?_
      refine x_ishr dX6_pick_32 ?_
      refine x_iconst dX6_pick_33 (by decide) ?_
      refine x_iand dX6_pick_34 ?_
      refine x_if_eq (tgt := 75) dX6_pick_35 (by decide) (fun hc => ?_) (fun hc => ?_)
      · replace h := h.1 hc
        obtain ⟨s2, h⟩ := h
        refine y_iinc (ls' := [v_P 1, v_U, v_P q2, v_I x3, v_I x4, v_I x5, v_I (x6 + 1), v_I (M q2 x6.toNat)]) dX6_pick_75 rfl s2 (by decide) rfl ?_
        refine x_goto (tgt := 9) dX6_pick_78 (by decide) ?_
        refine y_forget 7 (ls' := [v_P 1, v_U, v_P q2, v_I x3, v_I x4, v_I x5, v_I (x6 + 1), v_U]) rfl ?_
        exact h
      · replace h := h.2 hc
        refine x_iload dX6_pick_38 rfl ?_
        refine x_bipush dX6_pick_40 (by decide) (by decide) ?_
        refine x_aload_n dX6_pick_42 rfl rfl ?_
        refine y_getP dX6_pick_43 sh_1 cf_X6 fl_X6_9 (by decide) (by decide) gg_1_1 ?_
        refine x_iload dX6_pick_46 rfl ?_
        obtain ⟨s3, h⟩ := h
        refine x_iald dX6_pick_48 sh_2 s3 ?_
        obtain ⟨s4, h⟩ := h
        refine x_imul dX6_pick_49 s4 ?_
        refine x_iand dX6_pick_50 ?_
        refine x_if_eq (tgt := 75) dX6_pick_51 (by decide) (fun hc => ?_) (fun hc => ?_)
        · replace h := h.1 hc
          obtain ⟨s5, h⟩ := h
          refine y_iinc (ls' := [v_P 1, v_U, v_P q2, v_I x3, v_I x4, v_I x5, v_I (x6 + 1), v_I (M q2 x6.toNat)]) dX6_pick_75 rfl s5 (by decide) rfl ?_
          refine x_goto (tgt := 9) dX6_pick_78 (by decide) ?_
          refine y_forget 7 (ls' := [v_P 1, v_U, v_P q2, v_I x3, v_I x4, v_I x5, v_I (x6 + 1), v_U]) rfl ?_
          exact h
        · replace h := h.2 hc
          refine x_iload dX6_pick_54 rfl ?_
          refine x_aload_n dX6_pick_56 rfl rfl ?_
          refine y_getP dX6_pick_57 sh_1 cf_X6 fl_X6_9 (by decide) (by decide) gg_1_1 ?_
          refine x_iload dX6_pick_60 rfl ?_
          obtain ⟨s6, h⟩ := h
          refine x_iald dX6_pick_62 sh_2 s6 ?_
          obtain ⟨s7, h⟩ := h
          refine x_isub dX6_pick_63 s7 ?_
          refine y_istore (ls' := [v_P 1, v_U, v_P q2, v_I x3, v_I x4, v_I (x5 - (M 2 ((M q2 x6.toNat).toNat))), v_I x6, v_I (M q2 x6.toNat)]) dX6_pick_64 (by decide) rfl ?_
          refine x_iload dX6_pick_66 rfl ?_
          refine x_iconst dX6_pick_68 (by decide) ?_
          refine x_iload dX6_pick_69 rfl ?_
          refine x_ishl dX6_pick_71 ?_
          refine x_ior dX6_pick_72 ?_
          refine y_istore (ls' := [v_P 1, v_U, v_P q2, v_I x3, v_I (m_or x4 (m_shl 1 (M q2 x6.toNat))), v_I (x5 - (M 2 ((M q2 x6.toNat).toNat))), v_I x6, v_I (M q2 x6.toNat)]) dX6_pick_73 (by decide) rfl ?_
          obtain ⟨s8, h⟩ := h
          refine y_iinc (ls' := [v_P 1, v_U, v_P q2, v_I x3, v_I (m_or x4 (m_shl 1 (M q2 x6.toNat))), v_I (x5 - (M 2 ((M q2 x6.toNat).toNat))), v_I (x6 + 1), v_I (M q2 x6.toNat)]) dX6_pick_75 rfl s8 (by decide) rfl ?_
          refine x_goto (tgt := 9) dX6_pick_78 (by decide) ?_
          refine y_forget 7 (ls' := [v_P 1, v_U, v_P q2, v_I x3, v_I (m_or x4 (m_shl 1 (M q2 x6.toNat))), v_I (x5 - (M 2 ((M q2 x6.toNat).toNat))), v_I (x6 + 1), v_U]) rfl ?_
          exact h
theorem wp_X9_firstWrong_0 {M : mM} {Q : Int → mM → Prop} (h : ∃ Qc1 : Int → mM → Prop, C_ kk_X9_begin [v_P 26, v_I 0] M Qc1 ∧ ∀ (r2 : Int) (M3 : mM), m_ir r2 → m_okM M3 → Qc1 r2 M3 → X_ kk_X9_firstWrong 7 [v_P 26, v_I 0] [] M3 Q) : X_ kk_X9_firstWrong 0 [v_P 26, v_U] [] M Q := by
  refine x_aload_n dX9_firstWrong_0 rfl rfl ?_
  refine x_iconst dX9_firstWrong_1 (by decide) ?_
  obtain ⟨Qc1, hc4, h⟩ := h
  refine x_callV (as := [v_I 0]) (st := []) (Qc := Qc1) dX9_firstWrong_2 mt_X9_begin ml_X9_21 ⟨by decide, by decide⟩ sh_26 rfl (fun _ _ => Nat.le_of_ble_eq_true rfl) hc4 (fun r2 M3 hr5 hM6 hq7 => ?_)
  replace h := h r2 M3 hr5 hM6 hq7
  change X_ kk_X9_firstWrong 5 [v_P 26, v_U] [] M3 Q
  refine x_iconst dX9_firstWrong_5 (by decide) ?_
  refine y_istore_n (ls' := [v_P 26, v_I 0]) dX9_firstWrong_6 rfl (by decide) rfl ?_
  exact h
theorem wp_X9_firstWrong_7 {x1 : Int} {M : mM} {Q : Int → mM → Prop} (h : ((M 26 1) ≤ x1 → (¬ (M 26 5) = 4 → Q (M 26 1) M) ∧ ((M 26 5) = 4 → Q (-6) M)) ∧ (¬ (M 26 1) ≤ x1 → (0 ≤ x1 ∧ x1 < 50) ∧ ∃ Qc2 : Int → mM → Prop, C_ kk_X9_takes [v_P 26, v_I (M 27 x1.toNat)] M Qc2 ∧ ∀ (r3 : Int) (M4 : mM), m_ir r3 → m_okM M4 → Qc2 r3 M4 → (¬ r3 = 0 → (m_ir (x1 + 1)) ∧ X_ kk_X9_firstWrong 7 [v_P 26, v_I (x1 + 1)] [] M4 Q) ∧ (r3 = 0 → Q x1 M4))) : X_ kk_X9_firstWrong 7 [v_P 26, v_I x1] [] M Q := by
  refine x_iload_n dX9_firstWrong_7 rfl rfl ?_
  refine x_aload_n dX9_firstWrong_8 rfl rfl ?_
  refine x_getI dX9_firstWrong_9 sh_26 cf_X9 fl_X9_25 (by decide) (by decide) ?_
  refine x_ic_ge (tgt := 36) dX9_firstWrong_12 (by decide) (fun hc => ?_) (fun hc => ?_)
  · replace h := h.1 hc
    refine x_aload_n dX9_firstWrong_36 rfl rfl ?_
    refine x_getI dX9_firstWrong_37 sh_26 cf_X9 fl_X9_33 (by decide) (by decide) ?_
    refine x_iconst dX9_firstWrong_40 (by decide) ?_
    refine x_ic_ne (tgt := 49) dX9_firstWrong_41 (by decide) (fun hc => ?_) (fun hc => ?_)
    · replace h := h.1 hc
      refine x_aload_n dX9_firstWrong_49 rfl rfl ?_
      refine x_getI dX9_firstWrong_50 sh_26 cf_X9 fl_X9_25 (by decide) (by decide) ?_
      refine x_iret dX9_firstWrong_53 rfl (Or.inl rfl) (fun _ _ => h)
    · replace h := h.2 hc
      refine x_bipush dX9_firstWrong_44 (by decide) (by decide) ?_
      refine x_goto (tgt := 53) dX9_firstWrong_46 (by decide) ?_
      refine x_iret dX9_firstWrong_53 rfl (Or.inl rfl) (fun _ _ => h)
  · replace h := h.2 hc
    refine x_aload_n dX9_firstWrong_15 rfl rfl ?_
    refine x_aload_n dX9_firstWrong_16 rfl rfl ?_
    refine y_getP dX9_firstWrong_17 sh_26 cf_X9 fl_X9_9 (by decide) (by decide) gg_26_0 ?_
    refine x_iload_n dX9_firstWrong_20 rfl rfl ?_
    obtain ⟨s1, h⟩ := h
    refine x_iald dX9_firstWrong_21 sh_27 s1 ?_
    obtain ⟨Qc2, hc5, h⟩ := h
    refine x_callV (as := [v_I (M 27 x1.toNat)]) (st := []) (Qc := Qc2) dX9_firstWrong_22 mt_X9_takes ml_X9_29 ⟨by decide, by decide⟩ sh_26 rfl (fun _ _ => Nat.le_of_ble_eq_true rfl) hc5 (fun r3 M4 hr6 hM7 hq8 => ?_)
    replace h := h r3 M4 hr6 hM7 hq8
    change X_ kk_X9_firstWrong 25 [v_P 26, v_I x1] [v_I r3] M4 Q
    refine x_if_ne (tgt := 30) dX9_firstWrong_25 (by decide) (fun hc => ?_) (fun hc => ?_)
    · replace h := h.1 hc
      obtain ⟨s9, h⟩ := h
      refine y_iinc (ls' := [v_P 26, v_I (x1 + 1)]) dX9_firstWrong_30 rfl s9 (by decide) rfl ?_
      refine x_goto (tgt := 7) dX9_firstWrong_33 (by decide) ?_
      exact h
    · replace h := h.2 hc
      refine x_iload_n dX9_firstWrong_28 rfl rfl ?_
      refine x_iret dX9_firstWrong_29 rfl (Or.inl rfl) (fun _ _ => h)
theorem wp_X9_begin_0 {x1 : Int} {M : mM} {Q : Int → mM → Prop} (h : (0 ≤ x1 ∧ x1 < 6) ∧ (0 ≤ x1 ∧ x1 < 6) ∧ ∀ M3 : mM, M3 = m_up (m_up (m_up (m_up (m_up M 26 4 x1) 28 x1.toNat 0) 29 x1.toNat 0) 26 7 0) 26 8 0 → Q 0 (m_up M3 26 5 0)) : X_ kk_X9_begin 0 [v_P 26, v_I x1] [] M Q := by
  refine x_aload_n dX9_begin_0 rfl rfl ?_
  refine x_iload_n dX9_begin_1 rfl rfl ?_
  refine x_putI dX9_begin_2 sh_26 cf_X9 fl_X9_36 (by decide) rfl (by decide) (Or.inl rfl) ?_
  refine x_aload_n dX9_begin_5 rfl rfl ?_
  refine y_getP dX9_begin_6 sh_26 cf_X9 fl_X9_15 (by decide) (by decide) gg_26_2 ?_
  refine x_iload_n dX9_begin_9 rfl rfl ?_
  refine x_iconst dX9_begin_10 (by decide) ?_
  obtain ⟨s1, h⟩ := h
  refine x_iast dX9_begin_11 sh_28 s1 ?_
  refine x_aload_n dX9_begin_12 rfl rfl ?_
  refine y_getP dX9_begin_13 sh_26 cf_X9 fl_X9_18 (by decide) (by decide) gg_26_3 ?_
  refine x_iload_n dX9_begin_16 rfl rfl ?_
  refine x_iconst dX9_begin_17 (by decide) ?_
  obtain ⟨s2, h⟩ := h
  refine x_iast dX9_begin_18 sh_29 s2 ?_
  refine x_aload_n dX9_begin_19 rfl rfl ?_
  refine x_iconst dX9_begin_20 (by decide) ?_
  refine x_putI dX9_begin_21 sh_26 cf_X9 fl_X9_39 (by decide) rfl (by decide) (Or.inl rfl) ?_
  refine x_aload_n dX9_begin_24 rfl rfl ?_
  refine x_iconst dX9_begin_25 (by decide) ?_
  refine x_putI dX9_begin_26 sh_26 cf_X9 fl_X9_42 (by decide) rfl (by decide) (Or.inl rfl) ?_
  obtain ⟨M3, e4⟩ : ∃ z : mM, z = m_up (m_up (m_up (m_up (m_up M 26 4 x1) 28 x1.toNat 0) 29 x1.toNat 0) 26 7 0) 26 8 0 := ⟨_, rfl⟩
  rw [← e4]
  replace h := h M3 e4
  refine x_aload_n dX9_begin_29 rfl rfl ?_
  refine x_iconst dX9_begin_30 (by decide) ?_
  refine x_putI dX9_begin_31 sh_26 cf_X9 fl_X9_33 (by decide) rfl (by decide) (Or.inl rfl) ?_
  refine x_ret dX9_begin_34 rfl (fun _ => h)
theorem wp_X9_takes_0 {x1 : Int} {M : mM} {Q : Int → mM → Prop} (h : ((M 26 5) = 0 → ∃ Qc1 : Int → mM → Prop, C_ kk_X9_takesCount [v_P 26, v_I x1] M Qc1 ∧ ∀ (r2 : Int) (M3 : mM), m_ir r2 → m_okM M3 → Qc1 r2 M3 → (r2 = 0 ∨ r2 = 1) ∧ Q r2 M3) ∧ ((M 26 5) = 1 → ∃ Qc8 : Int → mM → Prop, C_ kk_X9_takesLetter [v_P 26, v_I x1] M Qc8 ∧ ∀ (r9 : Int) (M10 : mM), m_ir r9 → m_okM M10 → Qc8 r9 M10 → (r9 = 0 ∨ r9 = 1) ∧ Q r9 M10) ∧ ((M 26 5) = 2 → (¬ x1 = 61 → ∃ Qc15 : Int → mM → Prop, C_ kk_X9_takesCount [v_P 26, v_I x1] M Qc15 ∧ ∀ (r16 : Int) (M17 : mM), m_ir r16 → m_okM M17 → Qc15 r16 M17 → (r16 = 0 ∨ r16 = 1) ∧ Q r16 M17) ∧ (x1 = 61 → ∃ Qc22 : Int → mM → Prop, C_ kk_X9_takesEquals [v_P 26] M Qc22 ∧ ∀ (r23 : Int) (M24 : mM), m_ir r23 → m_okM M24 → Qc22 r23 M24 → (r23 = 0 ∨ r23 = 1) ∧ Q r23 M24)) ∧ ((M 26 5) = 3 → ∃ Qc29 : Int → mM → Prop, C_ kk_X9_takesDigit [v_P 26, v_I x1] M Qc29 ∧ ∀ (r30 : Int) (M31 : mM), m_ir r30 → m_okM M31 → Qc29 r30 M31 → (r30 = 0 ∨ r30 = 1) ∧ Q r30 M31) ∧ (((M 26 5) < 0 ∨ 3 < (M 26 5)) → (¬ x1 = 124 → ∃ Qc36 : Int → mM → Prop, C_ kk_X9_takesDigit [v_P 26, v_I x1] M Qc36 ∧ ∀ (r37 : Int) (M38 : mM), m_ir r37 → m_okM M38 → Qc36 r37 M38 → (r37 = 0 ∨ r37 = 1) ∧ Q r37 M38) ∧ (x1 = 124 → ∃ Qc43 : Int → mM → Prop, C_ kk_X9_takesBar [v_P 26] M Qc43 ∧ ∀ (r44 : Int) (M45 : mM), m_ir r44 → m_okM M45 → Qc43 r44 M45 → (r44 = 0 ∨ r44 = 1) ∧ Q r44 M45))) : X_ kk_X9_takes 0 [v_P 26, v_I x1] [] M Q := by
  refine x_aload_n dX9_takes_0 rfl rfl ?_
  refine x_getI dX9_takes_1 sh_26 cf_X9 fl_X9_33 (by decide) (by decide) ?_
  by_cases hx : (M 26 5) = 0
  · refine x_tsIn (k := kk_X9_takes) (pc := 4) (x := (M 26 5)) (j := 0) (off := 32) (tgt := 36) dX9_takes_4 hx ⟨by decide, by decide⟩ rfl (by decide) ?_
    replace h := h.1 hx
    refine x_aload_n dX9_takes_36 rfl rfl ?_
    refine x_iload_n dX9_takes_37 rfl rfl ?_
    obtain ⟨Qc1, hc4, h⟩ := h
    refine x_callV (as := [v_I x1]) (st := []) (Qc := Qc1) dX9_takes_38 mt_X9_takesCount ml_X9_45 ⟨by decide, by decide⟩ sh_26 rfl (fun _ _ => Nat.le_of_ble_eq_true rfl) hc4 (fun r2 M3 hr5 hM6 hq7 => ?_)
    replace h := h r2 M3 hr5 hM6 hq7
    change X_ kk_X9_takes 41 [v_P 26, v_I x1] [v_I r2] M3 Q
    refine x_iret dX9_takes_41 rfl (Or.inr ⟨rfl, h.1⟩) (fun _ _ => h.2)
  · replace h := h.2
    by_cases hx : (M 26 5) = 1
    · refine x_tsIn (k := kk_X9_takes) (pc := 4) (x := (M 26 5)) (j := 1) (off := 38) (tgt := 42) dX9_takes_4 hx ⟨by decide, by decide⟩ rfl (by decide) ?_
      replace h := h.1 hx
      refine x_aload_n dX9_takes_42 rfl rfl ?_
      refine x_iload_n dX9_takes_43 rfl rfl ?_
      obtain ⟨Qc8, hc11, h⟩ := h
      refine x_callV (as := [v_I x1]) (st := []) (Qc := Qc8) dX9_takes_44 mt_X9_takesLetter ml_X9_48 ⟨by decide, by decide⟩ sh_26 rfl (fun _ _ => Nat.le_of_ble_eq_true rfl) hc11 (fun r9 M10 hr12 hM13 hq14 => ?_)
      replace h := h r9 M10 hr12 hM13 hq14
      change X_ kk_X9_takes 47 [v_P 26, v_I x1] [v_I r9] M10 Q
      refine x_iret dX9_takes_47 rfl (Or.inr ⟨rfl, h.1⟩) (fun _ _ => h.2)
    · replace h := h.2
      by_cases hx : (M 26 5) = 2
      · refine x_tsIn (k := kk_X9_takes) (pc := 4) (x := (M 26 5)) (j := 2) (off := 44) (tgt := 48) dX9_takes_4 hx ⟨by decide, by decide⟩ rfl (by decide) ?_
        replace h := h.1 hx
        refine x_iload_n dX9_takes_48 rfl rfl ?_
        refine x_bipush dX9_takes_49 (by decide) (by decide) ?_
        refine x_ic_ne (tgt := 61) dX9_takes_51 (by decide) (fun hc => ?_) (fun hc => ?_)
        · replace h := h.1 hc
          refine x_aload_n dX9_takes_61 rfl rfl ?_
          refine x_iload_n dX9_takes_62 rfl rfl ?_
          obtain ⟨Qc15, hc18, h⟩ := h
          refine x_callV (as := [v_I x1]) (st := []) (Qc := Qc15) dX9_takes_63 mt_X9_takesCount ml_X9_45 ⟨by decide, by decide⟩ sh_26 rfl (fun _ _ => Nat.le_of_ble_eq_true rfl) hc18 (fun r16 M17 hr19 hM20 hq21 => ?_)
          replace h := h r16 M17 hr19 hM20 hq21
          change X_ kk_X9_takes 66 [v_P 26, v_I x1] [v_I r16] M17 Q
          refine x_iret dX9_takes_66 rfl (Or.inr ⟨rfl, h.1⟩) (fun _ _ => h.2)
        · replace h := h.2 hc
          refine x_aload_n dX9_takes_54 rfl rfl ?_
          obtain ⟨Qc22, hc25, h⟩ := h
          refine x_callV (as := []) (st := []) (Qc := Qc22) dX9_takes_55 mt_X9_takesEquals ml_X9_51 ⟨by decide, by decide⟩ sh_26 rfl (fun _ _ => Nat.le_of_ble_eq_true rfl) hc25 (fun r23 M24 hr26 hM27 hq28 => ?_)
          replace h := h r23 M24 hr26 hM27 hq28
          change X_ kk_X9_takes 58 [v_P 26, v_I x1] [v_I r23] M24 Q
          refine x_goto (tgt := 66) dX9_takes_58 (by decide) ?_
          refine x_iret dX9_takes_66 rfl (Or.inr ⟨rfl, h.1⟩) (fun _ _ => h.2)
      · replace h := h.2
        by_cases hx : (M 26 5) = 3
        · refine x_tsIn (k := kk_X9_takes) (pc := 4) (x := (M 26 5)) (j := 3) (off := 63) (tgt := 67) dX9_takes_4 hx ⟨by decide, by decide⟩ rfl (by decide) ?_
          replace h := h.1 hx
          refine x_aload_n dX9_takes_67 rfl rfl ?_
          refine x_iload_n dX9_takes_68 rfl rfl ?_
          obtain ⟨Qc29, hc32, h⟩ := h
          refine x_callV (as := [v_I x1]) (st := []) (Qc := Qc29) dX9_takes_69 mt_X9_takesDigit ml_X9_55 ⟨by decide, by decide⟩ sh_26 rfl (fun _ _ => Nat.le_of_ble_eq_true rfl) hc32 (fun r30 M31 hr33 hM34 hq35 => ?_)
          replace h := h r30 M31 hr33 hM34 hq35
          change X_ kk_X9_takes 72 [v_P 26, v_I x1] [v_I r30] M31 Q
          refine x_iret dX9_takes_72 rfl (Or.inr ⟨rfl, h.1⟩) (fun _ _ => h.2)
        · replace h := h.2
          have ho : (M 26 5) < 0 ∨ 3 < (M 26 5) := by clear h; omega
          refine x_tsOut (k := kk_X9_takes) (pc := 4) (x := (M 26 5)) (tgt := 73) dX9_takes_4 ho (by decide) ?_
          replace h := h ho
          refine x_iload_n dX9_takes_73 rfl rfl ?_
          refine x_bipush dX9_takes_74 (by decide) (by decide) ?_
          refine x_ic_ne (tgt := 86) dX9_takes_76 (by decide) (fun hc => ?_) (fun hc => ?_)
          · replace h := h.1 hc
            refine x_aload_n dX9_takes_86 rfl rfl ?_
            refine x_iload_n dX9_takes_87 rfl rfl ?_
            obtain ⟨Qc36, hc39, h⟩ := h
            refine x_callV (as := [v_I x1]) (st := []) (Qc := Qc36) dX9_takes_88 mt_X9_takesDigit ml_X9_55 ⟨by decide, by decide⟩ sh_26 rfl (fun _ _ => Nat.le_of_ble_eq_true rfl) hc39 (fun r37 M38 hr40 hM41 hq42 => ?_)
            replace h := h r37 M38 hr40 hM41 hq42
            change X_ kk_X9_takes 91 [v_P 26, v_I x1] [v_I r37] M38 Q
            refine x_iret dX9_takes_91 rfl (Or.inr ⟨rfl, h.1⟩) (fun _ _ => h.2)
          · replace h := h.2 hc
            refine x_aload_n dX9_takes_79 rfl rfl ?_
            obtain ⟨Qc43, hc46, h⟩ := h
            refine x_callV (as := []) (st := []) (Qc := Qc43) dX9_takes_80 mt_X9_takesBar ml_X9_58 ⟨by decide, by decide⟩ sh_26 rfl (fun _ _ => Nat.le_of_ble_eq_true rfl) hc46 (fun r44 M45 hr47 hM48 hq49 => ?_)
            replace h := h r44 M45 hr47 hM48 hq49
            change X_ kk_X9_takes 83 [v_P 26, v_I x1] [v_I r44] M45 Q
            refine x_goto (tgt := 91) dX9_takes_83 (by decide) ?_
            refine x_iret dX9_takes_91 rfl (Or.inr ⟨rfl, h.1⟩) (fun _ _ => h.2)
theorem wp_X9_takesCount_0 {x1 : Int} {M : mM} {Q : Int → mM → Prop} (h : (x1 < 49 → Q 0 M) ∧ (¬ x1 < 49 → (57 < x1 → Q 0 M) ∧ (¬ 57 < x1 → ((M 26 7) < 5 → (m_ir (x1 - 48)) ∧ Q 1 (m_up (m_up M 26 6 (x1 - 48)) 26 5 1)) ∧ (¬ (M 26 7) < 5 → Q 0 M)))) : X_ kk_X9_takesCount 0 [v_P 26, v_I x1] [] M Q := by
  refine x_iload_n dX9_takesCount_0 rfl rfl ?_
  refine x_bipush dX9_takesCount_1 (by decide) (by decide) ?_
  refine x_ic_lt (tgt := 20) dX9_takesCount_3 (by decide) (fun hc => ?_) (fun hc => ?_)
  · replace h := h.1 hc
    refine x_iconst dX9_takesCount_20 (by decide) ?_
    refine x_iret dX9_takesCount_21 rfl (Or.inr ⟨rfl, Or.inl rfl⟩) (fun _ _ => h)
  · replace h := h.2 hc
    refine x_iload_n dX9_takesCount_6 rfl rfl ?_
    refine x_bipush dX9_takesCount_7 (by decide) (by decide) ?_
    refine x_ic_gt (tgt := 20) dX9_takesCount_9 (by decide) (fun hc => ?_) (fun hc => ?_)
    · replace h := h.1 hc
      refine x_iconst dX9_takesCount_20 (by decide) ?_
      refine x_iret dX9_takesCount_21 rfl (Or.inr ⟨rfl, Or.inl rfl⟩) (fun _ _ => h)
    · replace h := h.2 hc
      refine x_aload_n dX9_takesCount_12 rfl rfl ?_
      refine x_getI dX9_takesCount_13 sh_26 cf_X9 fl_X9_39 (by decide) (by decide) ?_
      refine x_iconst dX9_takesCount_16 (by decide) ?_
      refine x_ic_lt (tgt := 22) dX9_takesCount_17 (by decide) (fun hc => ?_) (fun hc => ?_)
      · replace h := h.1 hc
        refine x_aload_n dX9_takesCount_22 rfl rfl ?_
        refine x_iload_n dX9_takesCount_23 rfl rfl ?_
        refine x_bipush dX9_takesCount_24 (by decide) (by decide) ?_
        obtain ⟨s1, h⟩ := h
        refine x_isub dX9_takesCount_26 s1 ?_
        refine x_putI dX9_takesCount_27 sh_26 cf_X9 fl_X9_61 (by decide) rfl (by decide) (Or.inl rfl) ?_
        refine x_aload_n dX9_takesCount_30 rfl rfl ?_
        refine x_iconst dX9_takesCount_31 (by decide) ?_
        refine x_putI dX9_takesCount_32 sh_26 cf_X9 fl_X9_33 (by decide) rfl (by decide) (Or.inl rfl) ?_
        refine x_iconst dX9_takesCount_35 (by decide) ?_
        refine x_iret dX9_takesCount_36 rfl (Or.inr ⟨rfl, Or.inr rfl⟩) (fun _ _ => h)
      · replace h := h.2 hc
        refine x_iconst dX9_takesCount_20 (by decide) ?_
        refine x_iret dX9_takesCount_21 rfl (Or.inr ⟨rfl, Or.inl rfl⟩) (fun _ _ => h)
theorem wp_X9_takesLetter_0 {x1 : Int} {M : mM} {Q : Int → mM → Prop} (h : (m_ir (x1 - 97)) ∧ ((x1 - 97) < (M 26 7) → Q 0 M) ∧ (¬ (x1 - 97) < (M 26 7) → ((x1 - 97) < 5 → (0 ≤ (M 26 4) ∧ (M 26 4) < 6) ∧ ∃ Qc3 : Int → mM → Prop, C_ kk_X3_one [v_I (x1 - 97)] M Qc3 ∧ ∀ (r4 : Int) (M5 : mM), m_ir r4 → m_okM M5 → Qc3 r4 M5 → (m_ir ((M 26 6) * r4)) ∧ (m_ir ((M 29 ((M 26 4).toNat)) + ((M 26 6) * r4))) ∧ (0 ≤ (M 26 4) ∧ (M 26 4) < 6) ∧ ∀ M13 : mM, M13 = m_up M5 29 ((M 26 4).toNat) ((M 29 ((M 26 4).toNat)) + ((M 26 6) * r4)) → (m_ir ((x1 - 97) + 1)) ∧ Q 1 (m_up (m_up M13 26 7 ((x1 - 97) + 1)) 26 5 2)) ∧ (¬ (x1 - 97) < 5 → Q 0 M))) : X_ kk_X9_takesLetter 0 [v_P 26, v_I x1, v_U] [] M Q := by
  refine x_iload_n dX9_takesLetter_0 rfl rfl ?_
  refine x_bipush dX9_takesLetter_1 (by decide) (by decide) ?_
  obtain ⟨s1, h⟩ := h
  refine x_isub dX9_takesLetter_3 s1 ?_
  refine y_istore_n (ls' := [v_P 26, v_I x1, v_I (x1 - 97)]) dX9_takesLetter_4 rfl (by decide) rfl ?_
  refine x_iload_n dX9_takesLetter_5 rfl rfl ?_
  refine x_aload_n dX9_takesLetter_6 rfl rfl ?_
  refine x_getI dX9_takesLetter_7 sh_26 cf_X9 fl_X9_39 (by decide) (by decide) ?_
  refine x_ic_lt (tgt := 18) dX9_takesLetter_10 (by decide) (fun hc => ?_) (fun hc => ?_)
  · replace h := h.1 hc
    refine x_iconst dX9_takesLetter_18 (by decide) ?_
    refine x_iret dX9_takesLetter_19 rfl (Or.inr ⟨rfl, Or.inl rfl⟩) (fun _ _ => h)
  · replace h := h.2 hc
    refine x_iload_n dX9_takesLetter_13 rfl rfl ?_
    refine x_iconst dX9_takesLetter_14 (by decide) ?_
    refine x_ic_lt (tgt := 20) dX9_takesLetter_15 (by decide) (fun hc => ?_) (fun hc => ?_)
    · replace h := h.1 hc
      refine x_aload_n dX9_takesLetter_20 rfl rfl ?_
      refine y_getP dX9_takesLetter_21 sh_26 cf_X9 fl_X9_18 (by decide) (by decide) gg_26_3 ?_
      refine x_aload_n dX9_takesLetter_24 rfl rfl ?_
      refine x_getI dX9_takesLetter_25 sh_26 cf_X9 fl_X9_36 (by decide) (by decide) ?_
      refine x_dup2 dX9_takesLetter_28 (fun _ _ => rfl) (fun _ _ => rfl) ?_
      obtain ⟨s2, h⟩ := h
      refine x_iald dX9_takesLetter_29 sh_29 s2 ?_
      refine x_aload_n dX9_takesLetter_30 rfl rfl ?_
      refine x_getI dX9_takesLetter_31 sh_26 cf_X9 fl_X9_61 (by decide) (by decide) ?_
      refine x_iload_n dX9_takesLetter_34 rfl rfl ?_
      obtain ⟨Qc3, hc6, h⟩ := h
      refine x_callS (as := [v_I (x1 - 97)]) (st := [v_I (M 26 6), v_I (M 29 ((M 26 4).toNat)), v_I (M 26 4), v_P 29]) (Qc := Qc3) dX9_takesLetter_35 mt_X3_one ml_X9_64 ⟨by decide, by decide⟩ (fun _ _ => Nat.le_of_ble_eq_true rfl) hc6 (fun r4 M5 hr7 hM8 hq9 => ?_)
      replace h := h r4 M5 hr7 hM8 hq9
      change X_ kk_X9_takesLetter 38 [v_P 26, v_I x1, v_I (x1 - 97)] [v_I r4, v_I (M 26 6), v_I (M 29 ((M 26 4).toNat)), v_I (M 26 4), v_P 29] M5 Q
      obtain ⟨s10, h⟩ := h
      refine x_imul dX9_takesLetter_38 s10 ?_
      obtain ⟨s11, h⟩ := h
      refine x_iadd dX9_takesLetter_39 s11 ?_
      obtain ⟨s12, h⟩ := h
      refine x_iast dX9_takesLetter_40 sh_29 s12 ?_
      obtain ⟨M13, e14⟩ : ∃ z : mM, z = m_up M5 29 ((M 26 4).toNat) ((M 29 ((M 26 4).toNat)) + ((M 26 6) * r4)) := ⟨_, rfl⟩
      rw [← e14]
      replace h := h M13 e14
      refine x_aload_n dX9_takesLetter_41 rfl rfl ?_
      refine x_iload_n dX9_takesLetter_42 rfl rfl ?_
      refine x_iconst dX9_takesLetter_43 (by decide) ?_
      obtain ⟨s15, h⟩ := h
      refine x_iadd dX9_takesLetter_44 s15 ?_
      refine x_putI dX9_takesLetter_45 sh_26 cf_X9 fl_X9_39 (by decide) rfl (by decide) (Or.inl rfl) ?_
      refine x_aload_n dX9_takesLetter_48 rfl rfl ?_
      refine x_iconst dX9_takesLetter_49 (by decide) ?_
      refine x_putI dX9_takesLetter_50 sh_26 cf_X9 fl_X9_33 (by decide) rfl (by decide) (Or.inl rfl) ?_
      refine x_iconst dX9_takesLetter_53 (by decide) ?_
      refine x_iret dX9_takesLetter_54 rfl (Or.inr ⟨rfl, Or.inr rfl⟩) (fun _ _ => h)
    · replace h := h.2 hc
      refine x_iconst dX9_takesLetter_18 (by decide) ?_
      refine x_iret dX9_takesLetter_19 rfl (Or.inr ⟨rfl, Or.inl rfl⟩) (fun _ _ => h)
theorem wp_X9_takesEquals_0 {M : mM} {Q : Int → mM → Prop} (h : Q 1 (m_up M 26 5 3)) : X_ kk_X9_takesEquals 0 [v_P 26] [] M Q := by
  refine x_aload_n dX9_takesEquals_0 rfl rfl ?_
  refine x_iconst dX9_takesEquals_1 (by decide) ?_
  refine x_putI dX9_takesEquals_2 sh_26 cf_X9 fl_X9_33 (by decide) rfl (by decide) (Or.inl rfl) ?_
  refine x_iconst dX9_takesEquals_5 (by decide) ?_
  refine x_iret dX9_takesEquals_6 rfl (Or.inr ⟨rfl, Or.inr rfl⟩) (fun _ _ => h)
theorem wp_X9_takesDigit_0 {x1 : Int} {M : mM} {Q : Int → mM → Prop} (h : (x1 < 48 → Q 0 M) ∧ (¬ x1 < 48 → (57 < x1 → Q 0 M) ∧ (¬ 57 < x1 → ((M 26 8) < 3 → (0 ≤ (M 26 4) ∧ (M 26 4) < 6) ∧ (m_ir ((M 28 ((M 26 4).toNat)) * 10)) ∧ (m_ir (((M 28 ((M 26 4).toNat)) * 10) + x1)) ∧ (m_ir ((((M 28 ((M 26 4).toNat)) * 10) + x1) - 48)) ∧ (0 ≤ (M 26 4) ∧ (M 26 4) < 6) ∧ ∀ M6 : mM, M6 = m_up M 28 ((M 26 4).toNat) ((((M 28 ((M 26 4).toNat)) * 10) + x1) - 48) → (m_ir ((M 26 8) + 1)) ∧ Q 1 (m_up (m_up M6 26 8 ((M 26 8) + 1)) 26 5 4)) ∧ (¬ (M 26 8) < 3 → Q 0 M)))) : X_ kk_X9_takesDigit 0 [v_P 26, v_I x1] [] M Q := by
  refine x_iload_n dX9_takesDigit_0 rfl rfl ?_
  refine x_bipush dX9_takesDigit_1 (by decide) (by decide) ?_
  refine x_ic_lt (tgt := 20) dX9_takesDigit_3 (by decide) (fun hc => ?_) (fun hc => ?_)
  · replace h := h.1 hc
    refine x_iconst dX9_takesDigit_20 (by decide) ?_
    refine x_iret dX9_takesDigit_21 rfl (Or.inr ⟨rfl, Or.inl rfl⟩) (fun _ _ => h)
  · replace h := h.2 hc
    refine x_iload_n dX9_takesDigit_6 rfl rfl ?_
    refine x_bipush dX9_takesDigit_7 (by decide) (by decide) ?_
    refine x_ic_gt (tgt := 20) dX9_takesDigit_9 (by decide) (fun hc => ?_) (fun hc => ?_)
    · replace h := h.1 hc
      refine x_iconst dX9_takesDigit_20 (by decide) ?_
      refine x_iret dX9_takesDigit_21 rfl (Or.inr ⟨rfl, Or.inl rfl⟩) (fun _ _ => h)
    · replace h := h.2 hc
      refine x_aload_n dX9_takesDigit_12 rfl rfl ?_
      refine x_getI dX9_takesDigit_13 sh_26 cf_X9 fl_X9_42 (by decide) (by decide) ?_
      refine x_iconst dX9_takesDigit_16 (by decide) ?_
      refine x_ic_lt (tgt := 22) dX9_takesDigit_17 (by decide) (fun hc => ?_) (fun hc => ?_)
      · replace h := h.1 hc
        refine x_aload_n dX9_takesDigit_22 rfl rfl ?_
        refine y_getP dX9_takesDigit_23 sh_26 cf_X9 fl_X9_15 (by decide) (by decide) gg_26_2 ?_
        refine x_aload_n dX9_takesDigit_26 rfl rfl ?_
        refine x_getI dX9_takesDigit_27 sh_26 cf_X9 fl_X9_36 (by decide) (by decide) ?_
        refine x_aload_n dX9_takesDigit_30 rfl rfl ?_
        refine y_getP dX9_takesDigit_31 sh_26 cf_X9 fl_X9_15 (by decide) (by decide) gg_26_2 ?_
        refine x_aload_n dX9_takesDigit_34 rfl rfl ?_
        refine x_getI dX9_takesDigit_35 sh_26 cf_X9 fl_X9_36 (by decide) (by decide) ?_
        obtain ⟨s1, h⟩ := h
        refine x_iald dX9_takesDigit_38 sh_28 s1 ?_
        refine x_bipush dX9_takesDigit_39 (by decide) (by decide) ?_
        obtain ⟨s2, h⟩ := h
        refine x_imul dX9_takesDigit_41 s2 ?_
        refine x_iload_n dX9_takesDigit_42 rfl rfl ?_
        obtain ⟨s3, h⟩ := h
        refine x_iadd dX9_takesDigit_43 s3 ?_
        refine x_bipush dX9_takesDigit_44 (by decide) (by decide) ?_
        obtain ⟨s4, h⟩ := h
        refine x_isub dX9_takesDigit_46 s4 ?_
        obtain ⟨s5, h⟩ := h
        refine x_iast dX9_takesDigit_47 sh_28 s5 ?_
        obtain ⟨M6, e7⟩ : ∃ z : mM, z = m_up M 28 ((M 26 4).toNat) ((((M 28 ((M 26 4).toNat)) * 10) + x1) - 48) := ⟨_, rfl⟩
        rw [← e7]
        replace h := h M6 e7
        refine x_aload_n dX9_takesDigit_48 rfl rfl ?_
        refine x_dup dX9_takesDigit_49 (fun _ _ => rfl) ?_
        refine y_getI (v := (M 26 8)) dX9_takesDigit_50 sh_26 cf_X9 fl_X9_42 (by decide) (by decide) ((congrFun (congrFun e7 26) 8).trans (m_up_ne (Or.inl (by decide)))) ?_
        refine x_iconst dX9_takesDigit_53 (by decide) ?_
        obtain ⟨s8, h⟩ := h
        refine x_iadd dX9_takesDigit_54 s8 ?_
        refine x_putI dX9_takesDigit_55 sh_26 cf_X9 fl_X9_42 (by decide) rfl (by decide) (Or.inl rfl) ?_
        refine x_aload_n dX9_takesDigit_58 rfl rfl ?_
        refine x_iconst dX9_takesDigit_59 (by decide) ?_
        refine x_putI dX9_takesDigit_60 sh_26 cf_X9 fl_X9_33 (by decide) rfl (by decide) (Or.inl rfl) ?_
        refine x_iconst dX9_takesDigit_63 (by decide) ?_
        refine x_iret dX9_takesDigit_64 rfl (Or.inr ⟨rfl, Or.inr rfl⟩) (fun _ _ => h)
      · replace h := h.2 hc
        refine x_iconst dX9_takesDigit_20 (by decide) ?_
        refine x_iret dX9_takesDigit_21 rfl (Or.inr ⟨rfl, Or.inl rfl⟩) (fun _ _ => h)
theorem wp_X9_takesBar_0 {M : mM} {Q : Int → mM → Prop} (h : ((M 26 4) < 5 → (m_ir ((M 26 4) + 1)) ∧ ∃ Qc2 : Int → mM → Prop, C_ kk_X9_begin [v_P 26, v_I ((M 26 4) + 1)] M Qc2 ∧ ∀ (r3 : Int) (M4 : mM), m_ir r3 → m_okM M4 → Qc2 r3 M4 → Q 1 M4) ∧ (¬ (M 26 4) < 5 → Q 0 M)) : X_ kk_X9_takesBar 0 [v_P 26] [] M Q := by
  refine x_aload_n dX9_takesBar_0 rfl rfl ?_
  refine x_getI dX9_takesBar_1 sh_26 cf_X9 fl_X9_36 (by decide) (by decide) ?_
  refine x_iconst dX9_takesBar_4 (by decide) ?_
  refine x_ic_lt (tgt := 10) dX9_takesBar_5 (by decide) (fun hc => ?_) (fun hc => ?_)
  · replace h := h.1 hc
    refine x_aload_n dX9_takesBar_10 rfl rfl ?_
    refine x_aload_n dX9_takesBar_11 rfl rfl ?_
    refine x_getI dX9_takesBar_12 sh_26 cf_X9 fl_X9_36 (by decide) (by decide) ?_
    refine x_iconst dX9_takesBar_15 (by decide) ?_
    obtain ⟨s1, h⟩ := h
    refine x_iadd dX9_takesBar_16 s1 ?_
    obtain ⟨Qc2, hc5, h⟩ := h
    refine x_callV (as := [v_I ((M 26 4) + 1)]) (st := []) (Qc := Qc2) dX9_takesBar_17 mt_X9_begin ml_X9_21 ⟨by decide, by decide⟩ sh_26 rfl (fun _ _ => Nat.le_of_ble_eq_true rfl) hc5 (fun r3 M4 hr6 hM7 hq8 => ?_)
    replace h := h r3 M4 hr6 hM7 hq8
    change X_ kk_X9_takesBar 20 [v_P 26] [] M4 Q
    refine x_iconst dX9_takesBar_20 (by decide) ?_
    refine x_iret dX9_takesBar_21 rfl (Or.inr ⟨rfl, Or.inr rfl⟩) (fun _ _ => h)
  · replace h := h.2 hc
    refine x_iconst dX9_takesBar_8 (by decide) ?_
    refine x_iret dX9_takesBar_9 rfl (Or.inr ⟨rfl, Or.inl rfl⟩) (fun _ _ => h)
theorem wp_J6_bitCount_0f7a4_0 {x0 : Int} {M : mM} {Q : Int → mM → Prop} (h : (m_ir (x0 - (m_and (m_ushr x0 1) 1431655765))) ∧ (m_ir ((m_and (x0 - (m_and (m_ushr x0 1) 1431655765)) 858993459) + (m_and (m_ushr (x0 - (m_and (m_ushr x0 1) 1431655765)) 2) 858993459))) ∧ (m_ir (((m_and (x0 - (m_and (m_ushr x0 1) 1431655765)) 858993459) + (m_and (m_ushr (x0 - (m_and (m_ushr x0 1) 1431655765)) 2) 858993459)) + (m_ushr ((m_and (x0 - (m_and (m_ushr x0 1) 1431655765)) 858993459) + (m_and (m_ushr (x0 - (m_and (m_ushr x0 1) 1431655765)) 2) 858993459)) 4))) ∧ (m_ir ((m_and (((m_and (x0 - (m_and (m_ushr x0 1) 1431655765)) 858993459) + (m_and (m_ushr (x0 - (m_and (m_ushr x0 1) 1431655765)) 2) 858993459)) + (m_ushr ((m_and (x0 - (m_and (m_ushr x0 1) 1431655765)) 858993459) + (m_and (m_ushr (x0 - (m_and (m_ushr x0 1) 1431655765)) 2) 858993459)) 4)) 252645135) + (m_ushr (m_and (((m_and (x0 - (m_and (m_ushr x0 1) 1431655765)) 858993459) + (m_and (m_ushr (x0 - (m_and (m_ushr x0 1) 1431655765)) 2) 858993459)) + (m_ushr ((m_and (x0 - (m_and (m_ushr x0 1) 1431655765)) 858993459) + (m_and (m_ushr (x0 - (m_and (m_ushr x0 1) 1431655765)) 2) 858993459)) 4)) 252645135) 8))) ∧ (m_ir (((m_and (((m_and (x0 - (m_and (m_ushr x0 1) 1431655765)) 858993459) + (m_and (m_ushr (x0 - (m_and (m_ushr x0 1) 1431655765)) 2) 858993459)) + (m_ushr ((m_and (x0 - (m_and (m_ushr x0 1) 1431655765)) 858993459) + (m_and (m_ushr (x0 - (m_and (m_ushr x0 1) 1431655765)) 2) 858993459)) 4)) 252645135) + (m_ushr (m_and (((m_and (x0 - (m_and (m_ushr x0 1) 1431655765)) 858993459) + (m_and (m_ushr (x0 - (m_and (m_ushr x0 1) 1431655765)) 2) 858993459)) + (m_ushr ((m_and (x0 - (m_and (m_ushr x0 1) 1431655765)) 858993459) + (m_and (m_ushr (x0 - (m_and (m_ushr x0 1) 1431655765)) 2) 858993459)) 4)) 252645135) 8)) + (m_ushr ((m_and (((m_and (x0 - (m_and (m_ushr x0 1) 1431655765)) 858993459) + (m_and (m_ushr (x0 - (m_and (m_ushr x0 1) 1431655765)) 2) 858993459)) + (m_ushr ((m_and (x0 - (m_and (m_ushr x0 1) 1431655765)) 858993459) + (m_and (m_ushr (x0 - (m_and (m_ushr x0 1) 1431655765)) 2) 858993459)) 4)) 252645135) + (m_ushr (m_and (((m_and (x0 - (m_and (m_ushr x0 1) 1431655765)) 858993459) + (m_and (m_ushr (x0 - (m_and (m_ushr x0 1) 1431655765)) 2) 858993459)) + (m_ushr ((m_and (x0 - (m_and (m_ushr x0 1) 1431655765)) 858993459) + (m_and (m_ushr (x0 - (m_and (m_ushr x0 1) 1431655765)) 2) 858993459)) 4)) 252645135) 8)) 16))) ∧ Q (m_and (((m_and (((m_and (x0 - (m_and (m_ushr x0 1) 1431655765)) 858993459) + (m_and (m_ushr (x0 - (m_and (m_ushr x0 1) 1431655765)) 2) 858993459)) + (m_ushr ((m_and (x0 - (m_and (m_ushr x0 1) 1431655765)) 858993459) + (m_and (m_ushr (x0 - (m_and (m_ushr x0 1) 1431655765)) 2) 858993459)) 4)) 252645135) + (m_ushr (m_and (((m_and (x0 - (m_and (m_ushr x0 1) 1431655765)) 858993459) + (m_and (m_ushr (x0 - (m_and (m_ushr x0 1) 1431655765)) 2) 858993459)) + (m_ushr ((m_and (x0 - (m_and (m_ushr x0 1) 1431655765)) 858993459) + (m_and (m_ushr (x0 - (m_and (m_ushr x0 1) 1431655765)) 2) 858993459)) 4)) 252645135) 8)) + (m_ushr ((m_and (((m_and (x0 - (m_and (m_ushr x0 1) 1431655765)) 858993459) + (m_and (m_ushr (x0 - (m_and (m_ushr x0 1) 1431655765)) 2) 858993459)) + (m_ushr ((m_and (x0 - (m_and (m_ushr x0 1) 1431655765)) 858993459) + (m_and (m_ushr (x0 - (m_and (m_ushr x0 1) 1431655765)) 2) 858993459)) 4)) 252645135) + (m_ushr (m_and (((m_and (x0 - (m_and (m_ushr x0 1) 1431655765)) 858993459) + (m_and (m_ushr (x0 - (m_and (m_ushr x0 1) 1431655765)) 2) 858993459)) + (m_ushr ((m_and (x0 - (m_and (m_ushr x0 1) 1431655765)) 858993459) + (m_and (m_ushr (x0 - (m_and (m_ushr x0 1) 1431655765)) 2) 858993459)) 4)) 252645135) 8)) 16)) 63) M) : X_ kk_J6_bitCount_0f7a4 0 [v_I x0] [] M Q := by
  refine x_iload_n dJ6_bitCount_0f7a4_0 rfl rfl ?_
  refine x_iload_n dJ6_bitCount_0f7a4_1 rfl rfl ?_
  refine x_iconst dJ6_bitCount_0f7a4_2 (by decide) ?_
  refine x_iushr dJ6_bitCount_0f7a4_3 ?_
  refine x_ldc_w (n := 1431655765) dJ6_bitCount_0f7a4_4 ct_J6_265 (by decide) (by decide) ?_
  refine x_iand dJ6_bitCount_0f7a4_7 ?_
  obtain ⟨s1, h⟩ := h
  refine x_isub dJ6_bitCount_0f7a4_8 s1 ?_
  refine y_istore_n (ls' := [v_I (x0 - (m_and (m_ushr x0 1) 1431655765))]) dJ6_bitCount_0f7a4_9 rfl (by decide) rfl ?_
  refine x_iload_n dJ6_bitCount_0f7a4_10 rfl rfl ?_
  refine x_ldc_w (n := 858993459) dJ6_bitCount_0f7a4_11 ct_J6_266 (by decide) (by decide) ?_
  refine x_iand dJ6_bitCount_0f7a4_14 ?_
  refine x_iload_n dJ6_bitCount_0f7a4_15 rfl rfl ?_
  refine x_iconst dJ6_bitCount_0f7a4_16 (by decide) ?_
  refine x_iushr dJ6_bitCount_0f7a4_17 ?_
  refine x_ldc_w (n := 858993459) dJ6_bitCount_0f7a4_18 ct_J6_266 (by decide) (by decide) ?_
  refine x_iand dJ6_bitCount_0f7a4_21 ?_
  obtain ⟨s2, h⟩ := h
  refine x_iadd dJ6_bitCount_0f7a4_22 s2 ?_
  refine y_istore_n (ls' := [v_I ((m_and (x0 - (m_and (m_ushr x0 1) 1431655765)) 858993459) + (m_and (m_ushr (x0 - (m_and (m_ushr x0 1) 1431655765)) 2) 858993459))]) dJ6_bitCount_0f7a4_23 rfl (by decide) rfl ?_
  refine x_iload_n dJ6_bitCount_0f7a4_24 rfl rfl ?_
  refine x_iload_n dJ6_bitCount_0f7a4_25 rfl rfl ?_
  refine x_iconst dJ6_bitCount_0f7a4_26 (by decide) ?_
  refine x_iushr dJ6_bitCount_0f7a4_27 ?_
  obtain ⟨s3, h⟩ := h
  refine x_iadd dJ6_bitCount_0f7a4_28 s3 ?_
  refine x_ldc_w (n := 252645135) dJ6_bitCount_0f7a4_29 ct_J6_267 (by decide) (by decide) ?_
  refine x_iand dJ6_bitCount_0f7a4_32 ?_
  refine y_istore_n (ls' := [v_I (m_and (((m_and (x0 - (m_and (m_ushr x0 1) 1431655765)) 858993459) + (m_and (m_ushr (x0 - (m_and (m_ushr x0 1) 1431655765)) 2) 858993459)) + (m_ushr ((m_and (x0 - (m_and (m_ushr x0 1) 1431655765)) 858993459) + (m_and (m_ushr (x0 - (m_and (m_ushr x0 1) 1431655765)) 2) 858993459)) 4)) 252645135)]) dJ6_bitCount_0f7a4_33 rfl (by decide) rfl ?_
  refine x_iload_n dJ6_bitCount_0f7a4_34 rfl rfl ?_
  refine x_iload_n dJ6_bitCount_0f7a4_35 rfl rfl ?_
  refine x_bipush dJ6_bitCount_0f7a4_36 (by decide) (by decide) ?_
  refine x_iushr dJ6_bitCount_0f7a4_38 ?_
  obtain ⟨s4, h⟩ := h
  refine x_iadd dJ6_bitCount_0f7a4_39 s4 ?_
  refine y_istore_n (ls' := [v_I ((m_and (((m_and (x0 - (m_and (m_ushr x0 1) 1431655765)) 858993459) + (m_and (m_ushr (x0 - (m_and (m_ushr x0 1) 1431655765)) 2) 858993459)) + (m_ushr ((m_and (x0 - (m_and (m_ushr x0 1) 1431655765)) 858993459) + (m_and (m_ushr (x0 - (m_and (m_ushr x0 1) 1431655765)) 2) 858993459)) 4)) 252645135) + (m_ushr (m_and (((m_and (x0 - (m_and (m_ushr x0 1) 1431655765)) 858993459) + (m_and (m_ushr (x0 - (m_and (m_ushr x0 1) 1431655765)) 2) 858993459)) + (m_ushr ((m_and (x0 - (m_and (m_ushr x0 1) 1431655765)) 858993459) + (m_and (m_ushr (x0 - (m_and (m_ushr x0 1) 1431655765)) 2) 858993459)) 4)) 252645135) 8))]) dJ6_bitCount_0f7a4_40 rfl (by decide) rfl ?_
  refine x_iload_n dJ6_bitCount_0f7a4_41 rfl rfl ?_
  refine x_iload_n dJ6_bitCount_0f7a4_42 rfl rfl ?_
  refine x_bipush dJ6_bitCount_0f7a4_43 (by decide) (by decide) ?_
  refine x_iushr dJ6_bitCount_0f7a4_45 ?_
  obtain ⟨s5, h⟩ := h
  refine x_iadd dJ6_bitCount_0f7a4_46 s5 ?_
  refine y_istore_n (ls' := [v_I (((m_and (((m_and (x0 - (m_and (m_ushr x0 1) 1431655765)) 858993459) + (m_and (m_ushr (x0 - (m_and (m_ushr x0 1) 1431655765)) 2) 858993459)) + (m_ushr ((m_and (x0 - (m_and (m_ushr x0 1) 1431655765)) 858993459) + (m_and (m_ushr (x0 - (m_and (m_ushr x0 1) 1431655765)) 2) 858993459)) 4)) 252645135) + (m_ushr (m_and (((m_and (x0 - (m_and (m_ushr x0 1) 1431655765)) 858993459) + (m_and (m_ushr (x0 - (m_and (m_ushr x0 1) 1431655765)) 2) 858993459)) + (m_ushr ((m_and (x0 - (m_and (m_ushr x0 1) 1431655765)) 858993459) + (m_and (m_ushr (x0 - (m_and (m_ushr x0 1) 1431655765)) 2) 858993459)) 4)) 252645135) 8)) + (m_ushr ((m_and (((m_and (x0 - (m_and (m_ushr x0 1) 1431655765)) 858993459) + (m_and (m_ushr (x0 - (m_and (m_ushr x0 1) 1431655765)) 2) 858993459)) + (m_ushr ((m_and (x0 - (m_and (m_ushr x0 1) 1431655765)) 858993459) + (m_and (m_ushr (x0 - (m_and (m_ushr x0 1) 1431655765)) 2) 858993459)) 4)) 252645135) + (m_ushr (m_and (((m_and (x0 - (m_and (m_ushr x0 1) 1431655765)) 858993459) + (m_and (m_ushr (x0 - (m_and (m_ushr x0 1) 1431655765)) 2) 858993459)) + (m_ushr ((m_and (x0 - (m_and (m_ushr x0 1) 1431655765)) 858993459) + (m_and (m_ushr (x0 - (m_and (m_ushr x0 1) 1431655765)) 2) 858993459)) 4)) 252645135) 8)) 16))]) dJ6_bitCount_0f7a4_47 rfl (by decide) rfl ?_
  refine x_iload_n dJ6_bitCount_0f7a4_48 rfl rfl ?_
  refine x_bipush dJ6_bitCount_0f7a4_49 (by decide) (by decide) ?_
  refine x_iand dJ6_bitCount_0f7a4_51 ?_
  refine x_iret dJ6_bitCount_0f7a4_52 rfl (Or.inl rfl) (fun _ _ => h)
