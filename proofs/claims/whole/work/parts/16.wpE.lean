theorem wp_X5_mostWorth_0 {M : mM} {Q : Int → mM → Prop} (h : ∃ Qc1 : Int → mM → Prop, C_ kk_X5_layOut [v_P 48] M Qc1 ∧ ∀ (r2 : Int) (M3 : mM), m_ir r2 → m_okM M3 → Qc1 r2 M3 → X_ kk_X5_mostWorth 6 [v_P 48, v_I 0, v_U, v_U] [] M3 Q) : X_ kk_X5_mostWorth 0 [v_P 48, v_U, v_U, v_U] [] M Q := by
  refine x_aload_n dX5_mostWorth_0 rfl rfl ?_
  obtain ⟨Qc1, hc4, h⟩ := h
  refine x_callV (as := []) (st := []) (Qc := Qc1) dX5_mostWorth_1 mt_X5_layOut ml_X5_30 ⟨by decide, by decide⟩ sh_48 rfl (fun _ _ => Nat.le_of_ble_eq_true rfl) hc4 (fun r2 M3 hr5 hM6 hq7 => ?_)
  replace h := h r2 M3 hr5 hM6 hq7
  change X_ kk_X5_mostWorth 4 [v_P 48, v_U, v_U, v_U] [] M3 Q
  refine x_iconst dX5_mostWorth_4 (by decide) ?_
  refine y_istore_n (ls' := [v_P 48, v_I 0, v_U, v_U]) dX5_mostWorth_5 rfl (by decide) rfl ?_
  exact h
theorem wp_X5_mostWorth_6 {x1 : Int} {M : mM} {Q : Int → mM → Prop} (h : ((M 48 5) ≤ x1 → (m_ir ((M 1 6) - 1)) ∧ X_ kk_X5_mostWorth 45 [v_P 48, v_I ((M 1 6) - 1), v_U, v_U] [] M Q) ∧ (¬ (M 48 5) ≤ x1 → ((0 : Int) ≤ (M 1 6) ∧ (M 1 6) < (7 : Int)) ∧ (0 ≤ x1 ∧ x1 < 108) ∧ (m_ir (x1 + 1)) ∧ X_ kk_X5_mostWorth 6 [v_P 48, v_I (x1 + 1), v_U, v_U] [] (m_up M (53 + (M 1 6).toNat) x1.toNat 0) Q)) : X_ kk_X5_mostWorth 6 [v_P 48, v_I x1, v_U, v_U] [] M Q := by
  refine x_iload_n dX5_mostWorth_6 rfl rfl ?_
  refine x_aload_n dX5_mostWorth_7 rfl rfl ?_
  refine x_getI dX5_mostWorth_8 sh_48 cf_X5 fl_X5_33 (by decide) (by decide) ?_
  refine x_ic_ge (tgt := 35) dX5_mostWorth_11 (by decide) (fun hc => ?_) (fun hc => ?_)
  · replace h := h.1 hc
    refine x_aload_n dX5_mostWorth_35 rfl rfl ?_
    refine y_getP dX5_mostWorth_36 sh_48 cf_X5 fl_X5_26 (by decide) (by decide) gg_48_0 ?_
    refine x_getI dX5_mostWorth_39 sh_1 cf_X6 fl_X5_37 (by decide) (by decide) ?_
    refine x_iconst dX5_mostWorth_42 (by decide) ?_
    obtain ⟨s1, h⟩ := h
    refine x_isub dX5_mostWorth_43 s1 ?_
    refine y_istore_n (ls' := [v_P 48, v_I ((M 1 6) - 1), v_U, v_U]) dX5_mostWorth_44 rfl (by decide) rfl ?_
    exact h
  · replace h := h.2 hc
    refine x_aload_n dX5_mostWorth_14 rfl rfl ?_
    refine y_getP dX5_mostWorth_15 sh_48 cf_X5 fl_X5_23 (by decide) (by decide) gg_48_4 ?_
    refine x_aload_n dX5_mostWorth_18 rfl rfl ?_
    refine y_getP dX5_mostWorth_19 sh_48 cf_X5 fl_X5_26 (by decide) (by decide) gg_48_0 ?_
    refine x_getI dX5_mostWorth_22 sh_1 cf_X6 fl_X5_37 (by decide) (by decide) ?_
    obtain ⟨s2, h⟩ := h
    refine y_aaldD dX5_mostWorth_25 s2 ?_
    have g3 := sh_best (j := (M 1 6).toNat) (by clear h; omega)
    refine x_iload_n dX5_mostWorth_26 rfl rfl ?_
    refine x_iconst dX5_mostWorth_27 (by decide) ?_
    obtain ⟨s4, h⟩ := h
    refine x_iast dX5_mostWorth_28 g3 s4 ?_
    obtain ⟨s5, h⟩ := h
    refine y_iinc (ls' := [v_P 48, v_I (x1 + 1), v_U, v_U]) dX5_mostWorth_29 rfl s5 (by decide) rfl ?_
    refine x_goto (tgt := 6) dX5_mostWorth_32 (by decide) ?_
    exact h
theorem wp_X5_mostWorth_45 {x1 : Int} {M : mM} {Q : Int → mM → Prop} (h : (x1 < 0 → ((0 : Int) ≤ 0 ∧ 0 < (7 : Int)) ∧ (m_ir ((M 48 5) - 1)) ∧ (0 ≤ ((M 48 5) - 1) ∧ ((M 48 5) - 1) < 108) ∧ Q (M (53 + (0 : Int).toNat) (((M 48 5) - 1).toNat)) M) ∧ (¬ x1 < 0 → (m_ir (x1 + 1)) ∧ ((0 : Int) ≤ (x1 + 1) ∧ (x1 + 1) < (7 : Int)) ∧ ((0 : Int) ≤ x1 ∧ x1 < (7 : Int)) ∧ (((0 : Int) ≤ 0 ∧ (0 : Int) ≤ 0 ∧ (0 : Int) ≤ (M 48 5)) ∧ 0 + (M 48 5) ≤ (108 : Nat) ∧ 0 + (M 48 5) ≤ (108 : Nat)) ∧ ∀ M11 : mM, M11 = m_cp M (53 + (x1 + 1).toNat) (Int.toNat 0) (53 + x1.toNat) (Int.toNat 0) (Int.toNat (M 48 5)) → ((0 : Int) ≤ x1 ∧ x1 < (6 : Int)) ∧ X_ kk_X5_mostWorth 84 [v_P 48, v_I x1, v_P (8 + 3 * x1.toNat), v_I 0] [] M11 Q)) : X_ kk_X5_mostWorth 45 [v_P 48, v_I x1, v_U, v_U] [] M Q := by
  refine x_iload_n dX5_mostWorth_45 rfl rfl ?_
  refine x_if_lt (tgt := 129) dX5_mostWorth_46 (by decide) (fun hc => ?_) (fun hc => ?_)
  · replace h := h.1 hc
    refine x_aload_n dX5_mostWorth_129 rfl rfl ?_
    refine y_getP dX5_mostWorth_130 sh_48 cf_X5 fl_X5_23 (by decide) (by decide) gg_48_4 ?_
    refine x_iconst dX5_mostWorth_133 (by decide) ?_
    obtain ⟨s1, h⟩ := h
    refine y_aaldD dX5_mostWorth_134 s1 ?_
    have g2 := sh_best (j := (0 : Int).toNat) (by clear h; omega)
    refine x_aload_n dX5_mostWorth_135 rfl rfl ?_
    refine x_getI dX5_mostWorth_136 sh_48 cf_X5 fl_X5_33 (by decide) (by decide) ?_
    refine x_iconst dX5_mostWorth_139 (by decide) ?_
    obtain ⟨s3, h⟩ := h
    refine x_isub dX5_mostWorth_140 s3 ?_
    obtain ⟨s4, h⟩ := h
    refine x_iald dX5_mostWorth_141 g2 s4 ?_
    refine x_iret dX5_mostWorth_142 rfl (Or.inl rfl) (fun _ _ => h)
  · replace h := h.2 hc
    refine x_aload_n dX5_mostWorth_49 rfl rfl ?_
    refine y_getP dX5_mostWorth_50 sh_48 cf_X5 fl_X5_23 (by decide) (by decide) gg_48_4 ?_
    refine x_iload_n dX5_mostWorth_53 rfl rfl ?_
    refine x_iconst dX5_mostWorth_54 (by decide) ?_
    obtain ⟨s5, h⟩ := h
    refine x_iadd dX5_mostWorth_55 s5 ?_
    obtain ⟨s6, h⟩ := h
    refine y_aaldD dX5_mostWorth_56 s6 ?_
    have g7 := sh_best (j := (x1 + 1).toNat) (by clear h; omega)
    refine x_iconst dX5_mostWorth_57 (by decide) ?_
    refine x_aload_n dX5_mostWorth_58 rfl rfl ?_
    refine y_getP dX5_mostWorth_59 sh_48 cf_X5 fl_X5_23 (by decide) (by decide) gg_48_4 ?_
    refine x_iload_n dX5_mostWorth_62 rfl rfl ?_
    obtain ⟨s8, h⟩ := h
    refine y_aaldD dX5_mostWorth_63 s8 ?_
    have g9 := sh_best (j := x1.toNat) (by clear h; omega)
    refine x_iconst dX5_mostWorth_64 (by decide) ?_
    refine x_aload_n dX5_mostWorth_65 rfl rfl ?_
    refine x_getI dX5_mostWorth_66 sh_48 cf_X5 fl_X5_33 (by decide) (by decide) ?_
    obtain ⟨s10, h⟩ := h
    refine x_copy dX5_mostWorth_69 (m_in3 (List.mem_of_getElem? (i := 169) rfl) rfl) (by decide) (by decide) g7 g9 s10 ?_
    obtain ⟨M11, e12⟩ : ∃ z : mM, z = m_cp M (53 + (x1 + 1).toNat) (Int.toNat 0) (53 + x1.toNat) (Int.toNat 0) (Int.toNat (M 48 5)) := ⟨_, rfl⟩
    rw [← e12]
    replace h := h M11 e12
    refine x_aload_n dX5_mostWorth_72 rfl rfl ?_
    refine y_getP dX5_mostWorth_73 sh_48 cf_X5 fl_X5_26 (by decide) (by decide) gg_48_0 ?_
    refine y_getP dX5_mostWorth_76 sh_1 cf_X6 fl_X5_48 (by decide) (by decide) gg_1_7 ?_
    refine x_iload_n dX5_mostWorth_79 rfl rfl ?_
    obtain ⟨s13, h⟩ := h
    refine y_aaldB dX5_mostWorth_80 s13 ?_
    have g14 := isB_at (j := x1.toNat) (by clear h; omega)
    refine y_astore_n (ls' := [v_P 48, v_I x1, v_P (8 + 3 * x1.toNat), v_U]) dX5_mostWorth_81 rfl (by decide) rfl ?_
    refine x_iconst dX5_mostWorth_82 (by decide) ?_
    refine y_istore_n (ls' := [v_P 48, v_I x1, v_P (8 + 3 * x1.toNat), v_I 0]) dX5_mostWorth_83 rfl (by decide) rfl ?_
    exact h
theorem wp_X5_mostWorth_84 {x1 x3 : Int} {q2 : Nat} {M : mM} {Q : Int → mM → Prop} (hq2 : m_isB q2) (h : ((M q2 3) ≤ x3 → (m_ir (x1 + (-1))) ∧ X_ kk_X5_mostWorth 45 [v_P 48, v_I (x1 + (-1)), v_U, v_U] [] M Q) ∧ (¬ (M q2 3) ≤ x3 → ∃ Qc2 : Int → mM → Prop, C_ kk_X1_isThere [v_P q2, v_I x3] M Qc2 ∧ ∀ (r3 : Int) (M4 : mM), m_ir r3 → m_okM M4 → Qc2 r3 M4 → (r3 = 0 → (m_ir (x3 + 1)) ∧ X_ kk_X5_mostWorth 84 [v_P 48, v_I x1, v_P q2, v_I (x3 + 1)] [] M4 Q) ∧ (¬ r3 = 0 → (0 ≤ x3 ∧ x3 < 6) ∧ (0 ≤ x3 ∧ x3 < 6) ∧ ∃ Qc12 : Int → mM → Prop, C_ kk_X5_serve [v_P 48, v_I x1, v_I (M4 (q2 + 1) x3.toNat), v_I (M4 (q2 + 2) x3.toNat)] M4 Qc12 ∧ ∀ (r13 : Int) (M14 : mM), m_ir r13 → m_okM M14 → Qc12 r13 M14 → (m_ir (x3 + 1)) ∧ X_ kk_X5_mostWorth 84 [v_P 48, v_I x1, v_P q2, v_I (x3 + 1)] [] M14 Q))) : X_ kk_X5_mostWorth 84 [v_P 48, v_I x1, v_P q2, v_I x3] [] M Q := by
  have hq2_r := isB_rng hq2
  refine x_iload_n dX5_mostWorth_84 rfl rfl ?_
  refine x_aload_n dX5_mostWorth_85 rfl rfl ?_
  refine x_getI dX5_mostWorth_86 (hq2).1 cf_X1 fl_X5_52 (by decide) (by decide) ?_
  refine x_ic_ge (tgt := 123) dX5_mostWorth_89 (by decide) (fun hc => ?_) (fun hc => ?_)
  · replace h := h.1 hc
    obtain ⟨s1, h⟩ := h
    refine y_iinc (ls' := [v_P 48, v_I (x1 + (-1)), v_P q2, v_I x3]) dX5_mostWorth_123 rfl s1 (by decide) rfl ?_
    refine x_goto (tgt := 45) dX5_mostWorth_126 (by decide) ?_
    refine y_forget 2 (ls' := [v_P 48, v_I (x1 + (-1)), v_U, v_I x3]) rfl ?_
    refine y_forget 3 (ls' := [v_P 48, v_I (x1 + (-1)), v_U, v_U]) rfl ?_
    exact h
  · replace h := h.2 hc
    refine x_aload_n dX5_mostWorth_92 rfl rfl ?_
    refine x_iload_n dX5_mostWorth_93 rfl rfl ?_
    obtain ⟨Qc2, hc5, h⟩ := h
    refine x_callV (as := [v_I x3]) (st := []) (Qc := Qc2) dX5_mostWorth_94 mt_X1_isThere ml_X5_57 ⟨by decide, by decide⟩ (hq2).1 rfl (fun _ _ => Nat.le_of_ble_eq_true rfl) hc5 (fun r3 M4 hr6 hM7 hq8 => ?_)
    replace h := h r3 M4 hr6 hM7 hq8
    change X_ kk_X5_mostWorth 97 [v_P 48, v_I x1, v_P q2, v_I x3] [v_I r3] M4 Q
    refine x_if_eq (tgt := 117) dX5_mostWorth_97 (by decide) (fun hc => ?_) (fun hc => ?_)
    · replace h := h.1 hc
      obtain ⟨s9, h⟩ := h
      refine y_iinc (ls' := [v_P 48, v_I x1, v_P q2, v_I (x3 + 1)]) dX5_mostWorth_117 rfl s9 (by decide) rfl ?_
      refine x_goto (tgt := 84) dX5_mostWorth_120 (by decide) ?_
      exact h
    · replace h := h.2 hc
      refine x_aload_n dX5_mostWorth_100 rfl rfl ?_
      refine x_iload_n dX5_mostWorth_101 rfl rfl ?_
      refine x_aload_n dX5_mostWorth_102 rfl rfl ?_
      refine y_getP dX5_mostWorth_103 (hq2).1 cf_X1 fl_X5_61 (by decide) (by decide) (hq2).2.1 ?_
      refine x_iload_n dX5_mostWorth_106 rfl rfl ?_
      obtain ⟨s10, h⟩ := h
      refine x_iald dX5_mostWorth_107 (hq2).2.2.2.1 s10 ?_
      refine x_aload_n dX5_mostWorth_108 rfl rfl ?_
      refine y_getP dX5_mostWorth_109 (hq2).1 cf_X1 fl_X5_64 (by decide) (by decide) (hq2).2.2.1 ?_
      refine x_iload_n dX5_mostWorth_112 rfl rfl ?_
      obtain ⟨s11, h⟩ := h
      refine x_iald dX5_mostWorth_113 (hq2).2.2.2.2 s11 ?_
      obtain ⟨Qc12, hc15, h⟩ := h
      refine x_callV (as := [v_I x1, v_I (M4 (q2 + 1) x3.toNat), v_I (M4 (q2 + 2) x3.toNat)]) (st := []) (Qc := Qc12) dX5_mostWorth_114 mt_X5_serve ml_X5_67 ⟨by decide, by decide⟩ sh_48 rfl (fun _ _ => Nat.le_of_ble_eq_true rfl) hc15 (fun r13 M14 hr16 hM17 hq18 => ?_)
      replace h := h r13 M14 hr16 hM17 hq18
      change X_ kk_X5_mostWorth 117 [v_P 48, v_I x1, v_P q2, v_I x3] [] M14 Q
      obtain ⟨s19, h⟩ := h
      refine y_iinc (ls' := [v_P 48, v_I x1, v_P q2, v_I (x3 + 1)]) dX5_mostWorth_117 rfl s19 (by decide) rfl ?_
      refine x_goto (tgt := 84) dX5_mostWorth_120 (by decide) ?_
      exact h
theorem wp_X5_share_0 {M : mM} {Q : Int → mM → Prop} (h : ∃ Qc1 : Int → mM → Prop, C_ kk_X6_allLots [v_P 1] M Qc1 ∧ ∀ (r2 : Int) (M3 : mM), m_ir r2 → m_okM M3 → Qc1 r2 M3 → (m_ir ((M3 48 5) - 1)) ∧ X_ kk_X5_share 17 [v_P 48, v_I r2, v_I ((M3 48 5) - 1), v_I 0] [] M3 Q) : X_ kk_X5_share 0 [v_P 48, v_U, v_U, v_U] [] M Q := by
  refine x_aload_n dX5_share_0 rfl rfl ?_
  refine y_getP dX5_share_1 sh_48 cf_X5 fl_X5_26 (by decide) (by decide) gg_48_0 ?_
  obtain ⟨Qc1, hc4, h⟩ := h
  refine x_callV (as := []) (st := []) (Qc := Qc1) dX5_share_4 mt_X6_allLots ml_X5_71 ⟨by decide, by decide⟩ sh_1 rfl (fun _ _ => Nat.le_of_ble_eq_true rfl) hc4 (fun r2 M3 hr5 hM6 hq7 => ?_)
  replace h := h r2 M3 hr5 hM6 hq7
  change X_ kk_X5_share 7 [v_P 48, v_U, v_U, v_U] [v_I r2] M3 Q
  refine y_istore_n (ls' := [v_P 48, v_I r2, v_U, v_U]) dX5_share_7 rfl (by decide) rfl ?_
  refine x_aload_n dX5_share_8 rfl rfl ?_
  refine x_getI dX5_share_9 sh_48 cf_X5 fl_X5_33 (by decide) (by decide) ?_
  refine x_iconst dX5_share_12 (by decide) ?_
  obtain ⟨s8, h⟩ := h
  refine x_isub dX5_share_13 s8 ?_
  refine y_istore_n (ls' := [v_P 48, v_I r2, v_I ((M3 48 5) - 1), v_U]) dX5_share_14 rfl (by decide) rfl ?_
  refine x_iconst dX5_share_15 (by decide) ?_
  refine y_istore_n (ls' := [v_P 48, v_I r2, v_I ((M3 48 5) - 1), v_I 0]) dX5_share_16 rfl (by decide) rfl ?_
  exact h
theorem wp_X5_share_17 {x1 x2 x3 : Int} {M : mM} {Q : Int → mM → Prop} (h : ((M 1 6) ≤ x3 → Q 0 M) ∧ (¬ (M 1 6) ≤ x3 → ∃ Qc1 : Int → mM → Prop, C_ kk_X5_leastHeap [v_P 48, v_I x3, v_I x1, v_I x2] M Qc1 ∧ ∀ (r2 : Int) (M3 : mM), m_ir r2 → m_okM M3 → Qc1 r2 M3 → (0 ≤ x3 ∧ x3 < 6) ∧ (0 ≤ x3 ∧ x3 < 6) ∧ (0 ≤ x3 ∧ x3 < 6) ∧ ∃ Qc11 : Int → mM → Prop, C_ kk_X6_countsOf [v_P 1, v_I r2] (m_up M3 49 x3.toNat r2) Qc11 ∧ ∀ (r12 : Int) (M13 : mM), m_ir r12 → m_okM M13 → Qc11 r12 M13 → ∃ Qc18 : Int → mM → Prop, C_ kk_X5_distance [v_P 48, v_I r12] M13 Qc18 ∧ ∀ (r19 : Int) (M20 : mM), m_ir r19 → m_okM M20 → Qc18 r19 M20 → (m_ir (x2 - r19)) ∧ (m_ir (x3 + 1)) ∧ X_ kk_X5_share 17 [v_P 48, v_I (m_and x1 (m_xor r2 (-1))), v_I (x2 - r19), v_I (x3 + 1)] [] M20 Q)) : X_ kk_X5_share 17 [v_P 48, v_I x1, v_I x2, v_I x3] [] M Q := by
  refine x_iload_n dX5_share_17 rfl rfl ?_
  refine x_aload_n dX5_share_18 rfl rfl ?_
  refine y_getP dX5_share_19 sh_48 cf_X5 fl_X5_26 (by decide) (by decide) gg_48_0 ?_
  refine x_getI dX5_share_22 sh_1 cf_X6 fl_X5_37 (by decide) (by decide) ?_
  refine x_ic_ge (tgt := 78) dX5_share_25 (by decide) (fun hc => ?_) (fun hc => ?_)
  · replace h := h.1 hc
    refine x_ret dX5_share_78 rfl (fun _ => h)
  · replace h := h.2 hc
    refine x_aload_n dX5_share_28 rfl rfl ?_
    refine y_getP dX5_share_29 sh_48 cf_X5 fl_X5_9 (by decide) (by decide) gg_48_1 ?_
    refine x_iload_n dX5_share_32 rfl rfl ?_
    refine x_aload_n dX5_share_33 rfl rfl ?_
    refine x_iload_n dX5_share_34 rfl rfl ?_
    refine x_iload_n dX5_share_35 rfl rfl ?_
    refine x_iload_n dX5_share_36 rfl rfl ?_
    obtain ⟨Qc1, hc4, h⟩ := h
    refine x_callV (as := [v_I x3, v_I x1, v_I x2]) (st := [v_I x3, v_P 49]) (Qc := Qc1) dX5_share_37 mt_X5_leastHeap ml_X5_75 ⟨by decide, by decide⟩ sh_48 rfl (fun _ _ => Nat.le_of_ble_eq_true rfl) hc4 (fun r2 M3 hr5 hM6 hq7 => ?_)
    replace h := h r2 M3 hr5 hM6 hq7
    change X_ kk_X5_share 40 [v_P 48, v_I x1, v_I x2, v_I x3] [v_I r2, v_I x3, v_P 49] M3 Q
    obtain ⟨s8, h⟩ := h
    refine x_iast dX5_share_40 sh_49 s8 ?_
    refine x_iload_n dX5_share_41 rfl rfl ?_
    refine x_aload_n dX5_share_42 rfl rfl ?_
    refine y_getP dX5_share_43 sh_48 cf_X5 fl_X5_9 (by decide) (by decide) gg_48_1 ?_
    refine x_iload_n dX5_share_46 rfl rfl ?_
    obtain ⟨s9, h⟩ := h
    refine y_iald (v := r2) dX5_share_47 sh_49 s9 (m_up_same _ _ _ _) ?_
    refine x_iconst dX5_share_48 (by decide) ?_
    refine x_ixor dX5_share_49 ?_
    refine x_iand dX5_share_50 ?_
    refine y_istore_n (ls' := [v_P 48, v_I (m_and x1 (m_xor r2 (-1))), v_I x2, v_I x3]) dX5_share_51 rfl (by decide) rfl ?_
    refine x_iload_n dX5_share_52 rfl rfl ?_
    refine x_aload_n dX5_share_53 rfl rfl ?_
    refine x_aload_n dX5_share_54 rfl rfl ?_
    refine y_getP dX5_share_55 sh_48 cf_X5 fl_X5_26 (by decide) (by decide) gg_48_0 ?_
    refine x_aload_n dX5_share_58 rfl rfl ?_
    refine y_getP dX5_share_59 sh_48 cf_X5 fl_X5_9 (by decide) (by decide) gg_48_1 ?_
    refine x_iload_n dX5_share_62 rfl rfl ?_
    obtain ⟨s10, h⟩ := h
    refine y_iald (v := r2) dX5_share_63 sh_49 s10 (m_up_same _ _ _ _) ?_
    obtain ⟨Qc11, hc14, h⟩ := h
    refine x_callV (as := [v_I r2]) (st := [v_P 48, v_I x2]) (Qc := Qc11) dX5_share_64 mt_X6_countsOf ml_X5_79 ⟨by decide, by decide⟩ sh_1 rfl (fun _ _ => Nat.le_of_ble_eq_true rfl) hc14 (fun r12 M13 hr15 hM16 hq17 => ?_)
    replace h := h r12 M13 hr15 hM16 hq17
    change X_ kk_X5_share 67 [v_P 48, v_I (m_and x1 (m_xor r2 (-1))), v_I x2, v_I x3] [v_I r12, v_P 48, v_I x2] M13 Q
    obtain ⟨Qc18, hc21, h⟩ := h
    refine x_callV (as := [v_I r12]) (st := [v_I x2]) (Qc := Qc18) dX5_share_67 mt_X5_distance ml_X5_83 ⟨by decide, by decide⟩ sh_48 rfl (fun _ _ => Nat.le_of_ble_eq_true rfl) hc21 (fun r19 M20 hr22 hM23 hq24 => ?_)
    replace h := h r19 M20 hr22 hM23 hq24
    change X_ kk_X5_share 70 [v_P 48, v_I (m_and x1 (m_xor r2 (-1))), v_I x2, v_I x3] [v_I r19, v_I x2] M20 Q
    obtain ⟨s25, h⟩ := h
    refine x_isub dX5_share_70 s25 ?_
    refine y_istore_n (ls' := [v_P 48, v_I (m_and x1 (m_xor r2 (-1))), v_I (x2 - r19), v_I x3]) dX5_share_71 rfl (by decide) rfl ?_
    obtain ⟨s26, h⟩ := h
    refine y_iinc (ls' := [v_P 48, v_I (m_and x1 (m_xor r2 (-1))), v_I (x2 - r19), v_I (x3 + 1)]) dX5_share_72 rfl s26 (by decide) rfl ?_
    refine x_goto (tgt := 17) dX5_share_75 (by decide) ?_
    exact h
theorem wp_X5_layOut_0 {M : mM} {Q : Int → mM → Prop} (h : ∃ Qc1 : Int → mM → Prop, C_ kk_X6_allLots [v_P 1] M Qc1 ∧ ∀ (r2 : Int) (M3 : mM), m_ir r2 → m_okM M3 → Qc1 r2 M3 → ∃ Qc8 : Int → mM → Prop, C_ kk_X6_countsOf [v_P 1, v_I r2] M3 Qc8 ∧ ∀ (r9 : Int) (M10 : mM), m_ir r9 → m_okM M10 → Qc8 r9 M10 → X_ kk_X5_layOut 29 [v_P 48, v_I r9, v_I 0, v_U] [] (m_up (m_up M10 51 (Int.toNat 0) 0) 48 5 1) Q) : X_ kk_X5_layOut 0 [v_P 48, v_U, v_U, v_U] [] M Q := by
  refine x_aload_n dX5_layOut_0 rfl rfl ?_
  refine y_getP dX5_layOut_1 sh_48 cf_X5 fl_X5_26 (by decide) (by decide) gg_48_0 ?_
  refine x_aload_n dX5_layOut_4 rfl rfl ?_
  refine y_getP dX5_layOut_5 sh_48 cf_X5 fl_X5_26 (by decide) (by decide) gg_48_0 ?_
  obtain ⟨Qc1, hc4, h⟩ := h
  refine x_callV (as := []) (st := [v_P 1]) (Qc := Qc1) dX5_layOut_8 mt_X6_allLots ml_X5_71 ⟨by decide, by decide⟩ sh_1 rfl (fun _ _ => Nat.le_of_ble_eq_true rfl) hc4 (fun r2 M3 hr5 hM6 hq7 => ?_)
  replace h := h r2 M3 hr5 hM6 hq7
  change X_ kk_X5_layOut 11 [v_P 48, v_U, v_U, v_U] [v_I r2, v_P 1] M3 Q
  obtain ⟨Qc8, hc11, h⟩ := h
  refine x_callV (as := [v_I r2]) (st := []) (Qc := Qc8) dX5_layOut_11 mt_X6_countsOf ml_X5_79 ⟨by decide, by decide⟩ sh_1 rfl (fun _ _ => Nat.le_of_ble_eq_true rfl) hc11 (fun r9 M10 hr12 hM13 hq14 => ?_)
  replace h := h r9 M10 hr12 hM13 hq14
  change X_ kk_X5_layOut 14 [v_P 48, v_U, v_U, v_U] [v_I r9] M10 Q
  refine y_istore_n (ls' := [v_P 48, v_I r9, v_U, v_U]) dX5_layOut_14 rfl (by decide) rfl ?_
  refine x_aload_n dX5_layOut_15 rfl rfl ?_
  refine y_getP dX5_layOut_16 sh_48 cf_X5 fl_X5_18 (by decide) (by decide) gg_48_3 ?_
  refine x_iconst dX5_layOut_19 (by decide) ?_
  refine x_iconst dX5_layOut_20 (by decide) ?_
  refine x_iast dX5_layOut_21 sh_51 ⟨by decide, by decide⟩ ?_
  refine x_aload_n dX5_layOut_22 rfl rfl ?_
  refine x_iconst dX5_layOut_23 (by decide) ?_
  refine x_putI dX5_layOut_24 sh_48 cf_X5 fl_X5_33 (by decide) rfl (by decide) (Or.inl rfl) ?_
  refine x_iconst dX5_layOut_27 (by decide) ?_
  refine y_istore_n (ls' := [v_P 48, v_I r9, v_I 0, v_U]) dX5_layOut_28 rfl (by decide) rfl ?_
  exact h
theorem wp_X5_layOut_29 {x1 x2 : Int} {M : mM} {Q : Int → mM → Prop} (h : (5 ≤ x2 → Q 0 M) ∧ (¬ 5 ≤ x2 → (0 ≤ x2 ∧ x2 < 5) ∧ ∃ Qc2 : Int → mM → Prop, C_ kk_X3_of [v_I x1, v_I x2] (m_up M 50 x2.toNat (M 48 5)) Qc2 ∧ ∀ (r3 : Int) (M4 : mM), m_ir r3 → m_okM M4 → Qc2 r3 M4 → (m_ir (r3 + 1)) ∧ (m_ir ((M 48 5) * (r3 + 1))) ∧ (0 ≤ x2 ∧ x2 < 5) ∧ X_ kk_X5_layOut 67 [v_P 48, v_I x1, v_I x2, v_I (M4 50 x2.toNat)] [] (m_up M4 48 5 ((M 48 5) * (r3 + 1))) Q)) : X_ kk_X5_layOut 29 [v_P 48, v_I x1, v_I x2, v_U] [] M Q := by
  refine x_iload_n dX5_layOut_29 rfl rfl ?_
  refine x_iconst dX5_layOut_30 (by decide) ?_
  refine x_ic_ge (tgt := 111) dX5_layOut_31 (by decide) (fun hc => ?_) (fun hc => ?_)
  · replace h := h.1 hc
    refine x_ret dX5_layOut_111 rfl (fun _ => h)
  · replace h := h.2 hc
    refine x_aload_n dX5_layOut_34 rfl rfl ?_
    refine y_getP dX5_layOut_35 sh_48 cf_X5 fl_X5_15 (by decide) (by decide) gg_48_2 ?_
    refine x_iload_n dX5_layOut_38 rfl rfl ?_
    refine x_aload_n dX5_layOut_39 rfl rfl ?_
    refine x_getI dX5_layOut_40 sh_48 cf_X5 fl_X5_33 (by decide) (by decide) ?_
    obtain ⟨s1, h⟩ := h
    refine x_iast dX5_layOut_43 sh_50 s1 ?_
    refine x_aload_n dX5_layOut_44 rfl rfl ?_
    refine x_dup dX5_layOut_45 (fun _ _ => rfl) ?_
    refine y_getI (v := (M 48 5)) dX5_layOut_46 sh_48 cf_X5 fl_X5_33 (by decide) (by decide) (m_up_ne (Or.inl (by decide))) ?_
    refine x_iload_n dX5_layOut_49 rfl rfl ?_
    refine x_iload_n dX5_layOut_50 rfl rfl ?_
    obtain ⟨Qc2, hc5, h⟩ := h
    refine x_callS (as := [v_I x1, v_I x2]) (st := [v_I (M 48 5), v_P 48]) (Qc := Qc2) dX5_layOut_51 mt_X3_of ml_X5_86 ⟨by decide, by decide⟩ (fun _ _ => Nat.le_of_ble_eq_true rfl) hc5 (fun r3 M4 hr6 hM7 hq8 => ?_)
    replace h := h r3 M4 hr6 hM7 hq8
    change X_ kk_X5_layOut 54 [v_P 48, v_I x1, v_I x2, v_U] [v_I r3, v_I (M 48 5), v_P 48] M4 Q
    refine x_iconst dX5_layOut_54 (by decide) ?_
    obtain ⟨s9, h⟩ := h
    refine x_iadd dX5_layOut_55 s9 ?_
    obtain ⟨s10, h⟩ := h
    refine x_imul dX5_layOut_56 s10 ?_
    refine x_putI dX5_layOut_57 sh_48 cf_X5 fl_X5_33 (by decide) rfl (by decide) (Or.inl rfl) ?_
    refine x_aload_n dX5_layOut_60 rfl rfl ?_
    refine y_getP dX5_layOut_61 sh_48 cf_X5 fl_X5_15 (by decide) (by decide) gg_48_2 ?_
    refine x_iload_n dX5_layOut_64 rfl rfl ?_
    obtain ⟨s11, h⟩ := h
    refine y_iald (v := (M4 50 x2.toNat)) dX5_layOut_65 sh_50 s11 (m_up_ne (Or.inl (by decide))) ?_
    refine y_istore_n (ls' := [v_P 48, v_I x1, v_I x2, v_I (M4 50 x2.toNat)]) dX5_layOut_66 rfl (by decide) rfl ?_
    exact h
theorem wp_X5_layOut_67 {x1 x2 x3 : Int} {M : mM} {Q : Int → mM → Prop} (h : ((M 48 5) ≤ x3 → (m_ir (x2 + 1)) ∧ X_ kk_X5_layOut 29 [v_P 48, v_I x1, v_I (x2 + 1), v_U] [] M Q) ∧ (¬ (M 48 5) ≤ x3 → (0 ≤ x2 ∧ x2 < 5) ∧ (m_ir (x3 - (M 50 x2.toNat))) ∧ (0 ≤ (x3 - (M 50 x2.toNat)) ∧ (x3 - (M 50 x2.toNat)) < 108) ∧ ∃ Qc5 : Int → mM → Prop, C_ kk_X3_one [v_I x2] M Qc5 ∧ ∀ (r6 : Int) (M7 : mM), m_ir r6 → m_okM M7 → Qc5 r6 M7 → (m_ir ((M 51 ((x3 - (M 50 x2.toNat)).toNat)) + r6)) ∧ (0 ≤ x3 ∧ x3 < 108) ∧ (m_ir (x3 + 1)) ∧ X_ kk_X5_layOut 67 [v_P 48, v_I x1, v_I x2, v_I (x3 + 1)] [] (m_up M7 51 x3.toNat ((M 51 ((x3 - (M 50 x2.toNat)).toNat)) + r6)) Q)) : X_ kk_X5_layOut 67 [v_P 48, v_I x1, v_I x2, v_I x3] [] M Q := by
  refine x_iload_n dX5_layOut_67 rfl rfl ?_
  refine x_aload_n dX5_layOut_68 rfl rfl ?_
  refine x_getI dX5_layOut_69 sh_48 cf_X5 fl_X5_33 (by decide) (by decide) ?_
  refine x_ic_ge (tgt := 105) dX5_layOut_72 (by decide) (fun hc => ?_) (fun hc => ?_)
  · replace h := h.1 hc
    obtain ⟨s1, h⟩ := h
    refine y_iinc (ls' := [v_P 48, v_I x1, v_I (x2 + 1), v_I x3]) dX5_layOut_105 rfl s1 (by decide) rfl ?_
    refine x_goto (tgt := 29) dX5_layOut_108 (by decide) ?_
    refine y_forget 3 (ls' := [v_P 48, v_I x1, v_I (x2 + 1), v_U]) rfl ?_
    exact h
  · replace h := h.2 hc
    refine x_aload_n dX5_layOut_75 rfl rfl ?_
    refine y_getP dX5_layOut_76 sh_48 cf_X5 fl_X5_18 (by decide) (by decide) gg_48_3 ?_
    refine x_iload_n dX5_layOut_79 rfl rfl ?_
    refine x_aload_n dX5_layOut_80 rfl rfl ?_
    refine y_getP dX5_layOut_81 sh_48 cf_X5 fl_X5_18 (by decide) (by decide) gg_48_3 ?_
    refine x_iload_n dX5_layOut_84 rfl rfl ?_
    refine x_aload_n dX5_layOut_85 rfl rfl ?_
    refine y_getP dX5_layOut_86 sh_48 cf_X5 fl_X5_15 (by decide) (by decide) gg_48_2 ?_
    refine x_iload_n dX5_layOut_89 rfl rfl ?_
    obtain ⟨s2, h⟩ := h
    refine x_iald dX5_layOut_90 sh_50 s2 ?_
    obtain ⟨s3, h⟩ := h
    refine x_isub dX5_layOut_91 s3 ?_
    obtain ⟨s4, h⟩ := h
    refine x_iald dX5_layOut_92 sh_51 s4 ?_
    refine x_iload_n dX5_layOut_93 rfl rfl ?_
    obtain ⟨Qc5, hc8, h⟩ := h
    refine x_callS (as := [v_I x2]) (st := [v_I (M 51 ((x3 - (M 50 x2.toNat)).toNat)), v_I x3, v_P 51]) (Qc := Qc5) dX5_layOut_94 mt_X3_one ml_X5_92 ⟨by decide, by decide⟩ (fun _ _ => Nat.le_of_ble_eq_true rfl) hc8 (fun r6 M7 hr9 hM10 hq11 => ?_)
    replace h := h r6 M7 hr9 hM10 hq11
    change X_ kk_X5_layOut 97 [v_P 48, v_I x1, v_I x2, v_I x3] [v_I r6, v_I (M 51 ((x3 - (M 50 x2.toNat)).toNat)), v_I x3, v_P 51] M7 Q
    obtain ⟨s12, h⟩ := h
    refine x_iadd dX5_layOut_97 s12 ?_
    obtain ⟨s13, h⟩ := h
    refine x_iast dX5_layOut_98 sh_51 s13 ?_
    obtain ⟨s14, h⟩ := h
    refine y_iinc (ls' := [v_P 48, v_I x1, v_I x2, v_I (x3 + 1)]) dX5_layOut_99 rfl s14 (by decide) rfl ?_
    refine x_goto (tgt := 67) dX5_layOut_102 (by decide) ?_
    exact h
theorem wp_X5_distance_0 {x1 : Int} {M : mM} {Q : Int → mM → Prop} (h : X_ kk_X5_distance 4 [v_P 48, v_I x1, v_I 0, v_I 0] [] M Q) : X_ kk_X5_distance 0 [v_P 48, v_I x1, v_U, v_U] [] M Q := by
  refine x_iconst dX5_distance_0 (by decide) ?_
  refine y_istore_n (ls' := [v_P 48, v_I x1, v_I 0, v_U]) dX5_distance_1 rfl (by decide) rfl ?_
  refine x_iconst dX5_distance_2 (by decide) ?_
  refine y_istore_n (ls' := [v_P 48, v_I x1, v_I 0, v_I 0]) dX5_distance_3 rfl (by decide) rfl ?_
  exact h
theorem wp_X5_distance_4 {x1 x2 x3 : Int} {M : mM} {Q : Int → mM → Prop} (h : (5 ≤ x3 → Q x2 M) ∧ (¬ 5 ≤ x3 → ∃ Qc1 : Int → mM → Prop, C_ kk_X3_of [v_I x1, v_I x3] M Qc1 ∧ ∀ (r2 : Int) (M3 : mM), m_ir r2 → m_okM M3 → Qc1 r2 M3 → (0 ≤ x3 ∧ x3 < 5) ∧ (m_ir (r2 * (M3 50 x3.toNat))) ∧ (m_ir (x2 + (r2 * (M3 50 x3.toNat)))) ∧ (m_ir (x3 + 1)) ∧ X_ kk_X5_distance 4 [v_P 48, v_I x1, v_I (x2 + (r2 * (M3 50 x3.toNat))), v_I (x3 + 1)] [] M3 Q)) : X_ kk_X5_distance 4 [v_P 48, v_I x1, v_I x2, v_I x3] [] M Q := by
  refine x_iload_n dX5_distance_4 rfl rfl ?_
  refine x_iconst dX5_distance_5 (by decide) ?_
  refine x_ic_ge (tgt := 30) dX5_distance_6 (by decide) (fun hc => ?_) (fun hc => ?_)
  · replace h := h.1 hc
    refine x_iload_n dX5_distance_30 rfl rfl ?_
    refine x_iret dX5_distance_31 rfl (Or.inl rfl) (fun _ _ => h)
  · replace h := h.2 hc
    refine x_iload_n dX5_distance_9 rfl rfl ?_
    refine x_iload_n dX5_distance_10 rfl rfl ?_
    refine x_iload_n dX5_distance_11 rfl rfl ?_
    obtain ⟨Qc1, hc4, h⟩ := h
    refine x_callS (as := [v_I x1, v_I x3]) (st := [v_I x2]) (Qc := Qc1) dX5_distance_12 mt_X3_of ml_X5_86 ⟨by decide, by decide⟩ (fun _ _ => Nat.le_of_ble_eq_true rfl) hc4 (fun r2 M3 hr5 hM6 hq7 => ?_)
    replace h := h r2 M3 hr5 hM6 hq7
    change X_ kk_X5_distance 15 [v_P 48, v_I x1, v_I x2, v_I x3] [v_I r2, v_I x2] M3 Q
    refine x_aload_n dX5_distance_15 rfl rfl ?_
    refine y_getP dX5_distance_16 sh_48 cf_X5 fl_X5_15 (by decide) (by decide) gg_48_2 ?_
    refine x_iload_n dX5_distance_19 rfl rfl ?_
    obtain ⟨s8, h⟩ := h
    refine x_iald dX5_distance_20 sh_50 s8 ?_
    obtain ⟨s9, h⟩ := h
    refine x_imul dX5_distance_21 s9 ?_
    obtain ⟨s10, h⟩ := h
    refine x_iadd dX5_distance_22 s10 ?_
    refine y_istore_n (ls' := [v_P 48, v_I x1, v_I (x2 + (r2 * (M3 50 x3.toNat))), v_I x3]) dX5_distance_23 rfl (by decide) rfl ?_
    obtain ⟨s11, h⟩ := h
    refine y_iinc (ls' := [v_P 48, v_I x1, v_I (x2 + (r2 * (M3 50 x3.toNat))), v_I (x3 + 1)]) dX5_distance_24 rfl s11 (by decide) rfl ?_
    refine x_goto (tgt := 4) dX5_distance_27 (by decide) ?_
    exact h
theorem wp_X5_serve_0 {x1 x2 x3 : Int} {M : mM} {Q : Int → mM → Prop} (h : ∃ Qc1 : Int → mM → Prop, C_ kk_X5_distance [v_P 48, v_I x3] M Qc1 ∧ ∀ (r2 : Int) (M3 : mM), m_ir r2 → m_okM M3 → Qc1 r2 M3 → X_ kk_X5_serve 11 [v_P 48, v_I x1, v_I x2, v_I x3, v_I r2, v_I r2] [] M3 Q) : X_ kk_X5_serve 0 [v_P 48, v_I x1, v_I x2, v_I x3, v_U, v_U] [] M Q := by
  refine x_aload_n dX5_serve_0 rfl rfl ?_
  refine x_iload_n dX5_serve_1 rfl rfl ?_
  obtain ⟨Qc1, hc4, h⟩ := h
  refine x_callV (as := [v_I x3]) (st := []) (Qc := Qc1) dX5_serve_2 mt_X5_distance ml_X5_83 ⟨by decide, by decide⟩ sh_48 rfl (fun _ _ => Nat.le_of_ble_eq_true rfl) hc4 (fun r2 M3 hr5 hM6 hq7 => ?_)
  replace h := h r2 M3 hr5 hM6 hq7
  change X_ kk_X5_serve 5 [v_P 48, v_I x1, v_I x2, v_I x3, v_U, v_U] [v_I r2] M3 Q
  refine y_istore (ls' := [v_P 48, v_I x1, v_I x2, v_I x3, v_I r2, v_U]) dX5_serve_5 (by decide) rfl ?_
  refine x_iload dX5_serve_7 rfl ?_
  refine y_istore (ls' := [v_P 48, v_I x1, v_I x2, v_I x3, v_I r2, v_I r2]) dX5_serve_9 (by decide) rfl ?_
  exact h
theorem wp_X5_serve_11 {x1 x2 x3 x4 x5 : Int} {M : mM} {Q : Int → mM → Prop} (h : ((M 48 5) ≤ x5 → Q 0 M) ∧ (¬ (M 48 5) ≤ x5 → (0 ≤ x5 ∧ x5 < 108) ∧ ∃ Qc2 : Int → mM → Prop, C_ kk_X3_cover [v_I (M 51 x5.toNat), v_I x3] M Qc2 ∧ ∀ (r3 : Int) (M4 : mM), m_ir r3 → m_okM M4 → Qc2 r3 M4 → (r3 = 0 → (m_ir (x5 + 1)) ∧ X_ kk_X5_serve 11 [v_P 48, v_I x1, v_I x2, v_I x3, v_I x4, v_I (x5 + 1)] [] M4 Q) ∧ (¬ r3 = 0 → ((0 : Int) ≤ x1 ∧ x1 < (7 : Int)) ∧ ((0 : Int) ≤ x1 ∧ x1 < (7 : Int)) ∧ (0 ≤ x5 ∧ x5 < 108) ∧ (m_ir (x1 + 1)) ∧ ((0 : Int) ≤ (x1 + 1) ∧ (x1 + 1) < (7 : Int)) ∧ (m_ir (x5 - x4)) ∧ (0 ≤ (x5 - x4) ∧ (x5 - x4) < 108) ∧ (m_ir (x2 + (M4 (53 + (x1 + 1).toNat) ((x5 - x4).toNat)))) ∧ (0 ≤ x5 ∧ x5 < 108) ∧ ∀ M22 : mM, M22 = m_up M4 (53 + x1.toNat) x5.toNat (max (M4 (53 + x1.toNat) x5.toNat) (x2 + (M4 (53 + (x1 + 1).toNat) ((x5 - x4).toNat)))) → (m_ir (x5 + 1)) ∧ X_ kk_X5_serve 11 [v_P 48, v_I x1, v_I x2, v_I x3, v_I x4, v_I (x5 + 1)] [] M22 Q))) : X_ kk_X5_serve 11 [v_P 48, v_I x1, v_I x2, v_I x3, v_I x4, v_I x5] [] M Q := by
  refine x_iload dX5_serve_11 rfl ?_
  refine x_aload_n dX5_serve_13 rfl rfl ?_
  refine x_getI dX5_serve_14 sh_48 cf_X5 fl_X5_33 (by decide) (by decide) ?_
  refine x_ic_ge (tgt := 77) dX5_serve_17 (by decide) (fun hc => ?_) (fun hc => ?_)
  · replace h := h.1 hc
    refine x_ret dX5_serve_77 rfl (fun _ => h)
  · replace h := h.2 hc
    refine x_aload_n dX5_serve_20 rfl rfl ?_
    refine y_getP dX5_serve_21 sh_48 cf_X5 fl_X5_18 (by decide) (by decide) gg_48_3 ?_
    refine x_iload dX5_serve_24 rfl ?_
    obtain ⟨s1, h⟩ := h
    refine x_iald dX5_serve_26 sh_51 s1 ?_
    refine x_iload_n dX5_serve_27 rfl rfl ?_
    obtain ⟨Qc2, hc5, h⟩ := h
    refine x_callS (as := [v_I (M 51 x5.toNat), v_I x3]) (st := []) (Qc := Qc2) dX5_serve_28 mt_X3_cover ml_X5_95 ⟨by decide, by decide⟩ (fun _ _ => Nat.le_of_ble_eq_true rfl) hc5 (fun r3 M4 hr6 hM7 hq8 => ?_)
    replace h := h r3 M4 hr6 hM7 hq8
    change X_ kk_X5_serve 31 [v_P 48, v_I x1, v_I x2, v_I x3, v_I x4, v_I x5] [v_I r3] M4 Q
    refine x_if_eq (tgt := 71) dX5_serve_31 (by decide) (fun hc => ?_) (fun hc => ?_)
    · replace h := h.1 hc
      obtain ⟨s9, h⟩ := h
      refine y_iinc (ls' := [v_P 48, v_I x1, v_I x2, v_I x3, v_I x4, v_I (x5 + 1)]) dX5_serve_71 rfl s9 (by decide) rfl ?_
      refine x_goto (tgt := 11) dX5_serve_74 (by decide) ?_
      exact h
    · replace h := h.2 hc
      refine x_aload_n dX5_serve_34 rfl rfl ?_
      refine y_getP dX5_serve_35 sh_48 cf_X5 fl_X5_23 (by decide) (by decide) gg_48_4 ?_
      refine x_iload_n dX5_serve_38 rfl rfl ?_
      obtain ⟨s10, h⟩ := h
      refine y_aaldD dX5_serve_39 s10 ?_
      have g11 := sh_best (j := x1.toNat) (by clear h; omega)
      refine x_iload dX5_serve_40 rfl ?_
      refine x_aload_n dX5_serve_42 rfl rfl ?_
      refine y_getP dX5_serve_43 sh_48 cf_X5 fl_X5_23 (by decide) (by decide) gg_48_4 ?_
      refine x_iload_n dX5_serve_46 rfl rfl ?_
      obtain ⟨s12, h⟩ := h
      refine y_aaldD dX5_serve_47 s12 ?_
      have g13 := sh_best (j := x1.toNat) (by clear h; omega)
      refine x_iload dX5_serve_48 rfl ?_
      obtain ⟨s14, h⟩ := h
      refine x_iald dX5_serve_50 g13 s14 ?_
      refine x_iload_n dX5_serve_51 rfl rfl ?_
      refine x_aload_n dX5_serve_52 rfl rfl ?_
      refine y_getP dX5_serve_53 sh_48 cf_X5 fl_X5_23 (by decide) (by decide) gg_48_4 ?_
      refine x_iload_n dX5_serve_56 rfl rfl ?_
      refine x_iconst dX5_serve_57 (by decide) ?_
      obtain ⟨s15, h⟩ := h
      refine x_iadd dX5_serve_58 s15 ?_
      obtain ⟨s16, h⟩ := h
      refine y_aaldD dX5_serve_59 s16 ?_
      have g17 := sh_best (j := (x1 + 1).toNat) (by clear h; omega)
      refine x_iload dX5_serve_60 rfl ?_
      refine x_iload dX5_serve_62 rfl ?_
      obtain ⟨s18, h⟩ := h
      refine x_isub dX5_serve_64 s18 ?_
      obtain ⟨s19, h⟩ := h
      refine x_iald dX5_serve_65 g17 s19 ?_
      obtain ⟨s20, h⟩ := h
      refine x_iadd dX5_serve_66 s20 ?_
      refine x_max (st := [v_I x5, v_P (53 + x1.toNat)]) dX5_serve_67 ml_X5_99 ⟨by decide, by decide⟩ (fun _ _ => Nat.le_of_ble_eq_true rfl) ?_
      change X_ kk_X5_serve 70 [v_P 48, v_I x1, v_I x2, v_I x3, v_I x4, v_I x5] [v_I (max (M4 (53 + x1.toNat) x5.toNat) (x2 + (M4 (53 + (x1 + 1).toNat) ((x5 - x4).toNat)))), v_I x5, v_P (53 + x1.toNat)] M4 Q
      obtain ⟨s21, h⟩ := h
      refine x_iast dX5_serve_70 g13 s21 ?_
      obtain ⟨M22, e23⟩ : ∃ z : mM, z = m_up M4 (53 + x1.toNat) x5.toNat (max (M4 (53 + x1.toNat) x5.toNat) (x2 + (M4 (53 + (x1 + 1).toNat) ((x5 - x4).toNat)))) := ⟨_, rfl⟩
      rw [← e23]
      replace h := h M22 e23
      obtain ⟨s24, h⟩ := h
      refine y_iinc (ls' := [v_P 48, v_I x1, v_I x2, v_I x3, v_I x4, v_I (x5 + 1)]) dX5_serve_71 rfl s24 (by decide) rfl ?_
      refine x_goto (tgt := 11) dX5_serve_74 (by decide) ?_
      exact h
theorem wp_X5_leastHeap_0 {x1 x2 x3 : Int} {M : mM} {Q : Int → mM → Prop} (h : ((0 : Int) ≤ x1 ∧ x1 < (7 : Int)) ∧ (0 ≤ x3 ∧ x3 < 108) ∧ (m_ir (x1 + 1)) ∧ ((0 : Int) ≤ (x1 + 1) ∧ (x1 + 1) < (7 : Int)) ∧ (0 ≤ x3 ∧ x3 < 108) ∧ (¬ (M (53 + (x1 + 1).toNat) x3.toNat) = (M (53 + x1.toNat) x3.toNat) → ((0 : Int) ≤ x1 ∧ x1 < (6 : Int)) ∧ X_ kk_X5_leastHeap 44 [v_P 48, v_I x1, v_I x2, v_I x3, v_I (M (53 + x1.toNat) x3.toNat), v_I x2, v_P (8 + 3 * x1.toNat), v_I 0, v_U] [] M Q) ∧ ((M (53 + (x1 + 1).toNat) x3.toNat) = (M (53 + x1.toNat) x3.toNat) → Q 0 M)) : X_ kk_X5_leastHeap 0 [v_P 48, v_I x1, v_I x2, v_I x3, v_U, v_U, v_U, v_U, v_U] [] M Q := by
  refine x_aload_n dX5_leastHeap_0 rfl rfl ?_
  refine y_getP dX5_leastHeap_1 sh_48 cf_X5 fl_X5_23 (by decide) (by decide) gg_48_4 ?_
  refine x_iload_n dX5_leastHeap_4 rfl rfl ?_
  obtain ⟨s1, h⟩ := h
  refine y_aaldD dX5_leastHeap_5 s1 ?_
  have g2 := sh_best (j := x1.toNat) (by clear h; omega)
  refine x_iload_n dX5_leastHeap_6 rfl rfl ?_
  obtain ⟨s3, h⟩ := h
  refine x_iald dX5_leastHeap_7 g2 s3 ?_
  refine y_istore (ls' := [v_P 48, v_I x1, v_I x2, v_I x3, v_I (M (53 + x1.toNat) x3.toNat), v_U, v_U, v_U, v_U]) dX5_leastHeap_8 (by decide) rfl ?_
  refine x_aload_n dX5_leastHeap_10 rfl rfl ?_
  refine y_getP dX5_leastHeap_11 sh_48 cf_X5 fl_X5_23 (by decide) (by decide) gg_48_4 ?_
  refine x_iload_n dX5_leastHeap_14 rfl rfl ?_
  refine x_iconst dX5_leastHeap_15 (by decide) ?_
  obtain ⟨s4, h⟩ := h
  refine x_iadd dX5_leastHeap_16 s4 ?_
  obtain ⟨s5, h⟩ := h
  refine y_aaldD dX5_leastHeap_17 s5 ?_
  have g6 := sh_best (j := (x1 + 1).toNat) (by clear h; omega)
  refine x_iload_n dX5_leastHeap_18 rfl rfl ?_
  obtain ⟨s7, h⟩ := h
  refine x_iald dX5_leastHeap_19 g6 s7 ?_
  refine x_iload dX5_leastHeap_20 rfl ?_
  refine x_ic_ne (tgt := 27) dX5_leastHeap_22 (by decide) (fun hc => ?_) (fun hc => ?_)
  · replace h := h.1 hc
    refine x_iload_n dX5_leastHeap_27 rfl rfl ?_
    refine y_istore (ls' := [v_P 48, v_I x1, v_I x2, v_I x3, v_I (M (53 + x1.toNat) x3.toNat), v_I x2, v_U, v_U, v_U]) dX5_leastHeap_28 (by decide) rfl ?_
    refine x_aload_n dX5_leastHeap_30 rfl rfl ?_
    refine y_getP dX5_leastHeap_31 sh_48 cf_X5 fl_X5_26 (by decide) (by decide) gg_48_0 ?_
    refine y_getP dX5_leastHeap_34 sh_1 cf_X6 fl_X5_48 (by decide) (by decide) gg_1_7 ?_
    refine x_iload_n dX5_leastHeap_37 rfl rfl ?_
    obtain ⟨s8, h⟩ := h
    refine y_aaldB dX5_leastHeap_38 s8 ?_
    have g9 := isB_at (j := x1.toNat) (by clear h; omega)
    refine y_astore (ls' := [v_P 48, v_I x1, v_I x2, v_I x3, v_I (M (53 + x1.toNat) x3.toNat), v_I x2, v_P (8 + 3 * x1.toNat), v_U, v_U]) dX5_leastHeap_39 (by decide) rfl ?_
    refine x_iconst dX5_leastHeap_41 (by decide) ?_
    refine y_istore (ls' := [v_P 48, v_I x1, v_I x2, v_I x3, v_I (M (53 + x1.toNat) x3.toNat), v_I x2, v_P (8 + 3 * x1.toNat), v_I 0, v_U]) dX5_leastHeap_42 (by decide) rfl ?_
    exact h
  · replace h := h.2 hc
    refine x_iconst dX5_leastHeap_25 (by decide) ?_
    refine x_iret dX5_leastHeap_26 rfl (Or.inl rfl) (fun _ _ => h)
theorem wp_X5_leastHeap_44 {x1 x2 x3 x4 x5 x7 : Int} {q6 : Nat} {M : mM} {Q : Int → mM → Prop} (hq6 : m_isB q6) (h : ((M q6 3) ≤ x7 → Q x5 M) ∧ (¬ (M q6 3) ≤ x7 → ∃ Qc1 : Int → mM → Prop, C_ kk_X1_isThere [v_P q6, v_I x7] M Qc1 ∧ ∀ (r2 : Int) (M3 : mM), m_ir r2 → m_okM M3 → Qc1 r2 M3 → (r2 = 0 → (m_ir (x7 + 1)) ∧ X_ kk_X5_leastHeap 44 [v_P 48, v_I x1, v_I x2, v_I x3, v_I x4, v_I x5, v_P q6, v_I (x7 + 1), v_U] [] M3 Q) ∧ (¬ r2 = 0 → (0 ≤ x3 ∧ x3 < 108) ∧ (0 ≤ x7 ∧ x7 < 6) ∧ ∃ Qc11 : Int → mM → Prop, C_ kk_X3_cover [v_I (M3 51 x3.toNat), v_I (M3 (q6 + 2) x7.toNat)] M3 Qc11 ∧ ∀ (r12 : Int) (M13 : mM), m_ir r12 → m_okM M13 → Qc11 r12 M13 → (r12 = 0 → (m_ir (x7 + 1)) ∧ X_ kk_X5_leastHeap 44 [v_P 48, v_I x1, v_I x2, v_I x3, v_I x4, v_I x5, v_P q6, v_I (x7 + 1), v_U] [] M13 Q) ∧ (¬ r12 = 0 → (0 ≤ x7 ∧ x7 < 6) ∧ (m_ir (x1 + 1)) ∧ ((0 : Int) ≤ (x1 + 1) ∧ (x1 + 1) < (7 : Int)) ∧ (0 ≤ x7 ∧ x7 < 6) ∧ ∃ Qc24 : Int → mM → Prop, C_ kk_X5_distance [v_P 48, v_I (M13 (q6 + 2) x7.toNat)] M13 Qc24 ∧ ∀ (r25 : Int) (M26 : mM), m_ir r25 → m_okM M26 → Qc24 r25 M26 → (m_ir (x3 - r25)) ∧ (0 ≤ (x3 - r25) ∧ (x3 - r25) < 108) ∧ (m_ir ((M13 (q6 + 1) x7.toNat) + (M26 (53 + (x1 + 1).toNat) ((x3 - r25).toNat)))) ∧ (¬ ((M13 (q6 + 1) x7.toNat) + (M26 (53 + (x1 + 1).toNat) ((x3 - r25).toNat))) = x4 → (m_ir (x7 + 1)) ∧ X_ kk_X5_leastHeap 44 [v_P 48, v_I x1, v_I x2, v_I x3, v_I x4, v_I x5, v_P q6, v_I (x7 + 1), v_U] [] M26 Q) ∧ (((M13 (q6 + 1) x7.toNat) + (M26 (53 + (x1 + 1).toNat) ((x3 - r25).toNat))) = x4 → (0 ≤ x7 ∧ x7 < 6) ∧ ∃ Qc36 : Int → mM → Prop, C_ kk_X6_pick [v_P 1, v_I (M26 (q6 + 2) x7.toNat), v_P 6, v_I x2] M26 Qc36 ∧ ∀ (r37 : Int) (M38 : mM), m_ir r37 → m_okM M38 → Qc36 r37 M38 → (0 ≤ r37 → (m_ir (x7 + 1)) ∧ X_ kk_X5_leastHeap 44 [v_P 48, v_I x1, v_I x2, v_I x3, v_I x4, v_I (min x5 r37), v_P q6, v_I (x7 + 1), v_U] [] M38 Q) ∧ (¬ 0 ≤ r37 → (m_ir (x7 + 1)) ∧ X_ kk_X5_leastHeap 44 [v_P 48, v_I x1, v_I x2, v_I x3, v_I x4, v_I x5, v_P q6, v_I (x7 + 1), v_U] [] M38 Q)))))) : X_ kk_X5_leastHeap 44 [v_P 48, v_I x1, v_I x2, v_I x3, v_I x4, v_I x5, v_P q6, v_I x7, v_U] [] M Q := by
  have hq6_r := isB_rng hq6
  refine x_iload dX5_leastHeap_44 rfl ?_
  refine x_aload dX5_leastHeap_46 rfl ?_
  refine x_getI dX5_leastHeap_48 (hq6).1 cf_X1 fl_X5_52 (by decide) (by decide) ?_
  refine x_ic_ge (tgt := 171) dX5_leastHeap_51 (by decide) (fun hc => ?_) (fun hc => ?_)
  · replace h := h.1 hc
    refine x_iload dX5_leastHeap_171 rfl ?_
    refine x_iret dX5_leastHeap_173 rfl (Or.inl rfl) (fun _ _ => h)
  · replace h := h.2 hc
    refine x_aload dX5_leastHeap_54 rfl ?_
    refine x_iload dX5_leastHeap_56 rfl ?_
    obtain ⟨Qc1, hc4, h⟩ := h
    refine x_callV (as := [v_I x7]) (st := []) (Qc := Qc1) dX5_leastHeap_58 mt_X1_isThere ml_X5_57 ⟨by decide, by decide⟩ (hq6).1 rfl (fun _ _ => Nat.le_of_ble_eq_true rfl) hc4 (fun r2 M3 hr5 hM6 hq7 => ?_)
    replace h := h r2 M3 hr5 hM6 hq7
    change X_ kk_X5_leastHeap 61 [v_P 48, v_I x1, v_I x2, v_I x3, v_I x4, v_I x5, v_P q6, v_I x7, v_U] [v_I r2] M3 Q
    refine x_if_eq (tgt := 165) dX5_leastHeap_61 (by decide) (fun hc => ?_) (fun hc => ?_)
    · replace h := h.1 hc
      obtain ⟨s8, h⟩ := h
      refine y_iinc (ls' := [v_P 48, v_I x1, v_I x2, v_I x3, v_I x4, v_I x5, v_P q6, v_I (x7 + 1), v_U]) dX5_leastHeap_165 rfl s8 (by decide) rfl ?_
      refine x_goto (tgt := 44) dX5_leastHeap_168 (by decide) ?_
      exact h
    · replace h := h.2 hc
      refine x_aload_n dX5_leastHeap_64 rfl rfl ?_
      refine y_getP dX5_leastHeap_65 sh_48 cf_X5 fl_X5_18 (by decide) (by decide) gg_48_3 ?_
      refine x_iload_n dX5_leastHeap_68 rfl rfl ?_
      obtain ⟨s9, h⟩ := h
      refine x_iald dX5_leastHeap_69 sh_51 s9 ?_
      refine x_aload dX5_leastHeap_70 rfl ?_
      refine y_getP dX5_leastHeap_72 (hq6).1 cf_X1 fl_X5_64 (by decide) (by decide) (hq6).2.2.1 ?_
      refine x_iload dX5_leastHeap_75 rfl ?_
      obtain ⟨s10, h⟩ := h
      refine x_iald dX5_leastHeap_77 (hq6).2.2.2.2 s10 ?_
      obtain ⟨Qc11, hc14, h⟩ := h
      refine x_callS (as := [v_I (M3 51 x3.toNat), v_I (M3 (q6 + 2) x7.toNat)]) (st := []) (Qc := Qc11) dX5_leastHeap_78 mt_X3_cover ml_X5_95 ⟨by decide, by decide⟩ (fun _ _ => Nat.le_of_ble_eq_true rfl) hc14 (fun r12 M13 hr15 hM16 hq17 => ?_)
      replace h := h r12 M13 hr15 hM16 hq17
      change X_ kk_X5_leastHeap 81 [v_P 48, v_I x1, v_I x2, v_I x3, v_I x4, v_I x5, v_P q6, v_I x7, v_U] [v_I r12] M13 Q
      refine x_if_eq (tgt := 165) dX5_leastHeap_81 (by decide) (fun hc => ?_) (fun hc => ?_)
      · replace h := h.1 hc
        obtain ⟨s18, h⟩ := h
        refine y_iinc (ls' := [v_P 48, v_I x1, v_I x2, v_I x3, v_I x4, v_I x5, v_P q6, v_I (x7 + 1), v_U]) dX5_leastHeap_165 rfl s18 (by decide) rfl ?_
        refine x_goto (tgt := 44) dX5_leastHeap_168 (by decide) ?_
        exact h
      · replace h := h.2 hc
        refine x_aload dX5_leastHeap_84 rfl ?_
        refine y_getP dX5_leastHeap_86 (hq6).1 cf_X1 fl_X5_61 (by decide) (by decide) (hq6).2.1 ?_
        refine x_iload dX5_leastHeap_89 rfl ?_
        obtain ⟨s19, h⟩ := h
        refine x_iald dX5_leastHeap_91 (hq6).2.2.2.1 s19 ?_
        refine x_aload_n dX5_leastHeap_92 rfl rfl ?_
        refine y_getP dX5_leastHeap_93 sh_48 cf_X5 fl_X5_23 (by decide) (by decide) gg_48_4 ?_
        refine x_iload_n dX5_leastHeap_96 rfl rfl ?_
        refine x_iconst dX5_leastHeap_97 (by decide) ?_
        obtain ⟨s20, h⟩ := h
        refine x_iadd dX5_leastHeap_98 s20 ?_
        obtain ⟨s21, h⟩ := h
        refine y_aaldD dX5_leastHeap_99 s21 ?_
        have g22 := sh_best (j := (x1 + 1).toNat) (by clear h; omega)
        refine x_iload_n dX5_leastHeap_100 rfl rfl ?_
        refine x_aload_n dX5_leastHeap_101 rfl rfl ?_
        refine x_aload dX5_leastHeap_102 rfl ?_
        refine y_getP dX5_leastHeap_104 (hq6).1 cf_X1 fl_X5_64 (by decide) (by decide) (hq6).2.2.1 ?_
        refine x_iload dX5_leastHeap_107 rfl ?_
        obtain ⟨s23, h⟩ := h
        refine x_iald dX5_leastHeap_109 (hq6).2.2.2.2 s23 ?_
        obtain ⟨Qc24, hc27, h⟩ := h
        refine x_callV (as := [v_I (M13 (q6 + 2) x7.toNat)]) (st := [v_I x3, v_P (53 + (x1 + 1).toNat), v_I (M13 (q6 + 1) x7.toNat)]) (Qc := Qc24) dX5_leastHeap_110 mt_X5_distance ml_X5_83 ⟨by decide, by decide⟩ sh_48 rfl (fun _ _ => Nat.le_of_ble_eq_true rfl) hc27 (fun r25 M26 hr28 hM29 hq30 => ?_)
        replace h := h r25 M26 hr28 hM29 hq30
        change X_ kk_X5_leastHeap 113 [v_P 48, v_I x1, v_I x2, v_I x3, v_I x4, v_I x5, v_P q6, v_I x7, v_U] [v_I r25, v_I x3, v_P (53 + (x1 + 1).toNat), v_I (M13 (q6 + 1) x7.toNat)] M26 Q
        obtain ⟨s31, h⟩ := h
        refine x_isub dX5_leastHeap_113 s31 ?_
        obtain ⟨s32, h⟩ := h
        refine x_iald dX5_leastHeap_114 g22 s32 ?_
        obtain ⟨s33, h⟩ := h
        refine x_iadd dX5_leastHeap_115 s33 ?_
        refine x_iload dX5_leastHeap_116 rfl ?_
        refine x_ic_ne (tgt := 165) dX5_leastHeap_118 (by decide) (fun hc => ?_) (fun hc => ?_)
        · replace h := h.1 hc
          obtain ⟨s34, h⟩ := h
          refine y_iinc (ls' := [v_P 48, v_I x1, v_I x2, v_I x3, v_I x4, v_I x5, v_P q6, v_I (x7 + 1), v_U]) dX5_leastHeap_165 rfl s34 (by decide) rfl ?_
          refine x_goto (tgt := 44) dX5_leastHeap_168 (by decide) ?_
          exact h
        · replace h := h.2 hc
          refine x_aload_n dX5_leastHeap_121 rfl rfl ?_
          refine y_getP dX5_leastHeap_122 sh_48 cf_X5 fl_X5_26 (by decide) (by decide) gg_48_0 ?_
          refine x_aload dX5_leastHeap_125 rfl ?_
          refine y_getP dX5_leastHeap_127 (hq6).1 cf_X1 fl_X5_64 (by decide) (by decide) (hq6).2.2.1 ?_
          refine x_iload dX5_leastHeap_130 rfl ?_
          obtain ⟨s35, h⟩ := h
          refine x_iald dX5_leastHeap_132 (hq6).2.2.2.2 s35 ?_
          refine x_aload_n dX5_leastHeap_133 rfl rfl ?_
          refine y_getP dX5_leastHeap_134 sh_48 cf_X5 fl_X5_26 (by decide) (by decide) gg_48_0 ?_
          refine y_getP dX5_leastHeap_137 sh_1 cf_X6 fl_X5_104 (by decide) (by decide) gg_1_5 ?_
          refine x_iload_n dX5_leastHeap_140 rfl rfl ?_
          obtain ⟨Qc36, hc39, h⟩ := h
          refine x_callV (as := [v_I (M26 (q6 + 2) x7.toNat), v_P 6, v_I x2]) (st := []) (Qc := Qc36) dX5_leastHeap_141 mt_X6_pick ml_X5_107 ⟨by decide, by decide⟩ sh_1 rfl (fun _ _ => Nat.le_of_ble_eq_true rfl) hc39 (fun r37 M38 hr40 hM41 hq42 => ?_)
          replace h := h r37 M38 hr40 hM41 hq42
          change X_ kk_X5_leastHeap 144 [v_P 48, v_I x1, v_I x2, v_I x3, v_I x4, v_I x5, v_P q6, v_I x7, v_U] [v_I r37] M38 Q
          refine y_istore (ls' := [v_P 48, v_I x1, v_I x2, v_I x3, v_I x4, v_I x5, v_P q6, v_I x7, v_I r37]) dX5_leastHeap_144 (by decide) rfl ?_
          refine x_iload dX5_leastHeap_146 rfl ?_
          refine x_if_ge (tgt := 156) dX5_leastHeap_148 (by decide) (fun hc => ?_) (fun hc => ?_)
          · replace h := h.1 hc
            refine x_iload dX5_leastHeap_156 rfl ?_
            refine x_iload dX5_leastHeap_158 rfl ?_
            refine x_min (st := []) dX5_leastHeap_160 ml_X5_111 ⟨by decide, by decide⟩ (fun _ _ => Nat.le_of_ble_eq_true rfl) ?_
            change X_ kk_X5_leastHeap 163 [v_P 48, v_I x1, v_I x2, v_I x3, v_I x4, v_I x5, v_P q6, v_I x7, v_I r37] [v_I (min x5 r37)] M38 Q
            refine y_istore (ls' := [v_P 48, v_I x1, v_I x2, v_I x3, v_I x4, v_I (min x5 r37), v_P q6, v_I x7, v_I r37]) dX5_leastHeap_163 (by decide) rfl ?_
            obtain ⟨s43, h⟩ := h
            refine y_iinc (ls' := [v_P 48, v_I x1, v_I x2, v_I x3, v_I x4, v_I (min x5 r37), v_P q6, v_I (x7 + 1), v_I r37]) dX5_leastHeap_165 rfl s43 (by decide) rfl ?_
            refine x_goto (tgt := 44) dX5_leastHeap_168 (by decide) ?_
            refine y_forget 8 (ls' := [v_P 48, v_I x1, v_I x2, v_I x3, v_I x4, v_I (min x5 r37), v_P q6, v_I (x7 + 1), v_U]) rfl ?_
            exact h
          · replace h := h.2 hc
            refine x_iload dX5_leastHeap_151 rfl ?_
            refine x_goto (tgt := 163) dX5_leastHeap_153 (by decide) ?_
            refine y_istore (ls' := [v_P 48, v_I x1, v_I x2, v_I x3, v_I x4, v_I x5, v_P q6, v_I x7, v_I r37]) dX5_leastHeap_163 (by decide) rfl ?_
            obtain ⟨s44, h⟩ := h
            refine y_iinc (ls' := [v_P 48, v_I x1, v_I x2, v_I x3, v_I x4, v_I x5, v_P q6, v_I (x7 + 1), v_I r37]) dX5_leastHeap_165 rfl s44 (by decide) rfl ?_
            refine x_goto (tgt := 44) dX5_leastHeap_168 (by decide) ?_
            refine y_forget 8 (ls' := [v_P 48, v_I x1, v_I x2, v_I x3, v_I x4, v_I x5, v_P q6, v_I (x7 + 1), v_U]) rfl ?_
            exact h
theorem wp_X8_look_0 {q0 : Nat} {M : mM} {Q : Int → mM → Prop} (hq0 : m_isP q0) (h : ∃ Qc1 : Int → mM → Prop, C_ kk_X8_sortByPrice [v_P q0] M Qc1 ∧ ∀ (r2 : Int) (M3 : mM), m_ir r2 → m_okM M3 → Qc1 r2 M3 → X_ kk_X8_look 6 [v_P q0, v_I 0] [] M3 Q) : X_ kk_X8_look 0 [v_P q0, v_U] [] M Q := by
  have hq0_r := isP_rng hq0
  refine x_aload_n dX8_look_0 rfl rfl ?_
  obtain ⟨Qc1, hc4, h⟩ := h
  refine x_callV (as := []) (st := []) (Qc := Qc1) dX8_look_1 mt_X8_sortByPrice ml_X8_28 ⟨by decide, by decide⟩ (hq0).1 rfl (fun _ _ => Nat.le_of_ble_eq_true rfl) hc4 (fun r2 M3 hr5 hM6 hq7 => ?_)
  replace h := h r2 M3 hr5 hM6 hq7
  change X_ kk_X8_look 4 [v_P q0, v_U] [] M3 Q
  refine x_iconst dX8_look_4 (by decide) ?_
  refine y_istore_n (ls' := [v_P q0, v_I 0]) dX8_look_5 rfl (by decide) rfl ?_
  exact h
theorem wp_X8_look_6 {x1 : Int} {q0 : Nat} {M : mM} {Q : Int → mM → Prop} (hq0 : m_isP q0) (h : ((M 1 6) ≤ x1 → Q 0 M) ∧ (¬ (M 1 6) ≤ x1 → ((0 : Int) ≤ x1 ∧ x1 < (6 : Int)) ∧ ∃ Qc3 : Int → mM → Prop, C_ kk_X8_like [v_P q0, v_I x1, v_P (8 + 3 * x1.toNat)] M Qc3 ∧ ∀ (r4 : Int) (M5 : mM), m_ir r4 → m_okM M5 → Qc3 r4 M5 → (m_ir (x1 + 1)) ∧ X_ kk_X8_look 6 [v_P q0, v_I (x1 + 1)] [] M5 Q)) : X_ kk_X8_look 6 [v_P q0, v_I x1] [] M Q := by
  have hq0_r := isP_rng hq0
  refine x_iload_n dX8_look_6 rfl rfl ?_
  refine x_aload_n dX8_look_7 rfl rfl ?_
  refine y_getP dX8_look_8 (hq0).1 cf_X8 fl_X8_24 (by decide) (by decide) (hq0).2.1 ?_
  refine x_getI dX8_look_11 sh_1 cf_X6 fl_X8_31 (by decide) (by decide) ?_
  refine x_ic_ge (tgt := 37) dX8_look_14 (by decide) (fun hc => ?_) (fun hc => ?_)
  · replace h := h.1 hc
    refine x_ret dX8_look_37 rfl (fun _ => h)
  · replace h := h.2 hc
    refine x_aload_n dX8_look_17 rfl rfl ?_
    refine x_iload_n dX8_look_18 rfl rfl ?_
    refine x_aload_n dX8_look_19 rfl rfl ?_
    refine y_getP dX8_look_20 (hq0).1 cf_X8 fl_X8_24 (by decide) (by decide) (hq0).2.1 ?_
    refine y_getP dX8_look_23 sh_1 cf_X6 fl_X8_37 (by decide) (by decide) gg_1_7 ?_
    refine x_iload_n dX8_look_26 rfl rfl ?_
    obtain ⟨s1, h⟩ := h
    refine y_aaldB dX8_look_27 s1 ?_
    have g2 := isB_at (j := x1.toNat) (by clear h; omega)
    obtain ⟨Qc3, hc6, h⟩ := h
    refine x_callV (as := [v_I x1, v_P (8 + 3 * x1.toNat)]) (st := []) (Qc := Qc3) dX8_look_28 mt_X8_like ml_X8_41 ⟨by decide, by decide⟩ (hq0).1 rfl (fun _ _ => Nat.le_of_ble_eq_true rfl) hc6 (fun r4 M5 hr7 hM8 hq9 => ?_)
    replace h := h r4 M5 hr7 hM8 hq9
    change X_ kk_X8_look 31 [v_P q0, v_I x1] [] M5 Q
    obtain ⟨s10, h⟩ := h
    refine y_iinc (ls' := [v_P q0, v_I (x1 + 1)]) dX8_look_31 rfl s10 (by decide) rfl ?_
    refine x_goto (tgt := 6) dX8_look_34 (by decide) ?_
    exact h
theorem wp_X8_lack_0 {x1 : Int} {q0 : Nat} {M : mM} {Q : Int → mM → Prop} (hq0 : m_isP q0) (h : (m_ir (-x1)) ∧ X_ kk_X8_lack 5 [v_P q0, v_U, v_I (-x1), v_I 0] [] M Q) : X_ kk_X8_lack 0 [v_P q0, v_I x1, v_U, v_U] [] M Q := by
  have hq0_r := isP_rng hq0
  refine x_iload_n dX8_lack_0 rfl rfl ?_
  obtain ⟨s1, h⟩ := h
  refine x_ineg dX8_lack_1 s1 ?_
  refine y_istore_n (ls' := [v_P q0, v_I x1, v_I (-x1), v_U]) dX8_lack_2 rfl (by decide) rfl ?_
  refine x_iconst dX8_lack_3 (by decide) ?_
  refine y_istore_n (ls' := [v_P q0, v_I x1, v_I (-x1), v_I 0]) dX8_lack_4 rfl (by decide) rfl ?_
  refine y_forget 1 (ls' := [v_P q0, v_U, v_I (-x1), v_I 0]) rfl ?_
  exact h
theorem wp_X8_lack_5 {x2 x3 : Int} {q0 : Nat} {M : mM} {Q : Int → mM → Prop} (hq0 : m_isP q0) (h : ((M 1 6) ≤ x3 → X_ kk_X8_lack 33 [v_P q0, v_U, v_I x2, v_I 0] [] M Q) ∧ (¬ (M 1 6) ≤ x3 → (0 ≤ x3 ∧ x3 < 6) ∧ (m_ir (x2 + (M (q0 + 3) x3.toNat))) ∧ (m_ir (x3 + 1)) ∧ X_ kk_X8_lack 5 [v_P q0, v_U, v_I (x2 + (M (q0 + 3) x3.toNat)), v_I (x3 + 1)] [] M Q)) : X_ kk_X8_lack 5 [v_P q0, v_U, v_I x2, v_I x3] [] M Q := by
  have hq0_r := isP_rng hq0
  refine x_iload_n dX8_lack_5 rfl rfl ?_
  refine x_aload_n dX8_lack_6 rfl rfl ?_
  refine y_getP dX8_lack_7 (hq0).1 cf_X8 fl_X8_24 (by decide) (by decide) (hq0).2.1 ?_
  refine x_getI dX8_lack_10 sh_1 cf_X6 fl_X8_31 (by decide) (by decide) ?_
  refine x_ic_ge (tgt := 31) dX8_lack_13 (by decide) (fun hc => ?_) (fun hc => ?_)
  · replace h := h.1 hc
    refine x_iconst dX8_lack_31 (by decide) ?_
    refine y_istore_n (ls' := [v_P q0, v_U, v_I x2, v_I 0]) dX8_lack_32 rfl (by decide) rfl ?_
    exact h
  · replace h := h.2 hc
    refine x_iload_n dX8_lack_16 rfl rfl ?_
    refine x_aload_n dX8_lack_17 rfl rfl ?_
    refine y_getP dX8_lack_18 (hq0).1 cf_X8 fl_X8_18 (by decide) (by decide) (hq0).2.2.2.2.1 ?_
    refine x_iload_n dX8_lack_21 rfl rfl ?_
    obtain ⟨s1, h⟩ := h
    refine x_iald dX8_lack_22 (hq0).2.2.2.2.2.2.2.2.1 s1 ?_
    obtain ⟨s2, h⟩ := h
    refine x_iadd dX8_lack_23 s2 ?_
    refine y_istore_n (ls' := [v_P q0, v_U, v_I (x2 + (M (q0 + 3) x3.toNat)), v_I x3]) dX8_lack_24 rfl (by decide) rfl ?_
    obtain ⟨s3, h⟩ := h
    refine y_iinc (ls' := [v_P q0, v_U, v_I (x2 + (M (q0 + 3) x3.toNat)), v_I (x3 + 1)]) dX8_lack_25 rfl s3 (by decide) rfl ?_
    refine x_goto (tgt := 5) dX8_lack_28 (by decide) ?_
    exact h
theorem wp_X8_lack_33 {x2 x3 : Int} {q0 : Nat} {M : mM} {Q : Int → mM → Prop} (hq0 : m_isP q0) (h : ((M 1 0) ≤ x3 → Q x2 M) ∧ (¬ (M 1 0) ≤ x3 → (0 ≤ x3 ∧ x3 < 8) ∧ (m_ir (x2 + (M (q0 + 1) x3.toNat))) ∧ (m_ir (x3 + 1)) ∧ X_ kk_X8_lack 33 [v_P q0, v_U, v_I (x2 + (M (q0 + 1) x3.toNat)), v_I (x3 + 1)] [] M Q)) : X_ kk_X8_lack 33 [v_P q0, v_U, v_I x2, v_I x3] [] M Q := by
  have hq0_r := isP_rng hq0
  refine x_iload_n dX8_lack_33 rfl rfl ?_
  refine x_aload_n dX8_lack_34 rfl rfl ?_
  refine y_getP dX8_lack_35 (hq0).1 cf_X8 fl_X8_24 (by decide) (by decide) (hq0).2.1 ?_
  refine x_getI dX8_lack_38 sh_1 cf_X6 fl_X8_45 (by decide) (by decide) ?_
  refine x_ic_ge (tgt := 59) dX8_lack_41 (by decide) (fun hc => ?_) (fun hc => ?_)
  · replace h := h.1 hc
    refine x_iload_n dX8_lack_59 rfl rfl ?_
    refine x_iret dX8_lack_60 rfl (Or.inl rfl) (fun _ _ => h)
  · replace h := h.2 hc
    refine x_iload_n dX8_lack_44 rfl rfl ?_
    refine x_aload_n dX8_lack_45 rfl rfl ?_
    refine y_getP dX8_lack_46 (hq0).1 cf_X8 fl_X8_9 (by decide) (by decide) (hq0).2.2.1 ?_
    refine x_iload_n dX8_lack_49 rfl rfl ?_
    obtain ⟨s1, h⟩ := h
    refine x_iald dX8_lack_50 (hq0).2.2.2.2.2.2.1 s1 ?_
    obtain ⟨s2, h⟩ := h
    refine x_iadd dX8_lack_51 s2 ?_
    refine y_istore_n (ls' := [v_P q0, v_U, v_I (x2 + (M (q0 + 1) x3.toNat)), v_I x3]) dX8_lack_52 rfl (by decide) rfl ?_
    obtain ⟨s3, h⟩ := h
    refine y_iinc (ls' := [v_P q0, v_U, v_I (x2 + (M (q0 + 1) x3.toNat)), v_I (x3 + 1)]) dX8_lack_53 rfl s3 (by decide) rfl ?_
    refine x_goto (tgt := 33) dX8_lack_56 (by decide) ?_
    exact h
theorem wp_X8_raise_0 {x1 : Int} {q0 : Nat} {M : mM} {Q : Int → mM → Prop} (hq0 : m_isP q0) (h : X_ kk_X8_raise 2 [v_P q0, v_I x1, v_I 0, v_U, v_U] [] M Q) : X_ kk_X8_raise 0 [v_P q0, v_I x1, v_U, v_U, v_U] [] M Q := by
  have hq0_r := isP_rng hq0
  refine x_iconst dX8_raise_0 (by decide) ?_
  refine y_istore_n (ls' := [v_P q0, v_I x1, v_I 0, v_U, v_U]) dX8_raise_1 rfl (by decide) rfl ?_
  exact h
theorem wp_X8_raise_2 {x1 x2 : Int} {q0 : Nat} {M : mM} {Q : Int → mM → Prop} (hq0 : m_isP q0) (h : ((M 1 0) ≤ x2 → X_ kk_X8_raise 28 [v_P q0, v_I x1, v_I 0, v_U, v_U] [] M Q) ∧ (¬ (M 1 0) ≤ x2 → (0 ≤ x2 ∧ x2 < 8) ∧ (m_ir (x2 + 1)) ∧ X_ kk_X8_raise 2 [v_P q0, v_I x1, v_I (x2 + 1), v_U, v_U] [] (m_up M (q0 + 1) x2.toNat 0) Q)) : X_ kk_X8_raise 2 [v_P q0, v_I x1, v_I x2, v_U, v_U] [] M Q := by
  have hq0_r := isP_rng hq0
  refine x_iload_n dX8_raise_2 rfl rfl ?_
  refine x_aload_n dX8_raise_3 rfl rfl ?_
  refine y_getP dX8_raise_4 (hq0).1 cf_X8 fl_X8_24 (by decide) (by decide) (hq0).2.1 ?_
  refine x_getI dX8_raise_7 sh_1 cf_X6 fl_X8_45 (by decide) (by decide) ?_
  refine x_ic_ge (tgt := 26) dX8_raise_10 (by decide) (fun hc => ?_) (fun hc => ?_)
  · replace h := h.1 hc
    refine x_iconst dX8_raise_26 (by decide) ?_
    refine y_istore_n (ls' := [v_P q0, v_I x1, v_I 0, v_U, v_U]) dX8_raise_27 rfl (by decide) rfl ?_
    exact h
  · replace h := h.2 hc
    refine x_aload_n dX8_raise_13 rfl rfl ?_
    refine y_getP dX8_raise_14 (hq0).1 cf_X8 fl_X8_9 (by decide) (by decide) (hq0).2.2.1 ?_
    refine x_iload_n dX8_raise_17 rfl rfl ?_
    refine x_iconst dX8_raise_18 (by decide) ?_
    obtain ⟨s1, h⟩ := h
    refine x_iast dX8_raise_19 (hq0).2.2.2.2.2.2.1 s1 ?_
    obtain ⟨s2, h⟩ := h
    refine y_iinc (ls' := [v_P q0, v_I x1, v_I (x2 + 1), v_U, v_U]) dX8_raise_20 rfl s2 (by decide) rfl ?_
    refine x_goto (tgt := 2) dX8_raise_23 (by decide) ?_
    exact h
theorem wp_X8_raise_28 {x1 x2 : Int} {q0 : Nat} {M : mM} {Q : Int → mM → Prop} (hq0 : m_isP q0) (h : (300 < x2 → Q 0 M) ∧ (¬ 300 < x2 → ∃ Qc1 : Int → mM → Prop, C_ kk_X8_look [v_P q0] (m_up M q0 4 x2) Qc1 ∧ ∀ (r2 : Int) (M3 : mM), m_ir r2 → m_okM M3 → Qc1 r2 M3 → ∃ Qc8 : Int → mM → Prop, C_ kk_X8_lack [v_P q0, v_I x1] M3 Qc8 ∧ ∀ (r9 : Int) (M10 : mM), m_ir r9 → m_okM M10 → Qc8 r9 M10 → ∃ Qc15 : Int → mM → Prop, C_ kk_X8_wantedTwice [v_P q0] (m_up M10 q0 5 r9) Qc15 ∧ ∀ (r16 : Int) (M17 : mM), m_ir r16 → m_okM M17 → Qc15 r16 M17 → ((M17 q0 5) = 0 → Q 0 M17) ∧ (¬ (M17 q0 5) = 0 → (r16 = 0 → Q 0 M17) ∧ (¬ r16 = 0 → (¬ x2 = 300 → X_ kk_X8_raise 80 [v_P q0, v_I x1, v_I x2, v_I r16, v_I 0] [] M17 Q) ∧ (x2 = 300 → Q 0 M17))))) : X_ kk_X8_raise 28 [v_P q0, v_I x1, v_I x2, v_U, v_U] [] M Q := by
  have hq0_r := isP_rng hq0
  refine x_iload_n dX8_raise_28 rfl rfl ?_
  refine x_sipush dX8_raise_29 (by decide) (by decide) ?_
  refine x_ic_gt (tgt := 120) dX8_raise_32 (by decide) (fun hc => ?_) (fun hc => ?_)
  · replace h := h.1 hc
    refine x_ret dX8_raise_120 rfl (fun _ => h)
  · replace h := h.2 hc
    refine x_aload_n dX8_raise_35 rfl rfl ?_
    refine x_iload_n dX8_raise_36 rfl rfl ?_
    refine x_putI dX8_raise_37 (hq0).1 cf_X8 fl_X8_48 (by decide) rfl (by decide) (Or.inl rfl) ?_
    refine x_aload_n dX8_raise_40 rfl rfl ?_
    obtain ⟨Qc1, hc4, h⟩ := h
    refine x_callV (as := []) (st := []) (Qc := Qc1) dX8_raise_41 mt_X8_look ml_X8_51 ⟨by decide, by decide⟩ (hq0).1 rfl (fun _ _ => Nat.le_of_ble_eq_true rfl) hc4 (fun r2 M3 hr5 hM6 hq7 => ?_)
    replace h := h r2 M3 hr5 hM6 hq7
    change X_ kk_X8_raise 44 [v_P q0, v_I x1, v_I x2, v_U, v_U] [] M3 Q
    refine x_aload_n dX8_raise_44 rfl rfl ?_
    refine x_aload_n dX8_raise_45 rfl rfl ?_
    refine x_iload_n dX8_raise_46 rfl rfl ?_
    obtain ⟨Qc8, hc11, h⟩ := h
    refine x_callV (as := [v_I x1]) (st := [v_P q0]) (Qc := Qc8) dX8_raise_47 mt_X8_lack ml_X8_54 ⟨by decide, by decide⟩ (hq0).1 rfl (fun _ _ => Nat.le_of_ble_eq_true rfl) hc11 (fun r9 M10 hr12 hM13 hq14 => ?_)
    replace h := h r9 M10 hr12 hM13 hq14
    change X_ kk_X8_raise 50 [v_P q0, v_I x1, v_I x2, v_U, v_U] [v_I r9, v_P q0] M10 Q
    refine x_putI dX8_raise_50 (hq0).1 cf_X8 fl_X8_58 (by decide) rfl (by decide) (Or.inl rfl) ?_
    refine x_aload_n dX8_raise_53 rfl rfl ?_
    obtain ⟨Qc15, hc18, h⟩ := h
    refine x_callV (as := []) (st := []) (Qc := Qc15) dX8_raise_54 mt_X8_wantedTwice ml_X8_61 ⟨by decide, by decide⟩ (hq0).1 rfl (fun _ _ => Nat.le_of_ble_eq_true rfl) hc18 (fun r16 M17 hr19 hM20 hq21 => ?_)
    replace h := h r16 M17 hr19 hM20 hq21
    change X_ kk_X8_raise 57 [v_P q0, v_I x1, v_I x2, v_U, v_U] [v_I r16] M17 Q
    refine y_istore_n (ls' := [v_P q0, v_I x1, v_I x2, v_I r16, v_U]) dX8_raise_57 rfl (by decide) rfl ?_
    refine x_aload_n dX8_raise_58 rfl rfl ?_
    refine x_getI dX8_raise_59 (hq0).1 cf_X8 fl_X8_58 (by decide) (by decide) ?_
    refine x_if_eq (tgt := 76) dX8_raise_62 (by decide) (fun hc => ?_) (fun hc => ?_)
    · replace h := h.1 hc
      refine x_ret dX8_raise_76 rfl (fun _ => h)
    · replace h := h.2 hc
      refine x_iload_n dX8_raise_65 rfl rfl ?_
      refine x_if_eq (tgt := 76) dX8_raise_66 (by decide) (fun hc => ?_) (fun hc => ?_)
      · replace h := h.1 hc
        refine x_ret dX8_raise_76 rfl (fun _ => h)
      · replace h := h.2 hc
        refine x_iload_n dX8_raise_69 rfl rfl ?_
        refine x_sipush dX8_raise_70 (by decide) (by decide) ?_
        refine x_ic_ne (tgt := 77) dX8_raise_73 (by decide) (fun hc => ?_) (fun hc => ?_)
        · replace h := h.1 hc
          refine x_iconst dX8_raise_77 (by decide) ?_
          refine y_istore (ls' := [v_P q0, v_I x1, v_I x2, v_I r16, v_I 0]) dX8_raise_78 (by decide) rfl ?_
          exact h
        · replace h := h.2 hc
          refine x_ret dX8_raise_76 rfl (fun _ => h)
theorem wp_X8_raise_80 {x1 x2 x3 x4 : Int} {q0 : Nat} {M : mM} {Q : Int → mM → Prop} (hq0 : m_isP q0) (h : ((M 1 0) ≤ x4 → (m_ir (x2 + 1)) ∧ X_ kk_X8_raise 28 [v_P q0, v_I x1, v_I (x2 + 1), v_U, v_U] [] M Q) ∧ (¬ (M 1 0) ≤ x4 → (0 ≤ x4 ∧ x4 < 8) ∧ (m_ir ((M (q0 + 1) x4.toNat) + (m_and (m_shr x3 x4) 1))) ∧ (0 ≤ x4 ∧ x4 < 8) ∧ ∀ M5 : mM, M5 = m_up M (q0 + 1) x4.toNat ((M (q0 + 1) x4.toNat) + (m_and (m_shr x3 x4) 1)) → (m_ir (x4 + 1)) ∧ X_ kk_X8_raise 80 [v_P q0, v_I x1, v_I x2, v_I x3, v_I (x4 + 1)] [] M5 Q)) : X_ kk_X8_raise 80 [v_P q0, v_I x1, v_I x2, v_I x3, v_I x4] [] M Q := by
  have hq0_r := isP_rng hq0
  refine x_iload dX8_raise_80 rfl ?_
  refine x_aload_n dX8_raise_82 rfl rfl ?_
  refine y_getP dX8_raise_83 (hq0).1 cf_X8 fl_X8_24 (by decide) (by decide) (hq0).2.1 ?_
  refine x_getI dX8_raise_86 sh_1 cf_X6 fl_X8_45 (by decide) (by decide) ?_
  refine x_ic_ge (tgt := 114) dX8_raise_89 (by decide) (fun hc => ?_) (fun hc => ?_)
  · replace h := h.1 hc
    obtain ⟨s1, h⟩ := h
    refine y_iinc (ls' := [v_P q0, v_I x1, v_I (x2 + 1), v_I x3, v_I x4]) dX8_raise_114 rfl s1 (by decide) rfl ?_
    refine x_goto (tgt := 28) dX8_raise_117 (by decide) ?_
    refine y_forget 3 (ls' := [v_P q0, v_I x1, v_I (x2 + 1), v_U, v_I x4]) rfl ?_
    refine y_forget 4 (ls' := [v_P q0, v_I x1, v_I (x2 + 1), v_U, v_U]) rfl ?_
    exact h
  · replace h := h.2 hc
    refine x_aload_n dX8_raise_92 rfl rfl ?_
    refine y_getP dX8_raise_93 (hq0).1 cf_X8 fl_X8_9 (by decide) (by decide) (hq0).2.2.1 ?_
    refine x_iload dX8_raise_96 rfl ?_
    refine x_dup2 dX8_raise_98 (fun _ _ => rfl) (fun _ _ => rfl) ?_
    obtain ⟨s2, h⟩ := h
    refine x_iald dX8_raise_99 (hq0).2.2.2.2.2.2.1 s2 ?_
    refine x_iload_n dX8_raise_100 rfl rfl ?_
    refine x_iload dX8_raise_101 rfl ?_
    refine x_ishr dX8_raise_103 ?_
    refine x_iconst dX8_raise_104 (by decide) ?_
    refine x_iand dX8_raise_105 ?_
    obtain ⟨s3, h⟩ := h
    refine x_iadd dX8_raise_106 s3 ?_
    obtain ⟨s4, h⟩ := h
    refine x_iast dX8_raise_107 (hq0).2.2.2.2.2.2.1 s4 ?_
    obtain ⟨M5, e6⟩ : ∃ z : mM, z = m_up M (q0 + 1) x4.toNat ((M (q0 + 1) x4.toNat) + (m_and (m_shr x3 x4) 1)) := ⟨_, rfl⟩
    rw [← e6]
    replace h := h M5 e6
    obtain ⟨s7, h⟩ := h
    refine y_iinc (ls' := [v_P q0, v_I x1, v_I x2, v_I x3, v_I (x4 + 1)]) dX8_raise_108 rfl s7 (by decide) rfl ?_
    refine x_goto (tgt := 80) dX8_raise_111 (by decide) ?_
    exact h
theorem wp_X8_wantedTwice_0 {q0 : Nat} {M : mM} {Q : Int → mM → Prop} (hq0 : m_isP q0) (h : X_ kk_X8_wantedTwice 6 [v_P q0, v_I 0, v_I 0, v_I 0] [] M Q) : X_ kk_X8_wantedTwice 0 [v_P q0, v_U, v_U, v_U] [] M Q := by
  have hq0_r := isP_rng hq0
  refine x_iconst dX8_wantedTwice_0 (by decide) ?_
  refine y_istore_n (ls' := [v_P q0, v_I 0, v_U, v_U]) dX8_wantedTwice_1 rfl (by decide) rfl ?_
  refine x_iconst dX8_wantedTwice_2 (by decide) ?_
  refine y_istore_n (ls' := [v_P q0, v_I 0, v_I 0, v_U]) dX8_wantedTwice_3 rfl (by decide) rfl ?_
  refine x_iconst dX8_wantedTwice_4 (by decide) ?_
  refine y_istore_n (ls' := [v_P q0, v_I 0, v_I 0, v_I 0]) dX8_wantedTwice_5 rfl (by decide) rfl ?_
  exact h
theorem wp_X8_wantedTwice_6 {x1 x2 x3 : Int} {q0 : Nat} {M : mM} {Q : Int → mM → Prop} (hq0 : m_isP q0) (h : ((M 1 6) ≤ x3 → Q x2 M) ∧ (¬ (M 1 6) ≤ x3 → (0 ≤ x3 ∧ x3 < 6) ∧ (0 ≤ x3 ∧ x3 < 6) ∧ (m_ir (x3 + 1)) ∧ X_ kk_X8_wantedTwice 6 [v_P q0, v_I (m_or x1 (M (q0 + 2) x3.toNat)), v_I (m_or x2 (m_and x1 (M (q0 + 2) x3.toNat))), v_I (x3 + 1)] [] M Q)) : X_ kk_X8_wantedTwice 6 [v_P q0, v_I x1, v_I x2, v_I x3] [] M Q := by
  have hq0_r := isP_rng hq0
  refine x_iload_n dX8_wantedTwice_6 rfl rfl ?_
  refine x_aload_n dX8_wantedTwice_7 rfl rfl ?_
  refine y_getP dX8_wantedTwice_8 (hq0).1 cf_X8 fl_X8_24 (by decide) (by decide) (hq0).2.1 ?_
  refine x_getI dX8_wantedTwice_11 sh_1 cf_X6 fl_X8_31 (by decide) (by decide) ?_
  refine x_ic_ge (tgt := 43) dX8_wantedTwice_14 (by decide) (fun hc => ?_) (fun hc => ?_)
  · replace h := h.1 hc
    refine x_iload_n dX8_wantedTwice_43 rfl rfl ?_
    refine x_iret dX8_wantedTwice_44 rfl (Or.inl rfl) (fun _ _ => h)
  · replace h := h.2 hc
    refine x_iload_n dX8_wantedTwice_17 rfl rfl ?_
    refine x_iload_n dX8_wantedTwice_18 rfl rfl ?_
    refine x_aload_n dX8_wantedTwice_19 rfl rfl ?_
    refine y_getP dX8_wantedTwice_20 (hq0).1 cf_X8 fl_X8_15 (by decide) (by decide) (hq0).2.2.2.1 ?_
    refine x_iload_n dX8_wantedTwice_23 rfl rfl ?_
    obtain ⟨s1, h⟩ := h
    refine x_iald dX8_wantedTwice_24 (hq0).2.2.2.2.2.2.2.1 s1 ?_
    refine x_iand dX8_wantedTwice_25 ?_
    refine x_ior dX8_wantedTwice_26 ?_
    refine y_istore_n (ls' := [v_P q0, v_I x1, v_I (m_or x2 (m_and x1 (M (q0 + 2) x3.toNat))), v_I x3]) dX8_wantedTwice_27 rfl (by decide) rfl ?_
    refine x_iload_n dX8_wantedTwice_28 rfl rfl ?_
    refine x_aload_n dX8_wantedTwice_29 rfl rfl ?_
    refine y_getP dX8_wantedTwice_30 (hq0).1 cf_X8 fl_X8_15 (by decide) (by decide) (hq0).2.2.2.1 ?_
    refine x_iload_n dX8_wantedTwice_33 rfl rfl ?_
    obtain ⟨s2, h⟩ := h
    refine x_iald dX8_wantedTwice_34 (hq0).2.2.2.2.2.2.2.1 s2 ?_
    refine x_ior dX8_wantedTwice_35 ?_
    refine y_istore_n (ls' := [v_P q0, v_I (m_or x1 (M (q0 + 2) x3.toNat)), v_I (m_or x2 (m_and x1 (M (q0 + 2) x3.toNat))), v_I x3]) dX8_wantedTwice_36 rfl (by decide) rfl ?_
    obtain ⟨s3, h⟩ := h
    refine y_iinc (ls' := [v_P q0, v_I (m_or x1 (M (q0 + 2) x3.toNat)), v_I (m_or x2 (m_and x1 (M (q0 + 2) x3.toNat))), v_I (x3 + 1)]) dX8_wantedTwice_37 rfl s3 (by decide) rfl ?_
    refine x_goto (tgt := 6) dX8_wantedTwice_40 (by decide) ?_
    exact h
theorem wp_X8_sortByPrice_0 {q0 : Nat} {M : mM} {Q : Int → mM → Prop} (hq0 : m_isP q0) (h : X_ kk_X8_sortByPrice 2 [v_P q0, v_I 0, v_U] [] M Q) : X_ kk_X8_sortByPrice 0 [v_P q0, v_U, v_U] [] M Q := by
  have hq0_r := isP_rng hq0
  refine x_iconst dX8_sortByPrice_0 (by decide) ?_
  refine y_istore_n (ls' := [v_P q0, v_I 0, v_U]) dX8_sortByPrice_1 rfl (by decide) rfl ?_
  exact h
theorem wp_X8_sortByPrice_2 {x1 : Int} {q0 : Nat} {M : mM} {Q : Int → mM → Prop} (hq0 : m_isP q0) (h : ((M 1 0) ≤ x1 → Q 0 M) ∧ (¬ (M 1 0) ≤ x1 → X_ kk_X8_sortByPrice 15 [v_P q0, v_I x1, v_I x1] [] M Q)) : X_ kk_X8_sortByPrice 2 [v_P q0, v_I x1, v_U] [] M Q := by
  have hq0_r := isP_rng hq0
  refine x_iload_n dX8_sortByPrice_2 rfl rfl ?_
  refine x_aload_n dX8_sortByPrice_3 rfl rfl ?_
  refine y_getP dX8_sortByPrice_4 (hq0).1 cf_X8 fl_X8_24 (by decide) (by decide) (hq0).2.1 ?_
  refine x_getI dX8_sortByPrice_7 sh_1 cf_X6 fl_X8_45 (by decide) (by decide) ?_
  refine x_ic_ge (tgt := 74) dX8_sortByPrice_10 (by decide) (fun hc => ?_) (fun hc => ?_)
  · replace h := h.1 hc
    refine x_ret dX8_sortByPrice_74 rfl (fun _ => h)
  · replace h := h.2 hc
    refine x_iload_n dX8_sortByPrice_13 rfl rfl ?_
    refine y_istore_n (ls' := [v_P q0, v_I x1, v_I x1]) dX8_sortByPrice_14 rfl (by decide) rfl ?_
    exact h
theorem wp_X8_sortByPrice_15 {x1 x2 : Int} {q0 : Nat} {M : mM} {Q : Int → mM → Prop} (hq0 : m_isP q0) (h : (x2 ≤ 0 → (0 ≤ x2 ∧ x2 < 8) ∧ (m_ir (x1 + 1)) ∧ X_ kk_X8_sortByPrice 2 [v_P q0, v_I (x1 + 1), v_U] [] (m_up M (q0 + 4) x2.toNat x1) Q) ∧ (¬ x2 ≤ 0 → (m_ir (x2 - 1)) ∧ (0 ≤ (x2 - 1) ∧ (x2 - 1) < 8) ∧ (0 ≤ (M (q0 + 4) ((x2 - 1).toNat)) ∧ (M (q0 + 4) ((x2 - 1).toNat)) < 8) ∧ (0 ≤ x1 ∧ x1 < 8) ∧ ((M (q0 + 1) ((M (q0 + 4) ((x2 - 1).toNat)).toNat)) ≤ (M (q0 + 1) x1.toNat) → (0 ≤ x2 ∧ x2 < 8) ∧ (m_ir (x1 + 1)) ∧ X_ kk_X8_sortByPrice 2 [v_P q0, v_I (x1 + 1), v_U] [] (m_up M (q0 + 4) x2.toNat x1) Q) ∧ (¬ (M (q0 + 1) ((M (q0 + 4) ((x2 - 1).toNat)).toNat)) ≤ (M (q0 + 1) x1.toNat) → (m_ir (x2 - 1)) ∧ (0 ≤ (x2 - 1) ∧ (x2 - 1) < 8) ∧ (0 ≤ x2 ∧ x2 < 8) ∧ (m_ir (x2 + (-1))) ∧ X_ kk_X8_sortByPrice 15 [v_P q0, v_I x1, v_I (x2 + (-1))] [] (m_up M (q0 + 4) x2.toNat (M (q0 + 4) ((x2 - 1).toNat))) Q))) : X_ kk_X8_sortByPrice 15 [v_P q0, v_I x1, v_I x2] [] M Q := by
  have hq0_r := isP_rng hq0
  refine x_iload_n dX8_sortByPrice_15 rfl rfl ?_
  refine x_if_le (tgt := 61) dX8_sortByPrice_16 (by decide) (fun hc => ?_) (fun hc => ?_)
  · replace h := h.1 hc
    refine x_aload_n dX8_sortByPrice_61 rfl rfl ?_
    refine y_getP dX8_sortByPrice_62 (hq0).1 cf_X8 fl_X8_21 (by decide) (by decide) (hq0).2.2.2.2.2.1 ?_
    refine x_iload_n dX8_sortByPrice_65 rfl rfl ?_
    refine x_iload_n dX8_sortByPrice_66 rfl rfl ?_
    obtain ⟨s1, h⟩ := h
    refine x_iast dX8_sortByPrice_67 (hq0).2.2.2.2.2.2.2.2.2 s1 ?_
    obtain ⟨s2, h⟩ := h
    refine y_iinc (ls' := [v_P q0, v_I (x1 + 1), v_I x2]) dX8_sortByPrice_68 rfl s2 (by decide) rfl ?_
    refine x_goto (tgt := 2) dX8_sortByPrice_71 (by decide) ?_
    refine y_forget 2 (ls' := [v_P q0, v_I (x1 + 1), v_U]) rfl ?_
    exact h
  · replace h := h.2 hc
    refine x_aload_n dX8_sortByPrice_19 rfl rfl ?_
    refine y_getP dX8_sortByPrice_20 (hq0).1 cf_X8 fl_X8_9 (by decide) (by decide) (hq0).2.2.1 ?_
    refine x_aload_n dX8_sortByPrice_23 rfl rfl ?_
    refine y_getP dX8_sortByPrice_24 (hq0).1 cf_X8 fl_X8_21 (by decide) (by decide) (hq0).2.2.2.2.2.1 ?_
    refine x_iload_n dX8_sortByPrice_27 rfl rfl ?_
    refine x_iconst dX8_sortByPrice_28 (by decide) ?_
    obtain ⟨s3, h⟩ := h
    refine x_isub dX8_sortByPrice_29 s3 ?_
    obtain ⟨s4, h⟩ := h
    refine x_iald dX8_sortByPrice_30 (hq0).2.2.2.2.2.2.2.2.2 s4 ?_
    obtain ⟨s5, h⟩ := h
    refine x_iald dX8_sortByPrice_31 (hq0).2.2.2.2.2.2.1 s5 ?_
    refine x_aload_n dX8_sortByPrice_32 rfl rfl ?_
    refine y_getP dX8_sortByPrice_33 (hq0).1 cf_X8 fl_X8_9 (by decide) (by decide) (hq0).2.2.1 ?_
    refine x_iload_n dX8_sortByPrice_36 rfl rfl ?_
    obtain ⟨s6, h⟩ := h
    refine x_iald dX8_sortByPrice_37 (hq0).2.2.2.2.2.2.1 s6 ?_
    refine x_ic_le (tgt := 61) dX8_sortByPrice_38 (by decide) (fun hc => ?_) (fun hc => ?_)
    · replace h := h.1 hc
      refine x_aload_n dX8_sortByPrice_61 rfl rfl ?_
      refine y_getP dX8_sortByPrice_62 (hq0).1 cf_X8 fl_X8_21 (by decide) (by decide) (hq0).2.2.2.2.2.1 ?_
      refine x_iload_n dX8_sortByPrice_65 rfl rfl ?_
      refine x_iload_n dX8_sortByPrice_66 rfl rfl ?_
      obtain ⟨s7, h⟩ := h
      refine x_iast dX8_sortByPrice_67 (hq0).2.2.2.2.2.2.2.2.2 s7 ?_
      obtain ⟨s8, h⟩ := h
      refine y_iinc (ls' := [v_P q0, v_I (x1 + 1), v_I x2]) dX8_sortByPrice_68 rfl s8 (by decide) rfl ?_
      refine x_goto (tgt := 2) dX8_sortByPrice_71 (by decide) ?_
      refine y_forget 2 (ls' := [v_P q0, v_I (x1 + 1), v_U]) rfl ?_
      exact h
    · replace h := h.2 hc
      refine x_aload_n dX8_sortByPrice_41 rfl rfl ?_
      refine y_getP dX8_sortByPrice_42 (hq0).1 cf_X8 fl_X8_21 (by decide) (by decide) (hq0).2.2.2.2.2.1 ?_
      refine x_iload_n dX8_sortByPrice_45 rfl rfl ?_
      refine x_aload_n dX8_sortByPrice_46 rfl rfl ?_
      refine y_getP dX8_sortByPrice_47 (hq0).1 cf_X8 fl_X8_21 (by decide) (by decide) (hq0).2.2.2.2.2.1 ?_
      refine x_iload_n dX8_sortByPrice_50 rfl rfl ?_
      refine x_iconst dX8_sortByPrice_51 (by decide) ?_
      obtain ⟨s9, h⟩ := h
      refine x_isub dX8_sortByPrice_52 s9 ?_
      obtain ⟨s10, h⟩ := h
      refine x_iald dX8_sortByPrice_53 (hq0).2.2.2.2.2.2.2.2.2 s10 ?_
      obtain ⟨s11, h⟩ := h
      refine x_iast dX8_sortByPrice_54 (hq0).2.2.2.2.2.2.2.2.2 s11 ?_
      obtain ⟨s12, h⟩ := h
      refine y_iinc (ls' := [v_P q0, v_I x1, v_I (x2 + (-1))]) dX8_sortByPrice_55 rfl s12 (by decide) rfl ?_
      refine x_goto (tgt := 15) dX8_sortByPrice_58 (by decide) ?_
      exact h
theorem wp_X8_like_0 {x1 : Int} {q0 q2 : Nat} {M : mM} {Q : Int → mM → Prop} (hq0 : m_isP q0) (hq2 : m_isB q2) (h : X_ kk_X8_like 8 [v_P q0, v_I x1, v_P q2, v_I 0, v_I 0, v_I 0, v_U, v_U] [] M Q) : X_ kk_X8_like 0 [v_P q0, v_I x1, v_P q2, v_U, v_U, v_U, v_U, v_U] [] M Q := by
  have hq0_r := isP_rng hq0
  have hq2_r := isB_rng hq2
  refine x_iconst dX8_like_0 (by decide) ?_
  refine y_istore_n (ls' := [v_P q0, v_I x1, v_P q2, v_I 0, v_U, v_U, v_U, v_U]) dX8_like_1 rfl (by decide) rfl ?_
  refine x_iconst dX8_like_2 (by decide) ?_
  refine y_istore (ls' := [v_P q0, v_I x1, v_P q2, v_I 0, v_I 0, v_U, v_U, v_U]) dX8_like_3 (by decide) rfl ?_
  refine x_iconst dX8_like_5 (by decide) ?_
  refine y_istore (ls' := [v_P q0, v_I x1, v_P q2, v_I 0, v_I 0, v_I 0, v_U, v_U]) dX8_like_6 (by decide) rfl ?_
  exact h
theorem wp_X8_like_8 {x1 x3 x4 x5 : Int} {q0 q2 : Nat} {M : mM} {Q : Int → mM → Prop} (hq0 : m_isP q0) (hq2 : m_isB q2) (h : ((M q2 3) ≤ x5 → (0 ≤ x1 ∧ x1 < 6) ∧ (0 ≤ x1 ∧ x1 < 6) ∧ Q 0 (m_up (m_up M (q0 + 2) x1.toNat x3) (q0 + 3) x1.toNat x4)) ∧ (¬ (M q2 3) ≤ x5 → ∃ Qc3 : Int → mM → Prop, C_ kk_X1_isThere [v_P q2, v_I x5] M Qc3 ∧ ∀ (r4 : Int) (M5 : mM), m_ir r4 → m_okM M5 → Qc3 r4 M5 → (r4 = 0 → (m_ir (x5 + 1)) ∧ X_ kk_X8_like 8 [v_P q0, v_I x1, v_P q2, v_I x3, v_I x4, v_I (x5 + 1), v_U, v_U] [] M5 Q) ∧ (¬ r4 = 0 → (0 ≤ x5 ∧ x5 < 6) ∧ ((M5 (q2 + 1) x5.toNat) < x4 → (m_ir (x5 + 1)) ∧ X_ kk_X8_like 8 [v_P q0, v_I x1, v_P q2, v_I x3, v_I x4, v_I (x5 + 1), v_U, v_U] [] M5 Q) ∧ (¬ (M5 (q2 + 1) x5.toNat) < x4 → (0 ≤ x5 ∧ x5 < 6) ∧ ∃ Qc14 : Int → mM → Prop, C_ kk_X6_allLots [v_P 1] M5 Qc14 ∧ ∀ (r15 : Int) (M16 : mM), m_ir r15 → m_okM M16 → Qc14 r15 M16 → ∃ Qc21 : Int → mM → Prop, C_ kk_X6_pick [v_P 1, v_I (M5 (q2 + 2) x5.toNat), v_P (q0 + 4), v_I r15] M16 Qc21 ∧ ∀ (r22 : Int) (M23 : mM), m_ir r22 → m_okM M23 → Qc21 r22 M23 → (0 ≤ r22 → (0 ≤ x5 ∧ x5 < 6) ∧ ∃ Qc29 : Int → mM → Prop, C_ kk_X8_costOf [v_P q0, v_I r22] M23 Qc29 ∧ ∀ (r30 : Int) (M31 : mM), m_ir r30 → m_okM M31 → Qc29 r30 M31 → (m_ir ((M23 (q2 + 1) x5.toNat) - r30)) ∧ (x4 < ((M23 (q2 + 1) x5.toNat) - r30) → (m_ir (x5 + 1)) ∧ X_ kk_X8_like 8 [v_P q0, v_I x1, v_P q2, v_I r22, v_I ((M23 (q2 + 1) x5.toNat) - r30), v_I (x5 + 1), v_U, v_U] [] M31 Q) ∧ (¬ x4 < ((M23 (q2 + 1) x5.toNat) - r30) → (¬ ((M23 (q2 + 1) x5.toNat) - r30) = x4 → (m_ir (x5 + 1)) ∧ X_ kk_X8_like 8 [v_P q0, v_I x1, v_P q2, v_I x3, v_I x4, v_I (x5 + 1), v_U, v_U] [] M31 Q) ∧ (((M23 (q2 + 1) x5.toNat) - r30) = x4 → (x3 ≤ r22 → (m_ir (x5 + 1)) ∧ X_ kk_X8_like 8 [v_P q0, v_I x1, v_P q2, v_I x3, v_I x4, v_I (x5 + 1), v_U, v_U] [] M31 Q) ∧ (¬ x3 ≤ r22 → (m_ir (x5 + 1)) ∧ X_ kk_X8_like 8 [v_P q0, v_I x1, v_P q2, v_I r22, v_I ((M23 (q2 + 1) x5.toNat) - r30), v_I (x5 + 1), v_U, v_U] [] M31 Q)))) ∧ (¬ 0 ≤ r22 → (x4 < (-1) → (m_ir (x5 + 1)) ∧ X_ kk_X8_like 8 [v_P q0, v_I x1, v_P q2, v_I r22, v_I (-1), v_I (x5 + 1), v_U, v_U] [] M23 Q) ∧ (¬ x4 < (-1) → (¬ (-1) = x4 → (m_ir (x5 + 1)) ∧ X_ kk_X8_like 8 [v_P q0, v_I x1, v_P q2, v_I x3, v_I x4, v_I (x5 + 1), v_U, v_U] [] M23 Q) ∧ ((-1) = x4 → (x3 ≤ r22 → (m_ir (x5 + 1)) ∧ X_ kk_X8_like 8 [v_P q0, v_I x1, v_P q2, v_I x3, v_I x4, v_I (x5 + 1), v_U, v_U] [] M23 Q) ∧ (¬ x3 ≤ r22 → (m_ir (x5 + 1)) ∧ X_ kk_X8_like 8 [v_P q0, v_I x1, v_P q2, v_I r22, v_I (-1), v_I (x5 + 1), v_U, v_U] [] M23 Q)))))))) : X_ kk_X8_like 8 [v_P q0, v_I x1, v_P q2, v_I x3, v_I x4, v_I x5, v_U, v_U] [] M Q := by
  have hq0_r := isP_rng hq0
  have hq2_r := isB_rng hq2
  refine x_iload dX8_like_8 rfl ?_
  refine x_aload_n dX8_like_10 rfl rfl ?_
  refine x_getI dX8_like_11 (hq2).1 cf_X1 fl_X8_65 (by decide) (by decide) ?_
  refine x_ic_ge (tgt := 123) dX8_like_14 (by decide) (fun hc => ?_) (fun hc => ?_)
  · replace h := h.1 hc
    refine x_aload_n dX8_like_123 rfl rfl ?_
    refine y_getP dX8_like_124 (hq0).1 cf_X8 fl_X8_15 (by decide) (by decide) (hq0).2.2.2.1 ?_
    refine x_iload_n dX8_like_127 rfl rfl ?_
    refine x_iload_n dX8_like_128 rfl rfl ?_
    obtain ⟨s1, h⟩ := h
    refine x_iast dX8_like_129 (hq0).2.2.2.2.2.2.2.1 s1 ?_
    refine x_aload_n dX8_like_130 rfl rfl ?_
    refine y_getP dX8_like_131 (hq0).1 cf_X8 fl_X8_18 (by decide) (by decide) (hq0).2.2.2.2.1 ?_
    refine x_iload_n dX8_like_134 rfl rfl ?_
    refine x_iload dX8_like_135 rfl ?_
    obtain ⟨s2, h⟩ := h
    refine x_iast dX8_like_137 (hq0).2.2.2.2.2.2.2.2.1 s2 ?_
    refine x_ret dX8_like_138 rfl (fun _ => h)
  · replace h := h.2 hc
    refine x_aload_n dX8_like_17 rfl rfl ?_
    refine x_iload dX8_like_18 rfl ?_
    obtain ⟨Qc3, hc6, h⟩ := h
    refine x_callV (as := [v_I x5]) (st := []) (Qc := Qc3) dX8_like_20 mt_X1_isThere ml_X8_70 ⟨by decide, by decide⟩ (hq2).1 rfl (fun _ _ => Nat.le_of_ble_eq_true rfl) hc6 (fun r4 M5 hr7 hM8 hq9 => ?_)
    replace h := h r4 M5 hr7 hM8 hq9
    change X_ kk_X8_like 23 [v_P q0, v_I x1, v_P q2, v_I x3, v_I x4, v_I x5, v_U, v_U] [v_I r4] M5 Q
    refine x_if_eq (tgt := 117) dX8_like_23 (by decide) (fun hc => ?_) (fun hc => ?_)
    · replace h := h.1 hc
      obtain ⟨s10, h⟩ := h
      refine y_iinc (ls' := [v_P q0, v_I x1, v_P q2, v_I x3, v_I x4, v_I (x5 + 1), v_U, v_U]) dX8_like_117 rfl s10 (by decide) rfl ?_
      refine x_goto (tgt := 8) dX8_like_120 (by decide) ?_
      exact h
    · replace h := h.2 hc
      refine x_aload_n dX8_like_26 rfl rfl ?_
      refine y_getP dX8_like_27 (hq2).1 cf_X1 fl_X8_74 (by decide) (by decide) (hq2).2.1 ?_
      refine x_iload dX8_like_30 rfl ?_
      obtain ⟨s11, h⟩ := h
      refine x_iald dX8_like_32 (hq2).2.2.2.1 s11 ?_
      refine x_iload dX8_like_33 rfl ?_
      refine x_ic_lt (tgt := 117) dX8_like_35 (by decide) (fun hc => ?_) (fun hc => ?_)
      · replace h := h.1 hc
        obtain ⟨s12, h⟩ := h
        refine y_iinc (ls' := [v_P q0, v_I x1, v_P q2, v_I x3, v_I x4, v_I (x5 + 1), v_U, v_U]) dX8_like_117 rfl s12 (by decide) rfl ?_
        refine x_goto (tgt := 8) dX8_like_120 (by decide) ?_
        exact h
      · replace h := h.2 hc
        refine x_aload_n dX8_like_38 rfl rfl ?_
        refine y_getP dX8_like_39 (hq0).1 cf_X8 fl_X8_24 (by decide) (by decide) (hq0).2.1 ?_
        refine x_aload_n dX8_like_42 rfl rfl ?_
        refine y_getP dX8_like_43 (hq2).1 cf_X1 fl_X8_77 (by decide) (by decide) (hq2).2.2.1 ?_
        refine x_iload dX8_like_46 rfl ?_
        obtain ⟨s13, h⟩ := h
        refine x_iald dX8_like_48 (hq2).2.2.2.2 s13 ?_
        refine x_aload_n dX8_like_49 rfl rfl ?_
        refine y_getP dX8_like_50 (hq0).1 cf_X8 fl_X8_21 (by decide) (by decide) (hq0).2.2.2.2.2.1 ?_
        refine x_aload_n dX8_like_53 rfl rfl ?_
        refine y_getP dX8_like_54 (hq0).1 cf_X8 fl_X8_24 (by decide) (by decide) (hq0).2.1 ?_
        obtain ⟨Qc14, hc17, h⟩ := h
        refine x_callV (as := []) (st := [v_P (q0 + 4), v_I (M5 (q2 + 2) x5.toNat), v_P 1]) (Qc := Qc14) dX8_like_57 mt_X6_allLots ml_X8_80 ⟨by decide, by decide⟩ sh_1 rfl (fun _ _ => Nat.le_of_ble_eq_true rfl) hc17 (fun r15 M16 hr18 hM19 hq20 => ?_)
        replace h := h r15 M16 hr18 hM19 hq20
        change X_ kk_X8_like 60 [v_P q0, v_I x1, v_P q2, v_I x3, v_I x4, v_I x5, v_U, v_U] [v_I r15, v_P (q0 + 4), v_I (M5 (q2 + 2) x5.toNat), v_P 1] M16 Q
        obtain ⟨Qc21, hc24, h⟩ := h
        refine x_callV (as := [v_I (M5 (q2 + 2) x5.toNat), v_P (q0 + 4), v_I r15]) (st := []) (Qc := Qc21) dX8_like_60 mt_X6_pick ml_X8_83 ⟨by decide, by decide⟩ sh_1 rfl (fun _ _ => Nat.le_of_ble_eq_true rfl) hc24 (fun r22 M23 hr25 hM26 hq27 => ?_)
        replace h := h r22 M23 hr25 hM26 hq27
        change X_ kk_X8_like 63 [v_P q0, v_I x1, v_P q2, v_I x3, v_I x4, v_I x5, v_U, v_U] [v_I r22] M23 Q
        refine y_istore (ls' := [v_P q0, v_I x1, v_P q2, v_I x3, v_I x4, v_I x5, v_I r22, v_U]) dX8_like_63 (by decide) rfl ?_
        refine x_iload dX8_like_65 rfl ?_
        refine x_if_ge (tgt := 74) dX8_like_67 (by decide) (fun hc => ?_) (fun hc => ?_)
        · replace h := h.1 hc
          refine x_aload_n dX8_like_74 rfl rfl ?_
          refine y_getP dX8_like_75 (hq2).1 cf_X1 fl_X8_74 (by decide) (by decide) (hq2).2.1 ?_
          refine x_iload dX8_like_78 rfl ?_
          obtain ⟨s28, h⟩ := h
          refine x_iald dX8_like_80 (hq2).2.2.2.1 s28 ?_
          refine x_aload_n dX8_like_81 rfl rfl ?_
          refine x_iload dX8_like_82 rfl ?_
          obtain ⟨Qc29, hc32, h⟩ := h
          refine x_callV (as := [v_I r22]) (st := [v_I (M23 (q2 + 1) x5.toNat)]) (Qc := Qc29) dX8_like_84 mt_X8_costOf ml_X8_87 ⟨by decide, by decide⟩ (hq0).1 rfl (fun _ _ => Nat.le_of_ble_eq_true rfl) hc32 (fun r30 M31 hr33 hM34 hq35 => ?_)
          replace h := h r30 M31 hr33 hM34 hq35
          change X_ kk_X8_like 87 [v_P q0, v_I x1, v_P q2, v_I x3, v_I x4, v_I x5, v_I r22, v_U] [v_I r30, v_I (M23 (q2 + 1) x5.toNat)] M31 Q
          obtain ⟨s36, h⟩ := h
          refine x_isub dX8_like_87 s36 ?_
          refine y_istore (ls' := [v_P q0, v_I x1, v_P q2, v_I x3, v_I x4, v_I x5, v_I r22, v_I ((M23 (q2 + 1) x5.toNat) - r30)]) dX8_like_88 (by decide) rfl ?_
          refine x_iload dX8_like_90 rfl ?_
          refine x_iload dX8_like_92 rfl ?_
          refine x_ic_gt (tgt := 110) dX8_like_94 (by decide) (fun hc => ?_) (fun hc => ?_)
          · replace h := h.1 hc
            refine x_iload dX8_like_110 rfl ?_
            refine y_istore_n (ls' := [v_P q0, v_I x1, v_P q2, v_I r22, v_I x4, v_I x5, v_I r22, v_I ((M23 (q2 + 1) x5.toNat) - r30)]) dX8_like_112 rfl (by decide) rfl ?_
            refine x_iload dX8_like_113 rfl ?_
            refine y_istore (ls' := [v_P q0, v_I x1, v_P q2, v_I r22, v_I ((M23 (q2 + 1) x5.toNat) - r30), v_I x5, v_I r22, v_I ((M23 (q2 + 1) x5.toNat) - r30)]) dX8_like_115 (by decide) rfl ?_
            obtain ⟨s37, h⟩ := h
            refine y_iinc (ls' := [v_P q0, v_I x1, v_P q2, v_I r22, v_I ((M23 (q2 + 1) x5.toNat) - r30), v_I (x5 + 1), v_I r22, v_I ((M23 (q2 + 1) x5.toNat) - r30)]) dX8_like_117 rfl s37 (by decide) rfl ?_
            refine x_goto (tgt := 8) dX8_like_120 (by decide) ?_
            refine y_forget 6 (ls' := [v_P q0, v_I x1, v_P q2, v_I r22, v_I ((M23 (q2 + 1) x5.toNat) - r30), v_I (x5 + 1), v_U, v_I ((M23 (q2 + 1) x5.toNat) - r30)]) rfl ?_
            refine y_forget 7 (ls' := [v_P q0, v_I x1, v_P q2, v_I r22, v_I ((M23 (q2 + 1) x5.toNat) - r30), v_I (x5 + 1), v_U, v_U]) rfl ?_
            exact h
          · replace h := h.2 hc
            refine x_iload dX8_like_97 rfl ?_
            refine x_iload dX8_like_99 rfl ?_
            refine x_ic_ne (tgt := 117) dX8_like_101 (by decide) (fun hc => ?_) (fun hc => ?_)
            · replace h := h.1 hc
              obtain ⟨s38, h⟩ := h
              refine y_iinc (ls' := [v_P q0, v_I x1, v_P q2, v_I x3, v_I x4, v_I (x5 + 1), v_I r22, v_I ((M23 (q2 + 1) x5.toNat) - r30)]) dX8_like_117 rfl s38 (by decide) rfl ?_
              refine x_goto (tgt := 8) dX8_like_120 (by decide) ?_
              refine y_forget 6 (ls' := [v_P q0, v_I x1, v_P q2, v_I x3, v_I x4, v_I (x5 + 1), v_U, v_I ((M23 (q2 + 1) x5.toNat) - r30)]) rfl ?_
              refine y_forget 7 (ls' := [v_P q0, v_I x1, v_P q2, v_I x3, v_I x4, v_I (x5 + 1), v_U, v_U]) rfl ?_
              exact h
            · replace h := h.2 hc
              refine x_iload dX8_like_104 rfl ?_
              refine x_iload_n dX8_like_106 rfl rfl ?_
              refine x_ic_ge (tgt := 117) dX8_like_107 (by decide) (fun hc => ?_) (fun hc => ?_)
              · replace h := h.1 hc
                obtain ⟨s39, h⟩ := h
                refine y_iinc (ls' := [v_P q0, v_I x1, v_P q2, v_I x3, v_I x4, v_I (x5 + 1), v_I r22, v_I ((M23 (q2 + 1) x5.toNat) - r30)]) dX8_like_117 rfl s39 (by decide) rfl ?_
                refine x_goto (tgt := 8) dX8_like_120 (by decide) ?_
                refine y_forget 6 (ls' := [v_P q0, v_I x1, v_P q2, v_I x3, v_I x4, v_I (x5 + 1), v_U, v_I ((M23 (q2 + 1) x5.toNat) - r30)]) rfl ?_
                refine y_forget 7 (ls' := [v_P q0, v_I x1, v_P q2, v_I x3, v_I x4, v_I (x5 + 1), v_U, v_U]) rfl ?_
                exact h
              · replace h := h.2 hc
                refine x_iload dX8_like_110 rfl ?_
                refine y_istore_n (ls' := [v_P q0, v_I x1, v_P q2, v_I r22, v_I x4, v_I x5, v_I r22, v_I ((M23 (q2 + 1) x5.toNat) - r30)]) dX8_like_112 rfl (by decide) rfl ?_
                refine x_iload dX8_like_113 rfl ?_
                refine y_istore (ls' := [v_P q0, v_I x1, v_P q2, v_I r22, v_I ((M23 (q2 + 1) x5.toNat) - r30), v_I x5, v_I r22, v_I ((M23 (q2 + 1) x5.toNat) - r30)]) dX8_like_115 (by decide) rfl ?_
                obtain ⟨s40, h⟩ := h
                refine y_iinc (ls' := [v_P q0, v_I x1, v_P q2, v_I r22, v_I ((M23 (q2 + 1) x5.toNat) - r30), v_I (x5 + 1), v_I r22, v_I ((M23 (q2 + 1) x5.toNat) - r30)]) dX8_like_117 rfl s40 (by decide) rfl ?_
                refine x_goto (tgt := 8) dX8_like_120 (by decide) ?_
                refine y_forget 6 (ls' := [v_P q0, v_I x1, v_P q2, v_I r22, v_I ((M23 (q2 + 1) x5.toNat) - r30), v_I (x5 + 1), v_U, v_I ((M23 (q2 + 1) x5.toNat) - r30)]) rfl ?_
                refine y_forget 7 (ls' := [v_P q0, v_I x1, v_P q2, v_I r22, v_I ((M23 (q2 + 1) x5.toNat) - r30), v_I (x5 + 1), v_U, v_U]) rfl ?_
                exact h
        · replace h := h.2 hc
          refine x_iconst dX8_like_70 (by decide) ?_
          refine x_goto (tgt := 88) dX8_like_71 (by decide) ?_
          refine y_istore (ls' := [v_P q0, v_I x1, v_P q2, v_I x3, v_I x4, v_I x5, v_I r22, v_I (-1)]) dX8_like_88 (by decide) rfl ?_
          refine x_iload dX8_like_90 rfl ?_
          refine x_iload dX8_like_92 rfl ?_
          refine x_ic_gt (tgt := 110) dX8_like_94 (by decide) (fun hc => ?_) (fun hc => ?_)
          · replace h := h.1 hc
            refine x_iload dX8_like_110 rfl ?_
            refine y_istore_n (ls' := [v_P q0, v_I x1, v_P q2, v_I r22, v_I x4, v_I x5, v_I r22, v_I (-1)]) dX8_like_112 rfl (by decide) rfl ?_
            refine x_iload dX8_like_113 rfl ?_
            refine y_istore (ls' := [v_P q0, v_I x1, v_P q2, v_I r22, v_I (-1), v_I x5, v_I r22, v_I (-1)]) dX8_like_115 (by decide) rfl ?_
            obtain ⟨s41, h⟩ := h
            refine y_iinc (ls' := [v_P q0, v_I x1, v_P q2, v_I r22, v_I (-1), v_I (x5 + 1), v_I r22, v_I (-1)]) dX8_like_117 rfl s41 (by decide) rfl ?_
            refine x_goto (tgt := 8) dX8_like_120 (by decide) ?_
            refine y_forget 6 (ls' := [v_P q0, v_I x1, v_P q2, v_I r22, v_I (-1), v_I (x5 + 1), v_U, v_I (-1)]) rfl ?_
            refine y_forget 7 (ls' := [v_P q0, v_I x1, v_P q2, v_I r22, v_I (-1), v_I (x5 + 1), v_U, v_U]) rfl ?_
            exact h
          · replace h := h.2 hc
            refine x_iload dX8_like_97 rfl ?_
            refine x_iload dX8_like_99 rfl ?_
            refine x_ic_ne (tgt := 117) dX8_like_101 (by decide) (fun hc => ?_) (fun hc => ?_)
            · replace h := h.1 hc
              obtain ⟨s42, h⟩ := h
              refine y_iinc (ls' := [v_P q0, v_I x1, v_P q2, v_I x3, v_I x4, v_I (x5 + 1), v_I r22, v_I (-1)]) dX8_like_117 rfl s42 (by decide) rfl ?_
              refine x_goto (tgt := 8) dX8_like_120 (by decide) ?_
              refine y_forget 6 (ls' := [v_P q0, v_I x1, v_P q2, v_I x3, v_I x4, v_I (x5 + 1), v_U, v_I (-1)]) rfl ?_
              refine y_forget 7 (ls' := [v_P q0, v_I x1, v_P q2, v_I x3, v_I x4, v_I (x5 + 1), v_U, v_U]) rfl ?_
              exact h
            · replace h := h.2 hc
              refine x_iload dX8_like_104 rfl ?_
              refine x_iload_n dX8_like_106 rfl rfl ?_
              refine x_ic_ge (tgt := 117) dX8_like_107 (by decide) (fun hc => ?_) (fun hc => ?_)
              · replace h := h.1 hc
                obtain ⟨s43, h⟩ := h
                refine y_iinc (ls' := [v_P q0, v_I x1, v_P q2, v_I x3, v_I x4, v_I (x5 + 1), v_I r22, v_I (-1)]) dX8_like_117 rfl s43 (by decide) rfl ?_
                refine x_goto (tgt := 8) dX8_like_120 (by decide) ?_
                refine y_forget 6 (ls' := [v_P q0, v_I x1, v_P q2, v_I x3, v_I x4, v_I (x5 + 1), v_U, v_I (-1)]) rfl ?_
                refine y_forget 7 (ls' := [v_P q0, v_I x1, v_P q2, v_I x3, v_I x4, v_I (x5 + 1), v_U, v_U]) rfl ?_
                exact h
              · replace h := h.2 hc
                refine x_iload dX8_like_110 rfl ?_
                refine y_istore_n (ls' := [v_P q0, v_I x1, v_P q2, v_I r22, v_I x4, v_I x5, v_I r22, v_I (-1)]) dX8_like_112 rfl (by decide) rfl ?_
                refine x_iload dX8_like_113 rfl ?_
                refine y_istore (ls' := [v_P q0, v_I x1, v_P q2, v_I r22, v_I (-1), v_I x5, v_I r22, v_I (-1)]) dX8_like_115 (by decide) rfl ?_
                obtain ⟨s44, h⟩ := h
                refine y_iinc (ls' := [v_P q0, v_I x1, v_P q2, v_I r22, v_I (-1), v_I (x5 + 1), v_I r22, v_I (-1)]) dX8_like_117 rfl s44 (by decide) rfl ?_
                refine x_goto (tgt := 8) dX8_like_120 (by decide) ?_
                refine y_forget 6 (ls' := [v_P q0, v_I x1, v_P q2, v_I r22, v_I (-1), v_I (x5 + 1), v_U, v_I (-1)]) rfl ?_
                refine y_forget 7 (ls' := [v_P q0, v_I x1, v_P q2, v_I r22, v_I (-1), v_I (x5 + 1), v_U, v_U]) rfl ?_
                exact h
theorem wp_X8_costOf_0 {x1 : Int} {q0 : Nat} {M : mM} {Q : Int → mM → Prop} (hq0 : m_isP q0) (h : X_ kk_X8_costOf 4 [v_P q0, v_I x1, v_I 0, v_I 0] [] M Q) : X_ kk_X8_costOf 0 [v_P q0, v_I x1, v_U, v_U] [] M Q := by
  have hq0_r := isP_rng hq0
  refine x_iconst dX8_costOf_0 (by decide) ?_
  refine y_istore_n (ls' := [v_P q0, v_I x1, v_I 0, v_U]) dX8_costOf_1 rfl (by decide) rfl ?_
  refine x_iconst dX8_costOf_2 (by decide) ?_
  refine y_istore_n (ls' := [v_P q0, v_I x1, v_I 0, v_I 0]) dX8_costOf_3 rfl (by decide) rfl ?_
  exact h
theorem wp_X8_costOf_4 {x1 x2 x3 : Int} {q0 : Nat} {M : mM} {Q : Int → mM → Prop} (hq0 : m_isP q0) (h : ((M 1 0) ≤ x3 → Q x2 M) ∧ (¬ (M 1 0) ≤ x3 → ((m_and (m_shr x1 x3) 1) = 0 → (m_ir (x3 + 1)) ∧ X_ kk_X8_costOf 4 [v_P q0, v_I x1, v_I x2, v_I (x3 + 1)] [] M Q) ∧ (¬ (m_and (m_shr x1 x3) 1) = 0 → (0 ≤ x3 ∧ x3 < 8) ∧ (m_ir (x2 + (M (q0 + 1) x3.toNat))) ∧ (m_ir (x3 + 1)) ∧ X_ kk_X8_costOf 4 [v_P q0, v_I x1, v_I (x2 + (M (q0 + 1) x3.toNat)), v_I (x3 + 1)] [] M Q))) : X_ kk_X8_costOf 4 [v_P q0, v_I x1, v_I x2, v_I x3] [] M Q := by
  have hq0_r := isP_rng hq0
  refine x_iload_n dX8_costOf_4 rfl rfl ?_
  refine x_aload_n dX8_costOf_5 rfl rfl ?_
  refine y_getP dX8_costOf_6 (hq0).1 cf_X8 fl_X8_24 (by decide) (by decide) (hq0).2.1 ?_
  refine x_getI dX8_costOf_9 sh_1 cf_X6 fl_X8_45 (by decide) (by decide) ?_
  refine x_ic_ge (tgt := 38) dX8_costOf_12 (by decide) (fun hc => ?_) (fun hc => ?_)
  · replace h := h.1 hc
    refine x_iload_n dX8_costOf_38 rfl rfl ?_
    refine x_iret dX8_costOf_39 rfl (Or.inl rfl) (fun _ _ => h)
  · replace h := h.2 hc
    refine x_iload_n dX8_costOf_15 rfl rfl ?_
    refine x_iload_n dX8_costOf_16 rfl rfl ?_
    refine x_ishr dX8_costOf_17 ?_
    refine x_iconst dX8_costOf_18 (by decide) ?_
    refine x_iand dX8_costOf_19 ?_
    refine x_if_eq (tgt := 32) dX8_costOf_20 (by decide) (fun hc => ?_) (fun hc => ?_)
    · replace h := h.1 hc
      obtain ⟨s1, h⟩ := h
      refine y_iinc (ls' := [v_P q0, v_I x1, v_I x2, v_I (x3 + 1)]) dX8_costOf_32 rfl s1 (by decide) rfl ?_
      refine x_goto (tgt := 4) dX8_costOf_35 (by decide) ?_
      exact h
    · replace h := h.2 hc
      refine x_iload_n dX8_costOf_23 rfl rfl ?_
      refine x_aload_n dX8_costOf_24 rfl rfl ?_
      refine y_getP dX8_costOf_25 (hq0).1 cf_X8 fl_X8_9 (by decide) (by decide) (hq0).2.2.1 ?_
      refine x_iload_n dX8_costOf_28 rfl rfl ?_
      obtain ⟨s2, h⟩ := h
      refine x_iald dX8_costOf_29 (hq0).2.2.2.2.2.2.1 s2 ?_
      obtain ⟨s3, h⟩ := h
      refine x_iadd dX8_costOf_30 s3 ?_
      refine y_istore_n (ls' := [v_P q0, v_I x1, v_I (x2 + (M (q0 + 1) x3.toNat)), v_I x3]) dX8_costOf_31 rfl (by decide) rfl ?_
      obtain ⟨s4, h⟩ := h
      refine y_iinc (ls' := [v_P q0, v_I x1, v_I (x2 + (M (q0 + 1) x3.toNat)), v_I (x3 + 1)]) dX8_costOf_32 rfl s4 (by decide) rfl ?_
      refine x_goto (tgt := 4) dX8_costOf_35 (by decide) ?_
      exact h
