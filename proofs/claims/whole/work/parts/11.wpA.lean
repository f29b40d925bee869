theorem wp_X10_isNot_0 {x0 x1 x2 : Int} {M : mM} {Q : Int → mM → Prop} (h : (x0 < x1 → Q 1 M) ∧ (¬ x0 < x1 → (x0 ≤ x2 → Q 0 M) ∧ (¬ x0 ≤ x2 → Q 1 M))) : X_ kk_X10_isNot 0 [v_I x0, v_I x1, v_I x2] [] M Q := by
  refine x_iload_n dX10_isNot_0 rfl rfl ?_
  refine x_iload_n dX10_isNot_1 rfl rfl ?_
  refine x_ic_lt (tgt := 10) dX10_isNot_2 (by decide) (fun hc => ?_) (fun hc => ?_)
  · replace h := h.1 hc
    refine x_iconst dX10_isNot_10 (by decide) ?_
    refine x_goto (tgt := 15) dX10_isNot_11 (by decide) ?_
    refine x_iret dX10_isNot_15 rfl (Or.inr ⟨rfl, Or.inr rfl⟩) (fun _ _ => h)
  · replace h := h.2 hc
    refine x_iload_n dX10_isNot_5 rfl rfl ?_
    refine x_iload_n dX10_isNot_6 rfl rfl ?_
    refine x_ic_le (tgt := 14) dX10_isNot_7 (by decide) (fun hc => ?_) (fun hc => ?_)
    · replace h := h.1 hc
      refine x_iconst dX10_isNot_14 (by decide) ?_
      refine x_iret dX10_isNot_15 rfl (Or.inr ⟨rfl, Or.inl rfl⟩) (fun _ _ => h)
    · replace h := h.2 hc
      refine x_iconst dX10_isNot_10 (by decide) ?_
      refine x_goto (tgt := 15) dX10_isNot_11 (by decide) ?_
      refine x_iret dX10_isNot_15 rfl (Or.inr ⟨rfl, Or.inr rfl⟩) (fun _ _ => h)
theorem wp_X6_hasLot_0 {x1 : Int} {M : mM} {Q : Int → mM → Prop} (h : (x1 < 0 → Q 0 M) ∧ (¬ x1 < 0 → ((M 1 0) ≤ x1 → Q 0 M) ∧ (¬ (M 1 0) ≤ x1 → Q 1 M))) : X_ kk_X6_hasLot 0 [v_P 1, v_I x1] [] M Q := by
  refine x_iload_n dX6_hasLot_0 rfl rfl ?_
  refine x_if_lt (tgt := 16) dX6_hasLot_1 (by decide) (fun hc => ?_) (fun hc => ?_)
  · replace h := h.1 hc
    refine x_iconst dX6_hasLot_16 (by decide) ?_
    refine x_iret dX6_hasLot_17 rfl (Or.inr ⟨rfl, Or.inl rfl⟩) (fun _ _ => h)
  · replace h := h.2 hc
    refine x_iload_n dX6_hasLot_4 rfl rfl ?_
    refine x_aload_n dX6_hasLot_5 rfl rfl ?_
    refine x_getI dX6_hasLot_6 sh_1 cf_X6 fl_X6_38 (by decide) (by decide) ?_
    refine x_ic_ge (tgt := 16) dX6_hasLot_9 (by decide) (fun hc => ?_) (fun hc => ?_)
    · replace h := h.1 hc
      refine x_iconst dX6_hasLot_16 (by decide) ?_
      refine x_iret dX6_hasLot_17 rfl (Or.inr ⟨rfl, Or.inl rfl⟩) (fun _ _ => h)
    · replace h := h.2 hc
      refine x_iconst dX6_hasLot_12 (by decide) ?_
      refine x_goto (tgt := 17) dX6_hasLot_13 (by decide) ?_
      refine x_iret dX6_hasLot_17 rfl (Or.inr ⟨rfl, Or.inr rfl⟩) (fun _ _ => h)
theorem wp_X6_hasBuyer_0 {x1 : Int} {M : mM} {Q : Int → mM → Prop} (h : (x1 < 0 → Q 0 M) ∧ (¬ x1 < 0 → ((M 1 6) ≤ x1 → Q 0 M) ∧ (¬ (M 1 6) ≤ x1 → Q 1 M))) : X_ kk_X6_hasBuyer 0 [v_P 1, v_I x1] [] M Q := by
  refine x_iload_n dX6_hasBuyer_0 rfl rfl ?_
  refine x_if_lt (tgt := 16) dX6_hasBuyer_1 (by decide) (fun hc => ?_) (fun hc => ?_)
  · replace h := h.1 hc
    refine x_iconst dX6_hasBuyer_16 (by decide) ?_
    refine x_iret dX6_hasBuyer_17 rfl (Or.inr ⟨rfl, Or.inl rfl⟩) (fun _ _ => h)
  · replace h := h.2 hc
    refine x_iload_n dX6_hasBuyer_4 rfl rfl ?_
    refine x_aload_n dX6_hasBuyer_5 rfl rfl ?_
    refine x_getI dX6_hasBuyer_6 sh_1 cf_X6 fl_X6_41 (by decide) (by decide) ?_
    refine x_ic_ge (tgt := 16) dX6_hasBuyer_9 (by decide) (fun hc => ?_) (fun hc => ?_)
    · replace h := h.1 hc
      refine x_iconst dX6_hasBuyer_16 (by decide) ?_
      refine x_iret dX6_hasBuyer_17 rfl (Or.inr ⟨rfl, Or.inl rfl⟩) (fun _ _ => h)
    · replace h := h.2 hc
      refine x_iconst dX6_hasBuyer_12 (by decide) ?_
      refine x_goto (tgt := 17) dX6_hasBuyer_13 (by decide) ?_
      refine x_iret dX6_hasBuyer_17 rfl (Or.inr ⟨rfl, Or.inr rfl⟩) (fun _ _ => h)
