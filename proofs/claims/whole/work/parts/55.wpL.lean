/-! the law, from its loop on -/
abbrev kk_L_law (L : Nat) (xs : Nat → Int) : mI := (yL_law, cL_law, 4, some .boolean, 7, 172, some (L, xs))
theorem wp_L_law_18 {x3 : Int} {L : Nat} {xs : Nat → Int} {M : mM} {Q : Int → mM → Prop} (hxs : ∀ j, m_ir (xs j)) (hL2 : L ≤ 2048) (h : (m_ir ((L : Int) - 4)) ∧ (((L : Int) - 4) < x3 → Q 1 M) ∧ (¬ ((L : Int) - 4) < x3 → (0 ≤ x3 ∧ x3 < (L : Int)) ∧ ((m_and (xs (x3).toNat) 31) = 0 → X_ (kk_L_law L xs) 164 [v_S, v_P 0, v_P 79, v_I x3] [] M Q) ∧ ((m_and (xs (x3).toNat) 31) = 1 → X_ (kk_L_law L xs) 207 [v_S, v_P 0, v_P 79, v_I x3] [] M Q) ∧ ((m_and (xs (x3).toNat) 31) = 2 → X_ (kk_L_law L xs) 220 [v_S, v_P 0, v_P 79, v_I x3] [] M Q) ∧ ((m_and (xs (x3).toNat) 31) = 3 → X_ (kk_L_law L xs) 263 [v_S, v_P 0, v_P 79, v_I x3] [] M Q) ∧ ((m_and (xs (x3).toNat) 31) = 4 → X_ (kk_L_law L xs) 286 [v_S, v_P 0, v_P 79, v_I x3] [] M Q) ∧ ((m_and (xs (x3).toNat) 31) = 5 → X_ (kk_L_law L xs) 299 [v_S, v_P 0, v_P 79, v_I x3] [] M Q) ∧ ((m_and (xs (x3).toNat) 31) = 6 → X_ (kk_L_law L xs) 312 [v_S, v_P 0, v_P 79, v_I x3] [] M Q) ∧ ((m_and (xs (x3).toNat) 31) = 7 → X_ (kk_L_law L xs) 335 [v_S, v_P 0, v_P 79, v_I x3] [] M Q) ∧ ((m_and (xs (x3).toNat) 31) = 8 → X_ (kk_L_law L xs) 378 [v_S, v_P 0, v_P 79, v_I x3] [] M Q) ∧ ((m_and (xs (x3).toNat) 31) = 9 → X_ (kk_L_law L xs) 411 [v_S, v_P 0, v_P 79, v_I x3] [] M Q) ∧ ((m_and (xs (x3).toNat) 31) = 10 → X_ (kk_L_law L xs) 444 [v_S, v_P 0, v_P 79, v_I x3] [] M Q) ∧ ((m_and (xs (x3).toNat) 31) = 11 → X_ (kk_L_law L xs) 477 [v_S, v_P 0, v_P 79, v_I x3] [] M Q) ∧ ((m_and (xs (x3).toNat) 31) = 12 → X_ (kk_L_law L xs) 500 [v_S, v_P 0, v_P 79, v_I x3] [] M Q) ∧ ((m_and (xs (x3).toNat) 31) = 13 → X_ (kk_L_law L xs) 533 [v_S, v_P 0, v_P 79, v_I x3] [] M Q) ∧ ((m_and (xs (x3).toNat) 31) = 14 → X_ (kk_L_law L xs) 556 [v_S, v_P 0, v_P 79, v_I x3] [] M Q) ∧ ((m_and (xs (x3).toNat) 31) = 15 → X_ (kk_L_law L xs) 589 [v_S, v_P 0, v_P 79, v_I x3] [] M Q) ∧ ((m_and (xs (x3).toNat) 31) = 16 → X_ (kk_L_law L xs) 622 [v_S, v_P 0, v_P 79, v_I x3] [] M Q) ∧ ((m_and (xs (x3).toNat) 31) = 17 → X_ (kk_L_law L xs) 645 [v_S, v_P 0, v_P 79, v_I x3] [] M Q) ∧ ((m_and (xs (x3).toNat) 31) = 18 → X_ (kk_L_law L xs) 678 [v_S, v_P 0, v_P 79, v_I x3] [] M Q) ∧ ((m_and (xs (x3).toNat) 31) = 19 → X_ (kk_L_law L xs) 711 [v_S, v_P 0, v_P 79, v_I x3] [] M Q) ∧ ((m_and (xs (x3).toNat) 31) = 20 → X_ (kk_L_law L xs) 724 [v_S, v_P 0, v_P 79, v_I x3] [] M Q) ∧ ((m_and (xs (x3).toNat) 31) = 21 → X_ (kk_L_law L xs) 747 [v_S, v_P 0, v_P 79, v_I x3] [] M Q) ∧ ((m_and (xs (x3).toNat) 31) = 22 → X_ (kk_L_law L xs) 770 [v_S, v_P 0, v_P 79, v_I x3] [] M Q) ∧ ((m_and (xs (x3).toNat) 31) = 23 → X_ (kk_L_law L xs) 793 [v_S, v_P 0, v_P 79, v_I x3] [] M Q) ∧ ((m_and (xs (x3).toNat) 31) = 24 → X_ (kk_L_law L xs) 826 [v_S, v_P 0, v_P 79, v_I x3] [] M Q) ∧ ((m_and (xs (x3).toNat) 31) = 25 → X_ (kk_L_law L xs) 849 [v_S, v_P 0, v_P 79, v_I x3] [] M Q) ∧ ((m_and (xs (x3).toNat) 31) = 26 → X_ (kk_L_law L xs) 872 [v_S, v_P 0, v_P 79, v_I x3] [] M Q) ∧ ((m_and (xs (x3).toNat) 31) = 27 → X_ (kk_L_law L xs) 885 [v_S, v_P 0, v_P 79, v_I x3] [] M Q) ∧ ((m_and (xs (x3).toNat) 31) = 28 → X_ (kk_L_law L xs) 928 [v_S, v_P 0, v_P 79, v_I x3] [] M Q) ∧ (((m_and (xs (x3).toNat) 31) < 0 ∨ 28 < (m_and (xs (x3).toNat) 31)) → X_ (kk_L_law L xs) 951 [v_S, v_P 0, v_P 79, v_I x3] [] M Q))) : X_ (kk_L_law L xs) 18 [v_S, v_P 0, v_P 79, v_I x3] [] M Q := by
  refine x_iload_n dL_law_18 rfl rfl ?_
  refine x_sload_n dL_law_19 rfl rfl ?_
  refine x_slen dL_law_20 rfl hL2 ?_
  refine x_iconst dL_law_21 (by decide) ?_
  obtain ⟨s1, h⟩ := h
  refine x_isub dL_law_22 s1 ?_
  refine x_ic_gt (tgt := 957) dL_law_23 (by decide) (fun hc => ?_) (fun hc => ?_)
  · replace h := h.1 hc
    refine x_iconst dL_law_957 (by decide) ?_
    refine x_iret dL_law_958 rfl (Or.inr ⟨rfl, Or.inr rfl⟩) (fun _ _ => h)
  · replace h := h.2 hc
    refine x_sload_n dL_law_26 rfl rfl ?_
    refine x_iload_n dL_law_27 rfl rfl ?_
    obtain ⟨s2, h⟩ := h
    refine x_sald dL_law_28 rfl hxs s2 ?_
    refine x_bipush dL_law_29 (by decide) (by decide) ?_
    refine x_iand dL_law_31 ?_
    by_cases hx : (m_and (xs (x3).toNat) 31) = 0
    · refine x_tsIn (k := (kk_L_law L xs)) (pc := 32) (x := (m_and (xs (x3).toNat) 31)) (j := 0) (off := 132) (tgt := 164) dL_law_32 hx ⟨by decide, by decide⟩ rfl (by decide) ?_
      replace h := h.1 hx
      exact h
    · replace h := h.2
      by_cases hx : (m_and (xs (x3).toNat) 31) = 1
      · refine x_tsIn (k := (kk_L_law L xs)) (pc := 32) (x := (m_and (xs (x3).toNat) 31)) (j := 1) (off := 175) (tgt := 207) dL_law_32 hx ⟨by decide, by decide⟩ rfl (by decide) ?_
        replace h := h.1 hx
        exact h
      · replace h := h.2
        by_cases hx : (m_and (xs (x3).toNat) 31) = 2
        · refine x_tsIn (k := (kk_L_law L xs)) (pc := 32) (x := (m_and (xs (x3).toNat) 31)) (j := 2) (off := 188) (tgt := 220) dL_law_32 hx ⟨by decide, by decide⟩ rfl (by decide) ?_
          replace h := h.1 hx
          exact h
        · replace h := h.2
          by_cases hx : (m_and (xs (x3).toNat) 31) = 3
          · refine x_tsIn (k := (kk_L_law L xs)) (pc := 32) (x := (m_and (xs (x3).toNat) 31)) (j := 3) (off := 231) (tgt := 263) dL_law_32 hx ⟨by decide, by decide⟩ rfl (by decide) ?_
            replace h := h.1 hx
            exact h
          · replace h := h.2
            by_cases hx : (m_and (xs (x3).toNat) 31) = 4
            · refine x_tsIn (k := (kk_L_law L xs)) (pc := 32) (x := (m_and (xs (x3).toNat) 31)) (j := 4) (off := 254) (tgt := 286) dL_law_32 hx ⟨by decide, by decide⟩ rfl (by decide) ?_
              replace h := h.1 hx
              exact h
            · replace h := h.2
              by_cases hx : (m_and (xs (x3).toNat) 31) = 5
              · refine x_tsIn (k := (kk_L_law L xs)) (pc := 32) (x := (m_and (xs (x3).toNat) 31)) (j := 5) (off := 267) (tgt := 299) dL_law_32 hx ⟨by decide, by decide⟩ rfl (by decide) ?_
                replace h := h.1 hx
                exact h
              · replace h := h.2
                by_cases hx : (m_and (xs (x3).toNat) 31) = 6
                · refine x_tsIn (k := (kk_L_law L xs)) (pc := 32) (x := (m_and (xs (x3).toNat) 31)) (j := 6) (off := 280) (tgt := 312) dL_law_32 hx ⟨by decide, by decide⟩ rfl (by decide) ?_
                  replace h := h.1 hx
                  exact h
                · replace h := h.2
                  by_cases hx : (m_and (xs (x3).toNat) 31) = 7
                  · refine x_tsIn (k := (kk_L_law L xs)) (pc := 32) (x := (m_and (xs (x3).toNat) 31)) (j := 7) (off := 303) (tgt := 335) dL_law_32 hx ⟨by decide, by decide⟩ rfl (by decide) ?_
                    replace h := h.1 hx
                    exact h
                  · replace h := h.2
                    by_cases hx : (m_and (xs (x3).toNat) 31) = 8
                    · refine x_tsIn (k := (kk_L_law L xs)) (pc := 32) (x := (m_and (xs (x3).toNat) 31)) (j := 8) (off := 346) (tgt := 378) dL_law_32 hx ⟨by decide, by decide⟩ rfl (by decide) ?_
                      replace h := h.1 hx
                      exact h
                    · replace h := h.2
                      by_cases hx : (m_and (xs (x3).toNat) 31) = 9
                      · refine x_tsIn (k := (kk_L_law L xs)) (pc := 32) (x := (m_and (xs (x3).toNat) 31)) (j := 9) (off := 379) (tgt := 411) dL_law_32 hx ⟨by decide, by decide⟩ rfl (by decide) ?_
                        replace h := h.1 hx
                        exact h
                      · replace h := h.2
                        by_cases hx : (m_and (xs (x3).toNat) 31) = 10
                        · refine x_tsIn (k := (kk_L_law L xs)) (pc := 32) (x := (m_and (xs (x3).toNat) 31)) (j := 10) (off := 412) (tgt := 444) dL_law_32 hx ⟨by decide, by decide⟩ rfl (by decide) ?_
                          replace h := h.1 hx
                          exact h
                        · replace h := h.2
                          by_cases hx : (m_and (xs (x3).toNat) 31) = 11
                          · refine x_tsIn (k := (kk_L_law L xs)) (pc := 32) (x := (m_and (xs (x3).toNat) 31)) (j := 11) (off := 445) (tgt := 477) dL_law_32 hx ⟨by decide, by decide⟩ rfl (by decide) ?_
                            replace h := h.1 hx
                            exact h
                          · replace h := h.2
                            by_cases hx : (m_and (xs (x3).toNat) 31) = 12
                            · refine x_tsIn (k := (kk_L_law L xs)) (pc := 32) (x := (m_and (xs (x3).toNat) 31)) (j := 12) (off := 468) (tgt := 500) dL_law_32 hx ⟨by decide, by decide⟩ rfl (by decide) ?_
                              replace h := h.1 hx
                              exact h
                            · replace h := h.2
                              by_cases hx : (m_and (xs (x3).toNat) 31) = 13
                              · refine x_tsIn (k := (kk_L_law L xs)) (pc := 32) (x := (m_and (xs (x3).toNat) 31)) (j := 13) (off := 501) (tgt := 533) dL_law_32 hx ⟨by decide, by decide⟩ rfl (by decide) ?_
                                replace h := h.1 hx
                                exact h
                              · replace h := h.2
                                by_cases hx : (m_and (xs (x3).toNat) 31) = 14
                                · refine x_tsIn (k := (kk_L_law L xs)) (pc := 32) (x := (m_and (xs (x3).toNat) 31)) (j := 14) (off := 524) (tgt := 556) dL_law_32 hx ⟨by decide, by decide⟩ rfl (by decide) ?_
                                  replace h := h.1 hx
                                  exact h
                                · replace h := h.2
                                  by_cases hx : (m_and (xs (x3).toNat) 31) = 15
                                  · refine x_tsIn (k := (kk_L_law L xs)) (pc := 32) (x := (m_and (xs (x3).toNat) 31)) (j := 15) (off := 557) (tgt := 589) dL_law_32 hx ⟨by decide, by decide⟩ rfl (by decide) ?_
                                    replace h := h.1 hx
                                    exact h
                                  · replace h := h.2
                                    by_cases hx : (m_and (xs (x3).toNat) 31) = 16
                                    · refine x_tsIn (k := (kk_L_law L xs)) (pc := 32) (x := (m_and (xs (x3).toNat) 31)) (j := 16) (off := 590) (tgt := 622) dL_law_32 hx ⟨by decide, by decide⟩ rfl (by decide) ?_
                                      replace h := h.1 hx
                                      exact h
                                    · replace h := h.2
                                      by_cases hx : (m_and (xs (x3).toNat) 31) = 17
                                      · refine x_tsIn (k := (kk_L_law L xs)) (pc := 32) (x := (m_and (xs (x3).toNat) 31)) (j := 17) (off := 613) (tgt := 645) dL_law_32 hx ⟨by decide, by decide⟩ rfl (by decide) ?_
                                        replace h := h.1 hx
                                        exact h
                                      · replace h := h.2
                                        by_cases hx : (m_and (xs (x3).toNat) 31) = 18
                                        · refine x_tsIn (k := (kk_L_law L xs)) (pc := 32) (x := (m_and (xs (x3).toNat) 31)) (j := 18) (off := 646) (tgt := 678) dL_law_32 hx ⟨by decide, by decide⟩ rfl (by decide) ?_
                                          replace h := h.1 hx
                                          exact h
                                        · replace h := h.2
                                          by_cases hx : (m_and (xs (x3).toNat) 31) = 19
                                          · refine x_tsIn (k := (kk_L_law L xs)) (pc := 32) (x := (m_and (xs (x3).toNat) 31)) (j := 19) (off := 679) (tgt := 711) dL_law_32 hx ⟨by decide, by decide⟩ rfl (by decide) ?_
                                            replace h := h.1 hx
                                            exact h
                                          · replace h := h.2
                                            by_cases hx : (m_and (xs (x3).toNat) 31) = 20
                                            · refine x_tsIn (k := (kk_L_law L xs)) (pc := 32) (x := (m_and (xs (x3).toNat) 31)) (j := 20) (off := 692) (tgt := 724) dL_law_32 hx ⟨by decide, by decide⟩ rfl (by decide) ?_
                                              replace h := h.1 hx
                                              exact h
                                            · replace h := h.2
                                              by_cases hx : (m_and (xs (x3).toNat) 31) = 21
                                              · refine x_tsIn (k := (kk_L_law L xs)) (pc := 32) (x := (m_and (xs (x3).toNat) 31)) (j := 21) (off := 715) (tgt := 747) dL_law_32 hx ⟨by decide, by decide⟩ rfl (by decide) ?_
                                                replace h := h.1 hx
                                                exact h
                                              · replace h := h.2
                                                by_cases hx : (m_and (xs (x3).toNat) 31) = 22
                                                · refine x_tsIn (k := (kk_L_law L xs)) (pc := 32) (x := (m_and (xs (x3).toNat) 31)) (j := 22) (off := 738) (tgt := 770) dL_law_32 hx ⟨by decide, by decide⟩ rfl (by decide) ?_
                                                  replace h := h.1 hx
                                                  exact h
                                                · replace h := h.2
                                                  by_cases hx : (m_and (xs (x3).toNat) 31) = 23
                                                  · refine x_tsIn (k := (kk_L_law L xs)) (pc := 32) (x := (m_and (xs (x3).toNat) 31)) (j := 23) (off := 761) (tgt := 793) dL_law_32 hx ⟨by decide, by decide⟩ rfl (by decide) ?_
                                                    replace h := h.1 hx
                                                    exact h
                                                  · replace h := h.2
                                                    by_cases hx : (m_and (xs (x3).toNat) 31) = 24
                                                    · refine x_tsIn (k := (kk_L_law L xs)) (pc := 32) (x := (m_and (xs (x3).toNat) 31)) (j := 24) (off := 794) (tgt := 826) dL_law_32 hx ⟨by decide, by decide⟩ rfl (by decide) ?_
                                                      replace h := h.1 hx
                                                      exact h
                                                    · replace h := h.2
                                                      by_cases hx : (m_and (xs (x3).toNat) 31) = 25
                                                      · refine x_tsIn (k := (kk_L_law L xs)) (pc := 32) (x := (m_and (xs (x3).toNat) 31)) (j := 25) (off := 817) (tgt := 849) dL_law_32 hx ⟨by decide, by decide⟩ rfl (by decide) ?_
                                                        replace h := h.1 hx
                                                        exact h
                                                      · replace h := h.2
                                                        by_cases hx : (m_and (xs (x3).toNat) 31) = 26
                                                        · refine x_tsIn (k := (kk_L_law L xs)) (pc := 32) (x := (m_and (xs (x3).toNat) 31)) (j := 26) (off := 840) (tgt := 872) dL_law_32 hx ⟨by decide, by decide⟩ rfl (by decide) ?_
                                                          replace h := h.1 hx
                                                          exact h
                                                        · replace h := h.2
                                                          by_cases hx : (m_and (xs (x3).toNat) 31) = 27
                                                          · refine x_tsIn (k := (kk_L_law L xs)) (pc := 32) (x := (m_and (xs (x3).toNat) 31)) (j := 27) (off := 853) (tgt := 885) dL_law_32 hx ⟨by decide, by decide⟩ rfl (by decide) ?_
                                                            replace h := h.1 hx
                                                            exact h
                                                          · replace h := h.2
                                                            by_cases hx : (m_and (xs (x3).toNat) 31) = 28
                                                            · refine x_tsIn (k := (kk_L_law L xs)) (pc := 32) (x := (m_and (xs (x3).toNat) 31)) (j := 28) (off := 896) (tgt := 928) dL_law_32 hx ⟨by decide, by decide⟩ rfl (by decide) ?_
                                                              replace h := h.1 hx
                                                              exact h
                                                            · replace h := h.2
                                                              have ho : (m_and (xs (x3).toNat) 31) < 0 ∨ 28 < (m_and (xs (x3).toNat) 31) := by clear h; omega
                                                              refine x_tsOut (k := (kk_L_law L xs)) (pc := 32) (x := (m_and (xs (x3).toNat) 31)) (tgt := 951) dL_law_32 ho (by decide) ?_
                                                              replace h := h ho
                                                              exact h
theorem wp_L_law_164 {x3 : Int} {L : Nat} {xs : Nat → Int} {M : mM} {Q : Int → mM → Prop} (hxs : ∀ j, m_ir (xs j)) (hL2 : L ≤ 2048) (h : (m_ir (x3 + 1)) ∧ (0 ≤ (x3 + 1) ∧ (x3 + 1) < (L : Int)) ∧ (m_ir (x3 + 2)) ∧ (0 ≤ (x3 + 2) ∧ (x3 + 2) < (L : Int)) ∧ (m_ir (x3 + 3)) ∧ (0 ≤ (x3 + 3) ∧ (x3 + 3) < (L : Int)) ∧ ∃ Qc7 : Int → mM → Prop, C_ kk_X10_lot [v_P 0, v_I (xs ((x3 + 1)).toNat), v_I (xs ((x3 + 2)).toNat), v_I (xs ((x3 + 3)).toNat)] M Qc7 ∧ ∀ (r8 : Int) (M9 : mM), m_ir r8 → m_okM M9 → Qc7 r8 M9 → (m_ir (x3 + 1)) ∧ (0 ≤ (x3 + 1) ∧ (x3 + 1) < (L : Int)) ∧ (m_ir (x3 + 2)) ∧ (0 ≤ (x3 + 2) ∧ (x3 + 2) < (L : Int)) ∧ (m_ir (x3 + 3)) ∧ (0 ≤ (x3 + 3) ∧ (x3 + 3) < (L : Int)) ∧ ∃ Qc20 : Int → mM → Prop, C_ kk_X11_lot [v_P 79, v_I (xs ((x3 + 1)).toNat), v_I (xs ((x3 + 2)).toNat), v_I (xs ((x3 + 3)).toNat)] M9 Qc20 ∧ ∀ (r21 : Int) (M22 : mM), m_ir r21 → m_okM M22 → Qc20 r21 M22 → (r8 = r21 → X_ (kk_L_law L xs) 951 [v_S, v_P 0, v_P 79, v_I x3] [] M22 Q) ∧ (¬ r8 = r21 → Q 0 M22)) : X_ (kk_L_law L xs) 164 [v_S, v_P 0, v_P 79, v_I x3] [] M Q := by
  refine x_aload_n dL_law_164 rfl rfl ?_
  refine x_sload_n dL_law_165 rfl rfl ?_
  refine x_iload_n dL_law_166 rfl rfl ?_
  refine x_iconst dL_law_167 (by decide) ?_
  obtain ⟨s1, h⟩ := h
  refine x_iadd dL_law_168 s1 ?_
  obtain ⟨s2, h⟩ := h
  refine x_sald dL_law_169 rfl hxs s2 ?_
  refine x_sload_n dL_law_170 rfl rfl ?_
  refine x_iload_n dL_law_171 rfl rfl ?_
  refine x_iconst dL_law_172 (by decide) ?_
  obtain ⟨s3, h⟩ := h
  refine x_iadd dL_law_173 s3 ?_
  obtain ⟨s4, h⟩ := h
  refine x_sald dL_law_174 rfl hxs s4 ?_
  refine x_sload_n dL_law_175 rfl rfl ?_
  refine x_iload_n dL_law_176 rfl rfl ?_
  refine x_iconst dL_law_177 (by decide) ?_
  obtain ⟨s5, h⟩ := h
  refine x_iadd dL_law_178 s5 ?_
  obtain ⟨s6, h⟩ := h
  refine x_sald dL_law_179 rfl hxs s6 ?_
  obtain ⟨Qc7, hc10, h⟩ := h
  refine x_callV (as := [v_I (xs ((x3 + 1)).toNat), v_I (xs ((x3 + 2)).toNat), v_I (xs ((x3 + 3)).toNat)]) (st := []) (Qc := Qc7) dL_law_180 mt_X10_lot ml_L_13 ⟨Nat.le_of_ble_eq_true rfl, Nat.le_of_ble_eq_true rfl⟩ sh_0 rfl (fun _ _ => Nat.le_of_ble_eq_true rfl) hc10 (fun r8 M9 hr11 hM12 hq13 => ?_)
  replace h := h r8 M9 hr11 hM12 hq13
  change X_ (kk_L_law L xs) 183 [v_S, v_P 0, v_P 79, v_I x3] [v_I r8] M9 Q
  refine x_aload_n dL_law_183 rfl rfl ?_
  refine x_sload_n dL_law_184 rfl rfl ?_
  refine x_iload_n dL_law_185 rfl rfl ?_
  refine x_iconst dL_law_186 (by decide) ?_
  obtain ⟨s14, h⟩ := h
  refine x_iadd dL_law_187 s14 ?_
  obtain ⟨s15, h⟩ := h
  refine x_sald dL_law_188 rfl hxs s15 ?_
  refine x_sload_n dL_law_189 rfl rfl ?_
  refine x_iload_n dL_law_190 rfl rfl ?_
  refine x_iconst dL_law_191 (by decide) ?_
  obtain ⟨s16, h⟩ := h
  refine x_iadd dL_law_192 s16 ?_
  obtain ⟨s17, h⟩ := h
  refine x_sald dL_law_193 rfl hxs s17 ?_
  refine x_sload_n dL_law_194 rfl rfl ?_
  refine x_iload_n dL_law_195 rfl rfl ?_
  refine x_iconst dL_law_196 (by decide) ?_
  obtain ⟨s18, h⟩ := h
  refine x_iadd dL_law_197 s18 ?_
  obtain ⟨s19, h⟩ := h
  refine x_sald dL_law_198 rfl hxs s19 ?_
  obtain ⟨Qc20, hc23, h⟩ := h
  refine x_callV (as := [v_I (xs ((x3 + 1)).toNat), v_I (xs ((x3 + 2)).toNat), v_I (xs ((x3 + 3)).toNat)]) (st := [v_I r8]) (Qc := Qc20) dL_law_199 mt_X11_lot ml_L_17 ⟨Nat.le_of_ble_eq_true rfl, Nat.le_of_ble_eq_true rfl⟩ sh_79 rfl (fun _ _ => Nat.le_of_ble_eq_true rfl) hc23 (fun r21 M22 hr24 hM25 hq26 => ?_)
  replace h := h r21 M22 hr24 hM25 hq26
  change X_ (kk_L_law L xs) 202 [v_S, v_P 0, v_P 79, v_I x3] [v_I r21, v_I r8] M22 Q
  refine x_ic_eq (tgt := 951) dL_law_202 (by decide) (fun hc => ?_) (fun hc => ?_)
  · replace h := h.1 hc
    exact h
  · replace h := h.2 hc
    refine x_iconst dL_law_205 (by decide) ?_
    refine x_iret dL_law_206 rfl (Or.inr ⟨rfl, Or.inl rfl⟩) (fun _ _ => h)
theorem wp_L_law_207 {x3 : Int} {L : Nat} {xs : Nat → Int} {M : mM} {Q : Int → mM → Prop} (hxs : ∀ j, m_ir (xs j)) (hL2 : L ≤ 2048) (h : ∃ Qc1 : Int → mM → Prop, C_ kk_X10_buyer [v_P 0] M Qc1 ∧ ∀ (r2 : Int) (M3 : mM), m_ir r2 → m_okM M3 → Qc1 r2 M3 → ∃ Qc8 : Int → mM → Prop, C_ kk_X11_buyer [v_P 79] M3 Qc8 ∧ ∀ (r9 : Int) (M10 : mM), m_ir r9 → m_okM M10 → Qc8 r9 M10 → (r2 = r9 → X_ (kk_L_law L xs) 951 [v_S, v_P 0, v_P 79, v_I x3] [] M10 Q) ∧ (¬ r2 = r9 → Q 0 M10)) : X_ (kk_L_law L xs) 207 [v_S, v_P 0, v_P 79, v_I x3] [] M Q := by
  refine x_aload_n dL_law_207 rfl rfl ?_
  obtain ⟨Qc1, hc4, h⟩ := h
  refine x_callV (as := []) (st := []) (Qc := Qc1) dL_law_208 mt_X10_buyer ml_L_18 ⟨Nat.le_of_ble_eq_true rfl, Nat.le_of_ble_eq_true rfl⟩ sh_0 rfl (fun _ _ => Nat.le_of_ble_eq_true rfl) hc4 (fun r2 M3 hr5 hM6 hq7 => ?_)
  replace h := h r2 M3 hr5 hM6 hq7
  change X_ (kk_L_law L xs) 211 [v_S, v_P 0, v_P 79, v_I x3] [v_I r2] M3 Q
  refine x_aload_n dL_law_211 rfl rfl ?_
  obtain ⟨Qc8, hc11, h⟩ := h
  refine x_callV (as := []) (st := [v_I r2]) (Qc := Qc8) dL_law_212 mt_X11_buyer ml_L_22 ⟨Nat.le_of_ble_eq_true rfl, Nat.le_of_ble_eq_true rfl⟩ sh_79 rfl (fun _ _ => Nat.le_of_ble_eq_true rfl) hc11 (fun r9 M10 hr12 hM13 hq14 => ?_)
  replace h := h r9 M10 hr12 hM13 hq14
  change X_ (kk_L_law L xs) 215 [v_S, v_P 0, v_P 79, v_I x3] [v_I r9, v_I r2] M10 Q
  refine x_ic_eq (tgt := 951) dL_law_215 (by decide) (fun hc => ?_) (fun hc => ?_)
  · replace h := h.1 hc
    exact h
  · replace h := h.2 hc
    refine x_iconst dL_law_218 (by decide) ?_
    refine x_iret dL_law_219 rfl (Or.inr ⟨rfl, Or.inl rfl⟩) (fun _ _ => h)
theorem wp_L_law_220 {x3 : Int} {L : Nat} {xs : Nat → Int} {M : mM} {Q : Int → mM → Prop} (hxs : ∀ j, m_ir (xs j)) (hL2 : L ≤ 2048) (h : (m_ir (x3 + 1)) ∧ (0 ≤ (x3 + 1) ∧ (x3 + 1) < (L : Int)) ∧ (m_ir (x3 + 2)) ∧ (0 ≤ (x3 + 2) ∧ (x3 + 2) < (L : Int)) ∧ (m_ir (x3 + 3)) ∧ (0 ≤ (x3 + 3) ∧ (x3 + 3) < (L : Int)) ∧ ∃ Qc7 : Int → mM → Prop, C_ kk_X10_set [v_P 0, v_I (xs ((x3 + 1)).toNat), v_I (xs ((x3 + 2)).toNat), v_I (xs ((x3 + 3)).toNat)] M Qc7 ∧ ∀ (r8 : Int) (M9 : mM), m_ir r8 → m_okM M9 → Qc7 r8 M9 → (m_ir (x3 + 1)) ∧ (0 ≤ (x3 + 1) ∧ (x3 + 1) < (L : Int)) ∧ (m_ir (x3 + 2)) ∧ (0 ≤ (x3 + 2) ∧ (x3 + 2) < (L : Int)) ∧ (m_ir (x3 + 3)) ∧ (0 ≤ (x3 + 3) ∧ (x3 + 3) < (L : Int)) ∧ ∃ Qc20 : Int → mM → Prop, C_ kk_X11_set [v_P 79, v_I (xs ((x3 + 1)).toNat), v_I (xs ((x3 + 2)).toNat), v_I (xs ((x3 + 3)).toNat)] M9 Qc20 ∧ ∀ (r21 : Int) (M22 : mM), m_ir r21 → m_okM M22 → Qc20 r21 M22 → (r8 = r21 → X_ (kk_L_law L xs) 951 [v_S, v_P 0, v_P 79, v_I x3] [] M22 Q) ∧ (¬ r8 = r21 → Q 0 M22)) : X_ (kk_L_law L xs) 220 [v_S, v_P 0, v_P 79, v_I x3] [] M Q := by
  refine x_aload_n dL_law_220 rfl rfl ?_
  refine x_sload_n dL_law_221 rfl rfl ?_
  refine x_iload_n dL_law_222 rfl rfl ?_
  refine x_iconst dL_law_223 (by decide) ?_
  obtain ⟨s1, h⟩ := h
  refine x_iadd dL_law_224 s1 ?_
  obtain ⟨s2, h⟩ := h
  refine x_sald dL_law_225 rfl hxs s2 ?_
  refine x_sload_n dL_law_226 rfl rfl ?_
  refine x_iload_n dL_law_227 rfl rfl ?_
  refine x_iconst dL_law_228 (by decide) ?_
  obtain ⟨s3, h⟩ := h
  refine x_iadd dL_law_229 s3 ?_
  obtain ⟨s4, h⟩ := h
  refine x_sald dL_law_230 rfl hxs s4 ?_
  refine x_sload_n dL_law_231 rfl rfl ?_
  refine x_iload_n dL_law_232 rfl rfl ?_
  refine x_iconst dL_law_233 (by decide) ?_
  obtain ⟨s5, h⟩ := h
  refine x_iadd dL_law_234 s5 ?_
  obtain ⟨s6, h⟩ := h
  refine x_sald dL_law_235 rfl hxs s6 ?_
  obtain ⟨Qc7, hc10, h⟩ := h
  refine x_callV (as := [v_I (xs ((x3 + 1)).toNat), v_I (xs ((x3 + 2)).toNat), v_I (xs ((x3 + 3)).toNat)]) (st := []) (Qc := Qc7) dL_law_236 mt_X10_set ml_L_23 ⟨Nat.le_of_ble_eq_true rfl, Nat.le_of_ble_eq_true rfl⟩ sh_0 rfl (fun _ _ => Nat.le_of_ble_eq_true rfl) hc10 (fun r8 M9 hr11 hM12 hq13 => ?_)
  replace h := h r8 M9 hr11 hM12 hq13
  change X_ (kk_L_law L xs) 239 [v_S, v_P 0, v_P 79, v_I x3] [v_I r8] M9 Q
  refine x_aload_n dL_law_239 rfl rfl ?_
  refine x_sload_n dL_law_240 rfl rfl ?_
  refine x_iload_n dL_law_241 rfl rfl ?_
  refine x_iconst dL_law_242 (by decide) ?_
  obtain ⟨s14, h⟩ := h
  refine x_iadd dL_law_243 s14 ?_
  obtain ⟨s15, h⟩ := h
  refine x_sald dL_law_244 rfl hxs s15 ?_
  refine x_sload_n dL_law_245 rfl rfl ?_
  refine x_iload_n dL_law_246 rfl rfl ?_
  refine x_iconst dL_law_247 (by decide) ?_
  obtain ⟨s16, h⟩ := h
  refine x_iadd dL_law_248 s16 ?_
  obtain ⟨s17, h⟩ := h
  refine x_sald dL_law_249 rfl hxs s17 ?_
  refine x_sload_n dL_law_250 rfl rfl ?_
  refine x_iload_n dL_law_251 rfl rfl ?_
  refine x_iconst dL_law_252 (by decide) ?_
  obtain ⟨s18, h⟩ := h
  refine x_iadd dL_law_253 s18 ?_
  obtain ⟨s19, h⟩ := h
  refine x_sald dL_law_254 rfl hxs s19 ?_
  obtain ⟨Qc20, hc23, h⟩ := h
  refine x_callV (as := [v_I (xs ((x3 + 1)).toNat), v_I (xs ((x3 + 2)).toNat), v_I (xs ((x3 + 3)).toNat)]) (st := [v_I r8]) (Qc := Qc20) dL_law_255 mt_X11_set ml_L_26 ⟨Nat.le_of_ble_eq_true rfl, Nat.le_of_ble_eq_true rfl⟩ sh_79 rfl (fun _ _ => Nat.le_of_ble_eq_true rfl) hc23 (fun r21 M22 hr24 hM25 hq26 => ?_)
  replace h := h r21 M22 hr24 hM25 hq26
  change X_ (kk_L_law L xs) 258 [v_S, v_P 0, v_P 79, v_I x3] [v_I r21, v_I r8] M22 Q
  refine x_ic_eq (tgt := 951) dL_law_258 (by decide) (fun hc => ?_) (fun hc => ?_)
  · replace h := h.1 hc
    exact h
  · replace h := h.2 hc
    refine x_iconst dL_law_261 (by decide) ?_
    refine x_iret dL_law_262 rfl (Or.inr ⟨rfl, Or.inl rfl⟩) (fun _ _ => h)
theorem wp_L_law_263 {x3 : Int} {L : Nat} {xs : Nat → Int} {M : mM} {Q : Int → mM → Prop} (hxs : ∀ j, m_ir (xs j)) (hL2 : L ≤ 2048) (h : (m_ir (x3 + 1)) ∧ (0 ≤ (x3 + 1) ∧ (x3 + 1) < (L : Int)) ∧ ∃ Qc3 : Int → mM → Prop, C_ kk_X10_say [v_P 0, v_I (xs ((x3 + 1)).toNat)] M Qc3 ∧ ∀ (r4 : Int) (M5 : mM), m_ir r4 → m_okM M5 → Qc3 r4 M5 → (m_ir (x3 + 1)) ∧ (0 ≤ (x3 + 1) ∧ (x3 + 1) < (L : Int)) ∧ ∃ Qc12 : Int → mM → Prop, C_ kk_X11_say [v_P 79, v_I (xs ((x3 + 1)).toNat)] M5 Qc12 ∧ ∀ (r13 : Int) (M14 : mM), m_ir r13 → m_okM M14 → Qc12 r13 M14 → (r4 = r13 → X_ (kk_L_law L xs) 951 [v_S, v_P 0, v_P 79, v_I x3] [] M14 Q) ∧ (¬ r4 = r13 → Q 0 M14)) : X_ (kk_L_law L xs) 263 [v_S, v_P 0, v_P 79, v_I x3] [] M Q := by
  refine x_aload_n dL_law_263 rfl rfl ?_
  refine x_sload_n dL_law_264 rfl rfl ?_
  refine x_iload_n dL_law_265 rfl rfl ?_
  refine x_iconst dL_law_266 (by decide) ?_
  obtain ⟨s1, h⟩ := h
  refine x_iadd dL_law_267 s1 ?_
  obtain ⟨s2, h⟩ := h
  refine x_sald dL_law_268 rfl hxs s2 ?_
  obtain ⟨Qc3, hc6, h⟩ := h
  refine x_callV (as := [v_I (xs ((x3 + 1)).toNat)]) (st := []) (Qc := Qc3) dL_law_269 mt_X10_say ml_L_27 ⟨Nat.le_of_ble_eq_true rfl, Nat.le_of_ble_eq_true rfl⟩ sh_0 rfl (fun _ _ => Nat.le_of_ble_eq_true rfl) hc6 (fun r4 M5 hr7 hM8 hq9 => ?_)
  replace h := h r4 M5 hr7 hM8 hq9
  change X_ (kk_L_law L xs) 272 [v_S, v_P 0, v_P 79, v_I x3] [v_I r4] M5 Q
  refine x_aload_n dL_law_272 rfl rfl ?_
  refine x_sload_n dL_law_273 rfl rfl ?_
  refine x_iload_n dL_law_274 rfl rfl ?_
  refine x_iconst dL_law_275 (by decide) ?_
  obtain ⟨s10, h⟩ := h
  refine x_iadd dL_law_276 s10 ?_
  obtain ⟨s11, h⟩ := h
  refine x_sald dL_law_277 rfl hxs s11 ?_
  obtain ⟨Qc12, hc15, h⟩ := h
  refine x_callV (as := [v_I (xs ((x3 + 1)).toNat)]) (st := [v_I r4]) (Qc := Qc12) dL_law_278 mt_X11_say ml_L_31 ⟨Nat.le_of_ble_eq_true rfl, Nat.le_of_ble_eq_true rfl⟩ sh_79 rfl (fun _ _ => Nat.le_of_ble_eq_true rfl) hc15 (fun r13 M14 hr16 hM17 hq18 => ?_)
  replace h := h r13 M14 hr16 hM17 hq18
  change X_ (kk_L_law L xs) 281 [v_S, v_P 0, v_P 79, v_I x3] [v_I r13, v_I r4] M14 Q
  refine x_ic_eq (tgt := 951) dL_law_281 (by decide) (fun hc => ?_) (fun hc => ?_)
  · replace h := h.1 hc
    exact h
  · replace h := h.2 hc
    refine x_iconst dL_law_284 (by decide) ?_
    refine x_iret dL_law_285 rfl (Or.inr ⟨rfl, Or.inl rfl⟩) (fun _ _ => h)
theorem wp_L_law_286 {x3 : Int} {L : Nat} {xs : Nat → Int} {M : mM} {Q : Int → mM → Prop} (hxs : ∀ j, m_ir (xs j)) (hL2 : L ≤ 2048) (h : ∃ Qc1 : Int → mM → Prop, C_ kk_X10_wipe [v_P 0] M Qc1 ∧ ∀ (r2 : Int) (M3 : mM), m_ir r2 → m_okM M3 → Qc1 r2 M3 → ∃ Qc8 : Int → mM → Prop, C_ kk_X11_wipe [v_P 79] M3 Qc8 ∧ ∀ (r9 : Int) (M10 : mM), m_ir r9 → m_okM M10 → Qc8 r9 M10 → (r2 = r9 → X_ (kk_L_law L xs) 951 [v_S, v_P 0, v_P 79, v_I x3] [] M10 Q) ∧ (¬ r2 = r9 → Q 0 M10)) : X_ (kk_L_law L xs) 286 [v_S, v_P 0, v_P 79, v_I x3] [] M Q := by
  refine x_aload_n dL_law_286 rfl rfl ?_
  obtain ⟨Qc1, hc4, h⟩ := h
  refine x_callV (as := []) (st := []) (Qc := Qc1) dL_law_287 mt_X10_wipe ml_L_32 ⟨Nat.le_of_ble_eq_true rfl, Nat.le_of_ble_eq_true rfl⟩ sh_0 rfl (fun _ _ => Nat.le_of_ble_eq_true rfl) hc4 (fun r2 M3 hr5 hM6 hq7 => ?_)
  replace h := h r2 M3 hr5 hM6 hq7
  change X_ (kk_L_law L xs) 290 [v_S, v_P 0, v_P 79, v_I x3] [v_I r2] M3 Q
  refine x_aload_n dL_law_290 rfl rfl ?_
  obtain ⟨Qc8, hc11, h⟩ := h
  refine x_callV (as := []) (st := [v_I r2]) (Qc := Qc8) dL_law_291 mt_X11_wipe ml_L_35 ⟨Nat.le_of_ble_eq_true rfl, Nat.le_of_ble_eq_true rfl⟩ sh_79 rfl (fun _ _ => Nat.le_of_ble_eq_true rfl) hc11 (fun r9 M10 hr12 hM13 hq14 => ?_)
  replace h := h r9 M10 hr12 hM13 hq14
  change X_ (kk_L_law L xs) 294 [v_S, v_P 0, v_P 79, v_I x3] [v_I r9, v_I r2] M10 Q
  refine x_ic_eq (tgt := 951) dL_law_294 (by decide) (fun hc => ?_) (fun hc => ?_)
  · replace h := h.1 hc
    exact h
  · replace h := h.2 hc
    refine x_iconst dL_law_297 (by decide) ?_
    refine x_iret dL_law_298 rfl (Or.inr ⟨rfl, Or.inl rfl⟩) (fun _ _ => h)
theorem wp_L_law_299 {x3 : Int} {L : Nat} {xs : Nat → Int} {M : mM} {Q : Int → mM → Prop} (hxs : ∀ j, m_ir (xs j)) (hL2 : L ≤ 2048) (h : ∃ Qc1 : Int → mM → Prop, C_ kk_X10_fault [v_P 0] M Qc1 ∧ ∀ (r2 : Int) (M3 : mM), m_ir r2 → m_okM M3 → Qc1 r2 M3 → ∃ Qc8 : Int → mM → Prop, C_ kk_X11_fault [v_P 79] M3 Qc8 ∧ ∀ (r9 : Int) (M10 : mM), m_ir r9 → m_okM M10 → Qc8 r9 M10 → (r2 = r9 → X_ (kk_L_law L xs) 951 [v_S, v_P 0, v_P 79, v_I x3] [] M10 Q) ∧ (¬ r2 = r9 → Q 0 M10)) : X_ (kk_L_law L xs) 299 [v_S, v_P 0, v_P 79, v_I x3] [] M Q := by
  refine x_aload_n dL_law_299 rfl rfl ?_
  obtain ⟨Qc1, hc4, h⟩ := h
  refine x_callV (as := []) (st := []) (Qc := Qc1) dL_law_300 mt_X10_fault ml_L_36 ⟨Nat.le_of_ble_eq_true rfl, Nat.le_of_ble_eq_true rfl⟩ sh_0 rfl (fun _ _ => Nat.le_of_ble_eq_true rfl) hc4 (fun r2 M3 hr5 hM6 hq7 => ?_)
  replace h := h r2 M3 hr5 hM6 hq7
  change X_ (kk_L_law L xs) 303 [v_S, v_P 0, v_P 79, v_I x3] [v_I r2] M3 Q
  refine x_aload_n dL_law_303 rfl rfl ?_
  obtain ⟨Qc8, hc11, h⟩ := h
  refine x_callV (as := []) (st := [v_I r2]) (Qc := Qc8) dL_law_304 mt_X11_fault ml_L_39 ⟨Nat.le_of_ble_eq_true rfl, Nat.le_of_ble_eq_true rfl⟩ sh_79 rfl (fun _ _ => Nat.le_of_ble_eq_true rfl) hc11 (fun r9 M10 hr12 hM13 hq14 => ?_)
  replace h := h r9 M10 hr12 hM13 hq14
  change X_ (kk_L_law L xs) 307 [v_S, v_P 0, v_P 79, v_I x3] [v_I r9, v_I r2] M10 Q
  refine x_ic_eq (tgt := 951) dL_law_307 (by decide) (fun hc => ?_) (fun hc => ?_)
  · replace h := h.1 hc
    exact h
  · replace h := h.2 hc
    refine x_iconst dL_law_310 (by decide) ?_
    refine x_iret dL_law_311 rfl (Or.inr ⟨rfl, Or.inl rfl⟩) (fun _ _ => h)
theorem wp_L_law_312 {x3 : Int} {L : Nat} {xs : Nat → Int} {M : mM} {Q : Int → mM → Prop} (hxs : ∀ j, m_ir (xs j)) (hL2 : L ≤ 2048) (h : (m_ir (x3 + 1)) ∧ (0 ≤ (x3 + 1) ∧ (x3 + 1) < (L : Int)) ∧ ∃ Qc3 : Int → mM → Prop, C_ kk_X10_wish [v_P 0, v_I (xs ((x3 + 1)).toNat)] M Qc3 ∧ ∀ (r4 : Int) (M5 : mM), m_ir r4 → m_okM M5 → Qc3 r4 M5 → (m_ir (x3 + 1)) ∧ (0 ≤ (x3 + 1) ∧ (x3 + 1) < (L : Int)) ∧ ∃ Qc12 : Int → mM → Prop, C_ kk_X11_wish [v_P 79, v_I (xs ((x3 + 1)).toNat)] M5 Qc12 ∧ ∀ (r13 : Int) (M14 : mM), m_ir r13 → m_okM M14 → Qc12 r13 M14 → (r4 = r13 → X_ (kk_L_law L xs) 951 [v_S, v_P 0, v_P 79, v_I x3] [] M14 Q) ∧ (¬ r4 = r13 → Q 0 M14)) : X_ (kk_L_law L xs) 312 [v_S, v_P 0, v_P 79, v_I x3] [] M Q := by
  refine x_aload_n dL_law_312 rfl rfl ?_
  refine x_sload_n dL_law_313 rfl rfl ?_
  refine x_iload_n dL_law_314 rfl rfl ?_
  refine x_iconst dL_law_315 (by decide) ?_
  obtain ⟨s1, h⟩ := h
  refine x_iadd dL_law_316 s1 ?_
  obtain ⟨s2, h⟩ := h
  refine x_sald dL_law_317 rfl hxs s2 ?_
  obtain ⟨Qc3, hc6, h⟩ := h
  refine x_callV (as := [v_I (xs ((x3 + 1)).toNat)]) (st := []) (Qc := Qc3) dL_law_318 mt_X10_wish ml_L_40 ⟨Nat.le_of_ble_eq_true rfl, Nat.le_of_ble_eq_true rfl⟩ sh_0 rfl (fun _ _ => Nat.le_of_ble_eq_true rfl) hc6 (fun r4 M5 hr7 hM8 hq9 => ?_)
  replace h := h r4 M5 hr7 hM8 hq9
  change X_ (kk_L_law L xs) 321 [v_S, v_P 0, v_P 79, v_I x3] [v_I r4] M5 Q
  refine x_aload_n dL_law_321 rfl rfl ?_
  refine x_sload_n dL_law_322 rfl rfl ?_
  refine x_iload_n dL_law_323 rfl rfl ?_
  refine x_iconst dL_law_324 (by decide) ?_
  obtain ⟨s10, h⟩ := h
  refine x_iadd dL_law_325 s10 ?_
  obtain ⟨s11, h⟩ := h
  refine x_sald dL_law_326 rfl hxs s11 ?_
  obtain ⟨Qc12, hc15, h⟩ := h
  refine x_callV (as := [v_I (xs ((x3 + 1)).toNat)]) (st := [v_I r4]) (Qc := Qc12) dL_law_327 mt_X11_wish ml_L_43 ⟨Nat.le_of_ble_eq_true rfl, Nat.le_of_ble_eq_true rfl⟩ sh_79 rfl (fun _ _ => Nat.le_of_ble_eq_true rfl) hc15 (fun r13 M14 hr16 hM17 hq18 => ?_)
  replace h := h r13 M14 hr16 hM17 hq18
  change X_ (kk_L_law L xs) 330 [v_S, v_P 0, v_P 79, v_I x3] [v_I r13, v_I r4] M14 Q
  refine x_ic_eq (tgt := 951) dL_law_330 (by decide) (fun hc => ?_) (fun hc => ?_)
  · replace h := h.1 hc
    exact h
  · replace h := h.2 hc
    refine x_iconst dL_law_333 (by decide) ?_
    refine x_iret dL_law_334 rfl (Or.inr ⟨rfl, Or.inl rfl⟩) (fun _ _ => h)
theorem wp_L_law_335 {x3 : Int} {L : Nat} {xs : Nat → Int} {M : mM} {Q : Int → mM → Prop} (hxs : ∀ j, m_ir (xs j)) (hL2 : L ≤ 2048) (h : (m_ir (x3 + 1)) ∧ (0 ≤ (x3 + 1) ∧ (x3 + 1) < (L : Int)) ∧ (m_ir (x3 + 2)) ∧ (0 ≤ (x3 + 2) ∧ (x3 + 2) < (L : Int)) ∧ (m_ir (x3 + 3)) ∧ (0 ≤ (x3 + 3) ∧ (x3 + 3) < (L : Int)) ∧ ∃ Qc7 : Int → mM → Prop, C_ kk_X10_alternative [v_P 0, v_I (xs ((x3 + 1)).toNat), v_I (xs ((x3 + 2)).toNat), v_I (xs ((x3 + 3)).toNat)] M Qc7 ∧ ∀ (r8 : Int) (M9 : mM), m_ir r8 → m_okM M9 → Qc7 r8 M9 → (m_ir (x3 + 1)) ∧ (0 ≤ (x3 + 1) ∧ (x3 + 1) < (L : Int)) ∧ (m_ir (x3 + 2)) ∧ (0 ≤ (x3 + 2) ∧ (x3 + 2) < (L : Int)) ∧ (m_ir (x3 + 3)) ∧ (0 ≤ (x3 + 3) ∧ (x3 + 3) < (L : Int)) ∧ ∃ Qc20 : Int → mM → Prop, C_ kk_X11_alternative [v_P 79, v_I (xs ((x3 + 1)).toNat), v_I (xs ((x3 + 2)).toNat), v_I (xs ((x3 + 3)).toNat)] M9 Qc20 ∧ ∀ (r21 : Int) (M22 : mM), m_ir r21 → m_okM M22 → Qc20 r21 M22 → (r8 = r21 → X_ (kk_L_law L xs) 951 [v_S, v_P 0, v_P 79, v_I x3] [] M22 Q) ∧ (¬ r8 = r21 → Q 0 M22)) : X_ (kk_L_law L xs) 335 [v_S, v_P 0, v_P 79, v_I x3] [] M Q := by
  refine x_aload_n dL_law_335 rfl rfl ?_
  refine x_sload_n dL_law_336 rfl rfl ?_
  refine x_iload_n dL_law_337 rfl rfl ?_
  refine x_iconst dL_law_338 (by decide) ?_
  obtain ⟨s1, h⟩ := h
  refine x_iadd dL_law_339 s1 ?_
  obtain ⟨s2, h⟩ := h
  refine x_sald dL_law_340 rfl hxs s2 ?_
  refine x_sload_n dL_law_341 rfl rfl ?_
  refine x_iload_n dL_law_342 rfl rfl ?_
  refine x_iconst dL_law_343 (by decide) ?_
  obtain ⟨s3, h⟩ := h
  refine x_iadd dL_law_344 s3 ?_
  obtain ⟨s4, h⟩ := h
  refine x_sald dL_law_345 rfl hxs s4 ?_
  refine x_sload_n dL_law_346 rfl rfl ?_
  refine x_iload_n dL_law_347 rfl rfl ?_
  refine x_iconst dL_law_348 (by decide) ?_
  obtain ⟨s5, h⟩ := h
  refine x_iadd dL_law_349 s5 ?_
  obtain ⟨s6, h⟩ := h
  refine x_sald dL_law_350 rfl hxs s6 ?_
  obtain ⟨Qc7, hc10, h⟩ := h
  refine x_callV (as := [v_I (xs ((x3 + 1)).toNat), v_I (xs ((x3 + 2)).toNat), v_I (xs ((x3 + 3)).toNat)]) (st := []) (Qc := Qc7) dL_law_351 mt_X10_alternative ml_L_44 ⟨Nat.le_of_ble_eq_true rfl, Nat.le_of_ble_eq_true rfl⟩ sh_0 rfl (fun _ _ => Nat.le_of_ble_eq_true rfl) hc10 (fun r8 M9 hr11 hM12 hq13 => ?_)
  replace h := h r8 M9 hr11 hM12 hq13
  change X_ (kk_L_law L xs) 354 [v_S, v_P 0, v_P 79, v_I x3] [v_I r8] M9 Q
  refine x_aload_n dL_law_354 rfl rfl ?_
  refine x_sload_n dL_law_355 rfl rfl ?_
  refine x_iload_n dL_law_356 rfl rfl ?_
  refine x_iconst dL_law_357 (by decide) ?_
  obtain ⟨s14, h⟩ := h
  refine x_iadd dL_law_358 s14 ?_
  obtain ⟨s15, h⟩ := h
  refine x_sald dL_law_359 rfl hxs s15 ?_
  refine x_sload_n dL_law_360 rfl rfl ?_
  refine x_iload_n dL_law_361 rfl rfl ?_
  refine x_iconst dL_law_362 (by decide) ?_
  obtain ⟨s16, h⟩ := h
  refine x_iadd dL_law_363 s16 ?_
  obtain ⟨s17, h⟩ := h
  refine x_sald dL_law_364 rfl hxs s17 ?_
  refine x_sload_n dL_law_365 rfl rfl ?_
  refine x_iload_n dL_law_366 rfl rfl ?_
  refine x_iconst dL_law_367 (by decide) ?_
  obtain ⟨s18, h⟩ := h
  refine x_iadd dL_law_368 s18 ?_
  obtain ⟨s19, h⟩ := h
  refine x_sald dL_law_369 rfl hxs s19 ?_
  obtain ⟨Qc20, hc23, h⟩ := h
  refine x_callV (as := [v_I (xs ((x3 + 1)).toNat), v_I (xs ((x3 + 2)).toNat), v_I (xs ((x3 + 3)).toNat)]) (st := [v_I r8]) (Qc := Qc20) dL_law_370 mt_X11_alternative ml_L_47 ⟨Nat.le_of_ble_eq_true rfl, Nat.le_of_ble_eq_true rfl⟩ sh_79 rfl (fun _ _ => Nat.le_of_ble_eq_true rfl) hc23 (fun r21 M22 hr24 hM25 hq26 => ?_)
  replace h := h r21 M22 hr24 hM25 hq26
  change X_ (kk_L_law L xs) 373 [v_S, v_P 0, v_P 79, v_I x3] [v_I r21, v_I r8] M22 Q
  refine x_ic_eq (tgt := 951) dL_law_373 (by decide) (fun hc => ?_) (fun hc => ?_)
  · replace h := h.1 hc
    exact h
  · replace h := h.2 hc
    refine x_iconst dL_law_376 (by decide) ?_
    refine x_iret dL_law_377 rfl (Or.inr ⟨rfl, Or.inl rfl⟩) (fun _ _ => h)
theorem wp_L_law_378 {x3 : Int} {L : Nat} {xs : Nat → Int} {M : mM} {Q : Int → mM → Prop} (hxs : ∀ j, m_ir (xs j)) (hL2 : L ≤ 2048) (h : (m_ir (x3 + 1)) ∧ (0 ≤ (x3 + 1) ∧ (x3 + 1) < (L : Int)) ∧ (m_ir (x3 + 2)) ∧ (0 ≤ (x3 + 2) ∧ (x3 + 2) < (L : Int)) ∧ ∃ Qc5 : Int → mM → Prop, C_ kk_X10_leave [v_P 0, v_I (xs ((x3 + 1)).toNat), v_I (xs ((x3 + 2)).toNat)] M Qc5 ∧ ∀ (r6 : Int) (M7 : mM), m_ir r6 → m_okM M7 → Qc5 r6 M7 → (m_ir (x3 + 1)) ∧ (0 ≤ (x3 + 1) ∧ (x3 + 1) < (L : Int)) ∧ (m_ir (x3 + 2)) ∧ (0 ≤ (x3 + 2) ∧ (x3 + 2) < (L : Int)) ∧ ∃ Qc16 : Int → mM → Prop, C_ kk_X11_leave [v_P 79, v_I (xs ((x3 + 1)).toNat), v_I (xs ((x3 + 2)).toNat)] M7 Qc16 ∧ ∀ (r17 : Int) (M18 : mM), m_ir r17 → m_okM M18 → Qc16 r17 M18 → (r6 = r17 → X_ (kk_L_law L xs) 951 [v_S, v_P 0, v_P 79, v_I x3] [] M18 Q) ∧ (¬ r6 = r17 → Q 0 M18)) : X_ (kk_L_law L xs) 378 [v_S, v_P 0, v_P 79, v_I x3] [] M Q := by
  refine x_aload_n dL_law_378 rfl rfl ?_
  refine x_sload_n dL_law_379 rfl rfl ?_
  refine x_iload_n dL_law_380 rfl rfl ?_
  refine x_iconst dL_law_381 (by decide) ?_
  obtain ⟨s1, h⟩ := h
  refine x_iadd dL_law_382 s1 ?_
  obtain ⟨s2, h⟩ := h
  refine x_sald dL_law_383 rfl hxs s2 ?_
  refine x_sload_n dL_law_384 rfl rfl ?_
  refine x_iload_n dL_law_385 rfl rfl ?_
  refine x_iconst dL_law_386 (by decide) ?_
  obtain ⟨s3, h⟩ := h
  refine x_iadd dL_law_387 s3 ?_
  obtain ⟨s4, h⟩ := h
  refine x_sald dL_law_388 rfl hxs s4 ?_
  obtain ⟨Qc5, hc8, h⟩ := h
  refine x_callV (as := [v_I (xs ((x3 + 1)).toNat), v_I (xs ((x3 + 2)).toNat)]) (st := []) (Qc := Qc5) dL_law_389 mt_X10_leave ml_L_48 ⟨Nat.le_of_ble_eq_true rfl, Nat.le_of_ble_eq_true rfl⟩ sh_0 rfl (fun _ _ => Nat.le_of_ble_eq_true rfl) hc8 (fun r6 M7 hr9 hM10 hq11 => ?_)
  replace h := h r6 M7 hr9 hM10 hq11
  change X_ (kk_L_law L xs) 392 [v_S, v_P 0, v_P 79, v_I x3] [v_I r6] M7 Q
  refine x_aload_n dL_law_392 rfl rfl ?_
  refine x_sload_n dL_law_393 rfl rfl ?_
  refine x_iload_n dL_law_394 rfl rfl ?_
  refine x_iconst dL_law_395 (by decide) ?_
  obtain ⟨s12, h⟩ := h
  refine x_iadd dL_law_396 s12 ?_
  obtain ⟨s13, h⟩ := h
  refine x_sald dL_law_397 rfl hxs s13 ?_
  refine x_sload_n dL_law_398 rfl rfl ?_
  refine x_iload_n dL_law_399 rfl rfl ?_
  refine x_iconst dL_law_400 (by decide) ?_
  obtain ⟨s14, h⟩ := h
  refine x_iadd dL_law_401 s14 ?_
  obtain ⟨s15, h⟩ := h
  refine x_sald dL_law_402 rfl hxs s15 ?_
  obtain ⟨Qc16, hc19, h⟩ := h
  refine x_callV (as := [v_I (xs ((x3 + 1)).toNat), v_I (xs ((x3 + 2)).toNat)]) (st := [v_I r6]) (Qc := Qc16) dL_law_403 mt_X11_leave ml_L_52 ⟨Nat.le_of_ble_eq_true rfl, Nat.le_of_ble_eq_true rfl⟩ sh_79 rfl (fun _ _ => Nat.le_of_ble_eq_true rfl) hc19 (fun r17 M18 hr20 hM21 hq22 => ?_)
  replace h := h r17 M18 hr20 hM21 hq22
  change X_ (kk_L_law L xs) 406 [v_S, v_P 0, v_P 79, v_I x3] [v_I r17, v_I r6] M18 Q
  refine x_ic_eq (tgt := 951) dL_law_406 (by decide) (fun hc => ?_) (fun hc => ?_)
  · replace h := h.1 hc
    exact h
  · replace h := h.2 hc
    refine x_iconst dL_law_409 (by decide) ?_
    refine x_iret dL_law_410 rfl (Or.inr ⟨rfl, Or.inl rfl⟩) (fun _ _ => h)
theorem wp_L_law_411 {x3 : Int} {L : Nat} {xs : Nat → Int} {M : mM} {Q : Int → mM → Prop} (hxs : ∀ j, m_ir (xs j)) (hL2 : L ≤ 2048) (h : (m_ir (x3 + 1)) ∧ (0 ≤ (x3 + 1) ∧ (x3 + 1) < (L : Int)) ∧ (m_ir (x3 + 2)) ∧ (0 ≤ (x3 + 2) ∧ (x3 + 2) < (L : Int)) ∧ ∃ Qc5 : Int → mM → Prop, C_ kk_X10_worth [v_P 0, v_I (xs ((x3 + 1)).toNat), v_I (xs ((x3 + 2)).toNat)] M Qc5 ∧ ∀ (r6 : Int) (M7 : mM), m_ir r6 → m_okM M7 → Qc5 r6 M7 → (m_ir (x3 + 1)) ∧ (0 ≤ (x3 + 1) ∧ (x3 + 1) < (L : Int)) ∧ (m_ir (x3 + 2)) ∧ (0 ≤ (x3 + 2) ∧ (x3 + 2) < (L : Int)) ∧ ∃ Qc16 : Int → mM → Prop, C_ kk_X11_worth [v_P 79, v_I (xs ((x3 + 1)).toNat), v_I (xs ((x3 + 2)).toNat)] M7 Qc16 ∧ ∀ (r17 : Int) (M18 : mM), m_ir r17 → m_okM M18 → Qc16 r17 M18 → (r6 = r17 → X_ (kk_L_law L xs) 951 [v_S, v_P 0, v_P 79, v_I x3] [] M18 Q) ∧ (¬ r6 = r17 → Q 0 M18)) : X_ (kk_L_law L xs) 411 [v_S, v_P 0, v_P 79, v_I x3] [] M Q := by
  refine x_aload_n dL_law_411 rfl rfl ?_
  refine x_sload_n dL_law_412 rfl rfl ?_
  refine x_iload_n dL_law_413 rfl rfl ?_
  refine x_iconst dL_law_414 (by decide) ?_
  obtain ⟨s1, h⟩ := h
  refine x_iadd dL_law_415 s1 ?_
  obtain ⟨s2, h⟩ := h
  refine x_sald dL_law_416 rfl hxs s2 ?_
  refine x_sload_n dL_law_417 rfl rfl ?_
  refine x_iload_n dL_law_418 rfl rfl ?_
  refine x_iconst dL_law_419 (by decide) ?_
  obtain ⟨s3, h⟩ := h
  refine x_iadd dL_law_420 s3 ?_
  obtain ⟨s4, h⟩ := h
  refine x_sald dL_law_421 rfl hxs s4 ?_
  obtain ⟨Qc5, hc8, h⟩ := h
  refine x_callV (as := [v_I (xs ((x3 + 1)).toNat), v_I (xs ((x3 + 2)).toNat)]) (st := []) (Qc := Qc5) dL_law_422 mt_X10_worth ml_L_53 ⟨Nat.le_of_ble_eq_true rfl, Nat.le_of_ble_eq_true rfl⟩ sh_0 rfl (fun _ _ => Nat.le_of_ble_eq_true rfl) hc8 (fun r6 M7 hr9 hM10 hq11 => ?_)
  replace h := h r6 M7 hr9 hM10 hq11
  change X_ (kk_L_law L xs) 425 [v_S, v_P 0, v_P 79, v_I x3] [v_I r6] M7 Q
  refine x_aload_n dL_law_425 rfl rfl ?_
  refine x_sload_n dL_law_426 rfl rfl ?_
  refine x_iload_n dL_law_427 rfl rfl ?_
  refine x_iconst dL_law_428 (by decide) ?_
  obtain ⟨s12, h⟩ := h
  refine x_iadd dL_law_429 s12 ?_
  obtain ⟨s13, h⟩ := h
  refine x_sald dL_law_430 rfl hxs s13 ?_
  refine x_sload_n dL_law_431 rfl rfl ?_
  refine x_iload_n dL_law_432 rfl rfl ?_
  refine x_iconst dL_law_433 (by decide) ?_
  obtain ⟨s14, h⟩ := h
  refine x_iadd dL_law_434 s14 ?_
  obtain ⟨s15, h⟩ := h
  refine x_sald dL_law_435 rfl hxs s15 ?_
  obtain ⟨Qc16, hc19, h⟩ := h
  refine x_callV (as := [v_I (xs ((x3 + 1)).toNat), v_I (xs ((x3 + 2)).toNat)]) (st := [v_I r6]) (Qc := Qc16) dL_law_436 mt_X11_worth ml_L_56 ⟨Nat.le_of_ble_eq_true rfl, Nat.le_of_ble_eq_true rfl⟩ sh_79 rfl (fun _ _ => Nat.le_of_ble_eq_true rfl) hc19 (fun r17 M18 hr20 hM21 hq22 => ?_)
  replace h := h r17 M18 hr20 hM21 hq22
  change X_ (kk_L_law L xs) 439 [v_S, v_P 0, v_P 79, v_I x3] [v_I r17, v_I r6] M18 Q
  refine x_ic_eq (tgt := 951) dL_law_439 (by decide) (fun hc => ?_) (fun hc => ?_)
  · replace h := h.1 hc
    exact h
  · replace h := h.2 hc
    refine x_iconst dL_law_442 (by decide) ?_
    refine x_iret dL_law_443 rfl (Or.inr ⟨rfl, Or.inl rfl⟩) (fun _ _ => h)
theorem wp_L_law_444 {x3 : Int} {L : Nat} {xs : Nat → Int} {M : mM} {Q : Int → mM → Prop} (hxs : ∀ j, m_ir (xs j)) (hL2 : L ≤ 2048) (h : (m_ir (x3 + 1)) ∧ (0 ≤ (x3 + 1) ∧ (x3 + 1) < (L : Int)) ∧ (m_ir (x3 + 2)) ∧ (0 ≤ (x3 + 2) ∧ (x3 + 2) < (L : Int)) ∧ ∃ Qc5 : Int → mM → Prop, C_ kk_X10_why [v_P 0, v_I (xs ((x3 + 1)).toNat), v_I (xs ((x3 + 2)).toNat)] M Qc5 ∧ ∀ (r6 : Int) (M7 : mM), m_ir r6 → m_okM M7 → Qc5 r6 M7 → (m_ir (x3 + 1)) ∧ (0 ≤ (x3 + 1) ∧ (x3 + 1) < (L : Int)) ∧ (m_ir (x3 + 2)) ∧ (0 ≤ (x3 + 2) ∧ (x3 + 2) < (L : Int)) ∧ ∃ Qc16 : Int → mM → Prop, C_ kk_X11_why [v_P 79, v_I (xs ((x3 + 1)).toNat), v_I (xs ((x3 + 2)).toNat)] M7 Qc16 ∧ ∀ (r17 : Int) (M18 : mM), m_ir r17 → m_okM M18 → Qc16 r17 M18 → (r6 = r17 → X_ (kk_L_law L xs) 951 [v_S, v_P 0, v_P 79, v_I x3] [] M18 Q) ∧ (¬ r6 = r17 → Q 0 M18)) : X_ (kk_L_law L xs) 444 [v_S, v_P 0, v_P 79, v_I x3] [] M Q := by
  refine x_aload_n dL_law_444 rfl rfl ?_
  refine x_sload_n dL_law_445 rfl rfl ?_
  refine x_iload_n dL_law_446 rfl rfl ?_
  refine x_iconst dL_law_447 (by decide) ?_
  obtain ⟨s1, h⟩ := h
  refine x_iadd dL_law_448 s1 ?_
  obtain ⟨s2, h⟩ := h
  refine x_sald dL_law_449 rfl hxs s2 ?_
  refine x_sload_n dL_law_450 rfl rfl ?_
  refine x_iload_n dL_law_451 rfl rfl ?_
  refine x_iconst dL_law_452 (by decide) ?_
  obtain ⟨s3, h⟩ := h
  refine x_iadd dL_law_453 s3 ?_
  obtain ⟨s4, h⟩ := h
  refine x_sald dL_law_454 rfl hxs s4 ?_
  obtain ⟨Qc5, hc8, h⟩ := h
  refine x_callV (as := [v_I (xs ((x3 + 1)).toNat), v_I (xs ((x3 + 2)).toNat)]) (st := []) (Qc := Qc5) dL_law_455 mt_X10_why ml_L_57 ⟨Nat.le_of_ble_eq_true rfl, Nat.le_of_ble_eq_true rfl⟩ sh_0 rfl (fun _ _ => Nat.le_of_ble_eq_true rfl) hc8 (fun r6 M7 hr9 hM10 hq11 => ?_)
  replace h := h r6 M7 hr9 hM10 hq11
  change X_ (kk_L_law L xs) 458 [v_S, v_P 0, v_P 79, v_I x3] [v_I r6] M7 Q
  refine x_aload_n dL_law_458 rfl rfl ?_
  refine x_sload_n dL_law_459 rfl rfl ?_
  refine x_iload_n dL_law_460 rfl rfl ?_
  refine x_iconst dL_law_461 (by decide) ?_
  obtain ⟨s12, h⟩ := h
  refine x_iadd dL_law_462 s12 ?_
  obtain ⟨s13, h⟩ := h
  refine x_sald dL_law_463 rfl hxs s13 ?_
  refine x_sload_n dL_law_464 rfl rfl ?_
  refine x_iload_n dL_law_465 rfl rfl ?_
  refine x_iconst dL_law_466 (by decide) ?_
  obtain ⟨s14, h⟩ := h
  refine x_iadd dL_law_467 s14 ?_
  obtain ⟨s15, h⟩ := h
  refine x_sald dL_law_468 rfl hxs s15 ?_
  obtain ⟨Qc16, hc19, h⟩ := h
  refine x_callV (as := [v_I (xs ((x3 + 1)).toNat), v_I (xs ((x3 + 2)).toNat)]) (st := [v_I r6]) (Qc := Qc16) dL_law_469 mt_X11_why ml_L_60 ⟨Nat.le_of_ble_eq_true rfl, Nat.le_of_ble_eq_true rfl⟩ sh_79 rfl (fun _ _ => Nat.le_of_ble_eq_true rfl) hc19 (fun r17 M18 hr20 hM21 hq22 => ?_)
  replace h := h r17 M18 hr20 hM21 hq22
  change X_ (kk_L_law L xs) 472 [v_S, v_P 0, v_P 79, v_I x3] [v_I r17, v_I r6] M18 Q
  refine x_ic_eq (tgt := 951) dL_law_472 (by decide) (fun hc => ?_) (fun hc => ?_)
  · replace h := h.1 hc
    exact h
  · replace h := h.2 hc
    refine x_iconst dL_law_475 (by decide) ?_
    refine x_iret dL_law_476 rfl (Or.inr ⟨rfl, Or.inl rfl⟩) (fun _ _ => h)
theorem wp_L_law_477 {x3 : Int} {L : Nat} {xs : Nat → Int} {M : mM} {Q : Int → mM → Prop} (hxs : ∀ j, m_ir (xs j)) (hL2 : L ≤ 2048) (h : (m_ir (x3 + 1)) ∧ (0 ≤ (x3 + 1) ∧ (x3 + 1) < (L : Int)) ∧ ∃ Qc3 : Int → mM → Prop, C_ kk_X10_top [v_P 0, v_I (xs ((x3 + 1)).toNat)] M Qc3 ∧ ∀ (r4 : Int) (M5 : mM), m_ir r4 → m_okM M5 → Qc3 r4 M5 → (m_ir (x3 + 1)) ∧ (0 ≤ (x3 + 1) ∧ (x3 + 1) < (L : Int)) ∧ ∃ Qc12 : Int → mM → Prop, C_ kk_X11_top [v_P 79, v_I (xs ((x3 + 1)).toNat)] M5 Qc12 ∧ ∀ (r13 : Int) (M14 : mM), m_ir r13 → m_okM M14 → Qc12 r13 M14 → (r4 = r13 → X_ (kk_L_law L xs) 951 [v_S, v_P 0, v_P 79, v_I x3] [] M14 Q) ∧ (¬ r4 = r13 → Q 0 M14)) : X_ (kk_L_law L xs) 477 [v_S, v_P 0, v_P 79, v_I x3] [] M Q := by
  refine x_aload_n dL_law_477 rfl rfl ?_
  refine x_sload_n dL_law_478 rfl rfl ?_
  refine x_iload_n dL_law_479 rfl rfl ?_
  refine x_iconst dL_law_480 (by decide) ?_
  obtain ⟨s1, h⟩ := h
  refine x_iadd dL_law_481 s1 ?_
  obtain ⟨s2, h⟩ := h
  refine x_sald dL_law_482 rfl hxs s2 ?_
  obtain ⟨Qc3, hc6, h⟩ := h
  refine x_callV (as := [v_I (xs ((x3 + 1)).toNat)]) (st := []) (Qc := Qc3) dL_law_483 mt_X10_top ml_L_61 ⟨Nat.le_of_ble_eq_true rfl, Nat.le_of_ble_eq_true rfl⟩ sh_0 rfl (fun _ _ => Nat.le_of_ble_eq_true rfl) hc6 (fun r4 M5 hr7 hM8 hq9 => ?_)
  replace h := h r4 M5 hr7 hM8 hq9
  change X_ (kk_L_law L xs) 486 [v_S, v_P 0, v_P 79, v_I x3] [v_I r4] M5 Q
  refine x_aload_n dL_law_486 rfl rfl ?_
  refine x_sload_n dL_law_487 rfl rfl ?_
  refine x_iload_n dL_law_488 rfl rfl ?_
  refine x_iconst dL_law_489 (by decide) ?_
  obtain ⟨s10, h⟩ := h
  refine x_iadd dL_law_490 s10 ?_
  obtain ⟨s11, h⟩ := h
  refine x_sald dL_law_491 rfl hxs s11 ?_
  obtain ⟨Qc12, hc15, h⟩ := h
  refine x_callV (as := [v_I (xs ((x3 + 1)).toNat)]) (st := [v_I r4]) (Qc := Qc12) dL_law_492 mt_X11_top ml_L_64 ⟨Nat.le_of_ble_eq_true rfl, Nat.le_of_ble_eq_true rfl⟩ sh_79 rfl (fun _ _ => Nat.le_of_ble_eq_true rfl) hc15 (fun r13 M14 hr16 hM17 hq18 => ?_)
  replace h := h r13 M14 hr16 hM17 hq18
  change X_ (kk_L_law L xs) 495 [v_S, v_P 0, v_P 79, v_I x3] [v_I r13, v_I r4] M14 Q
  refine x_ic_eq (tgt := 951) dL_law_495 (by decide) (fun hc => ?_) (fun hc => ?_)
  · replace h := h.1 hc
    exact h
  · replace h := h.2 hc
    refine x_iconst dL_law_498 (by decide) ?_
    refine x_iret dL_law_499 rfl (Or.inr ⟨rfl, Or.inl rfl⟩) (fun _ _ => h)
theorem wp_L_law_500 {x3 : Int} {L : Nat} {xs : Nat → Int} {M : mM} {Q : Int → mM → Prop} (hxs : ∀ j, m_ir (xs j)) (hL2 : L ≤ 2048) (h : (m_ir (x3 + 1)) ∧ (0 ≤ (x3 + 1) ∧ (x3 + 1) < (L : Int)) ∧ (m_ir (x3 + 2)) ∧ (0 ≤ (x3 + 2) ∧ (x3 + 2) < (L : Int)) ∧ ∃ Qc5 : Int → mM → Prop, C_ kk_X10_swap [v_P 0, v_I (xs ((x3 + 1)).toNat), v_I (xs ((x3 + 2)).toNat)] M Qc5 ∧ ∀ (r6 : Int) (M7 : mM), m_ir r6 → m_okM M7 → Qc5 r6 M7 → (m_ir (x3 + 1)) ∧ (0 ≤ (x3 + 1) ∧ (x3 + 1) < (L : Int)) ∧ (m_ir (x3 + 2)) ∧ (0 ≤ (x3 + 2) ∧ (x3 + 2) < (L : Int)) ∧ ∃ Qc16 : Int → mM → Prop, C_ kk_X11_swap [v_P 79, v_I (xs ((x3 + 1)).toNat), v_I (xs ((x3 + 2)).toNat)] M7 Qc16 ∧ ∀ (r17 : Int) (M18 : mM), m_ir r17 → m_okM M18 → Qc16 r17 M18 → (r6 = r17 → X_ (kk_L_law L xs) 951 [v_S, v_P 0, v_P 79, v_I x3] [] M18 Q) ∧ (¬ r6 = r17 → Q 0 M18)) : X_ (kk_L_law L xs) 500 [v_S, v_P 0, v_P 79, v_I x3] [] M Q := by
  refine x_aload_n dL_law_500 rfl rfl ?_
  refine x_sload_n dL_law_501 rfl rfl ?_
  refine x_iload_n dL_law_502 rfl rfl ?_
  refine x_iconst dL_law_503 (by decide) ?_
  obtain ⟨s1, h⟩ := h
  refine x_iadd dL_law_504 s1 ?_
  obtain ⟨s2, h⟩ := h
  refine x_sald dL_law_505 rfl hxs s2 ?_
  refine x_sload_n dL_law_506 rfl rfl ?_
  refine x_iload_n dL_law_507 rfl rfl ?_
  refine x_iconst dL_law_508 (by decide) ?_
  obtain ⟨s3, h⟩ := h
  refine x_iadd dL_law_509 s3 ?_
  obtain ⟨s4, h⟩ := h
  refine x_sald dL_law_510 rfl hxs s4 ?_
  obtain ⟨Qc5, hc8, h⟩ := h
  refine x_callV (as := [v_I (xs ((x3 + 1)).toNat), v_I (xs ((x3 + 2)).toNat)]) (st := []) (Qc := Qc5) dL_law_511 mt_X10_swap ml_L_65 ⟨Nat.le_of_ble_eq_true rfl, Nat.le_of_ble_eq_true rfl⟩ sh_0 rfl (fun _ _ => Nat.le_of_ble_eq_true rfl) hc8 (fun r6 M7 hr9 hM10 hq11 => ?_)
  replace h := h r6 M7 hr9 hM10 hq11
  change X_ (kk_L_law L xs) 514 [v_S, v_P 0, v_P 79, v_I x3] [v_I r6] M7 Q
  refine x_aload_n dL_law_514 rfl rfl ?_
  refine x_sload_n dL_law_515 rfl rfl ?_
  refine x_iload_n dL_law_516 rfl rfl ?_
  refine x_iconst dL_law_517 (by decide) ?_
  obtain ⟨s12, h⟩ := h
  refine x_iadd dL_law_518 s12 ?_
  obtain ⟨s13, h⟩ := h
  refine x_sald dL_law_519 rfl hxs s13 ?_
  refine x_sload_n dL_law_520 rfl rfl ?_
  refine x_iload_n dL_law_521 rfl rfl ?_
  refine x_iconst dL_law_522 (by decide) ?_
  obtain ⟨s14, h⟩ := h
  refine x_iadd dL_law_523 s14 ?_
  obtain ⟨s15, h⟩ := h
  refine x_sald dL_law_524 rfl hxs s15 ?_
  obtain ⟨Qc16, hc19, h⟩ := h
  refine x_callV (as := [v_I (xs ((x3 + 1)).toNat), v_I (xs ((x3 + 2)).toNat)]) (st := [v_I r6]) (Qc := Qc16) dL_law_525 mt_X11_swap ml_L_68 ⟨Nat.le_of_ble_eq_true rfl, Nat.le_of_ble_eq_true rfl⟩ sh_79 rfl (fun _ _ => Nat.le_of_ble_eq_true rfl) hc19 (fun r17 M18 hr20 hM21 hq22 => ?_)
  replace h := h r17 M18 hr20 hM21 hq22
  change X_ (kk_L_law L xs) 528 [v_S, v_P 0, v_P 79, v_I x3] [v_I r17, v_I r6] M18 Q
  refine x_ic_eq (tgt := 951) dL_law_528 (by decide) (fun hc => ?_) (fun hc => ?_)
  · replace h := h.1 hc
    exact h
  · replace h := h.2 hc
    refine x_iconst dL_law_531 (by decide) ?_
    refine x_iret dL_law_532 rfl (Or.inr ⟨rfl, Or.inl rfl⟩) (fun _ _ => h)
theorem wp_L_law_533 {x3 : Int} {L : Nat} {xs : Nat → Int} {M : mM} {Q : Int → mM → Prop} (hxs : ∀ j, m_ir (xs j)) (hL2 : L ≤ 2048) (h : (m_ir (x3 + 1)) ∧ (0 ≤ (x3 + 1) ∧ (x3 + 1) < (L : Int)) ∧ ∃ Qc3 : Int → mM → Prop, C_ kk_X10_order [v_P 0, v_I (xs ((x3 + 1)).toNat)] M Qc3 ∧ ∀ (r4 : Int) (M5 : mM), m_ir r4 → m_okM M5 → Qc3 r4 M5 → (m_ir (x3 + 1)) ∧ (0 ≤ (x3 + 1) ∧ (x3 + 1) < (L : Int)) ∧ ∃ Qc12 : Int → mM → Prop, C_ kk_X11_order [v_P 79, v_I (xs ((x3 + 1)).toNat)] M5 Qc12 ∧ ∀ (r13 : Int) (M14 : mM), m_ir r13 → m_okM M14 → Qc12 r13 M14 → (r4 = r13 → X_ (kk_L_law L xs) 951 [v_S, v_P 0, v_P 79, v_I x3] [] M14 Q) ∧ (¬ r4 = r13 → Q 0 M14)) : X_ (kk_L_law L xs) 533 [v_S, v_P 0, v_P 79, v_I x3] [] M Q := by
  refine x_aload_n dL_law_533 rfl rfl ?_
  refine x_sload_n dL_law_534 rfl rfl ?_
  refine x_iload_n dL_law_535 rfl rfl ?_
  refine x_iconst dL_law_536 (by decide) ?_
  obtain ⟨s1, h⟩ := h
  refine x_iadd dL_law_537 s1 ?_
  obtain ⟨s2, h⟩ := h
  refine x_sald dL_law_538 rfl hxs s2 ?_
  obtain ⟨Qc3, hc6, h⟩ := h
  refine x_callV (as := [v_I (xs ((x3 + 1)).toNat)]) (st := []) (Qc := Qc3) dL_law_539 mt_X10_order ml_L_69 ⟨Nat.le_of_ble_eq_true rfl, Nat.le_of_ble_eq_true rfl⟩ sh_0 rfl (fun _ _ => Nat.le_of_ble_eq_true rfl) hc6 (fun r4 M5 hr7 hM8 hq9 => ?_)
  replace h := h r4 M5 hr7 hM8 hq9
  change X_ (kk_L_law L xs) 542 [v_S, v_P 0, v_P 79, v_I x3] [v_I r4] M5 Q
  refine x_aload_n dL_law_542 rfl rfl ?_
  refine x_sload_n dL_law_543 rfl rfl ?_
  refine x_iload_n dL_law_544 rfl rfl ?_
  refine x_iconst dL_law_545 (by decide) ?_
  obtain ⟨s10, h⟩ := h
  refine x_iadd dL_law_546 s10 ?_
  obtain ⟨s11, h⟩ := h
  refine x_sald dL_law_547 rfl hxs s11 ?_
  obtain ⟨Qc12, hc15, h⟩ := h
  refine x_callV (as := [v_I (xs ((x3 + 1)).toNat)]) (st := [v_I r4]) (Qc := Qc12) dL_law_548 mt_X11_order ml_L_72 ⟨Nat.le_of_ble_eq_true rfl, Nat.le_of_ble_eq_true rfl⟩ sh_79 rfl (fun _ _ => Nat.le_of_ble_eq_true rfl) hc15 (fun r13 M14 hr16 hM17 hq18 => ?_)
  replace h := h r13 M14 hr16 hM17 hq18
  change X_ (kk_L_law L xs) 551 [v_S, v_P 0, v_P 79, v_I x3] [v_I r13, v_I r4] M14 Q
  refine x_ic_eq (tgt := 951) dL_law_551 (by decide) (fun hc => ?_) (fun hc => ?_)
  · replace h := h.1 hc
    exact h
  · replace h := h.2 hc
    refine x_iconst dL_law_554 (by decide) ?_
    refine x_iret dL_law_555 rfl (Or.inr ⟨rfl, Or.inl rfl⟩) (fun _ _ => h)
theorem wp_L_law_556 {x3 : Int} {L : Nat} {xs : Nat → Int} {M : mM} {Q : Int → mM → Prop} (hxs : ∀ j, m_ir (xs j)) (hL2 : L ≤ 2048) (h : (m_ir (x3 + 1)) ∧ (0 ≤ (x3 + 1) ∧ (x3 + 1) < (L : Int)) ∧ (m_ir (x3 + 2)) ∧ (0 ≤ (x3 + 2) ∧ (x3 + 2) < (L : Int)) ∧ ∃ Qc5 : Int → mM → Prop, C_ kk_X10_sold [v_P 0, v_I (xs ((x3 + 1)).toNat), v_I (xs ((x3 + 2)).toNat)] M Qc5 ∧ ∀ (r6 : Int) (M7 : mM), m_ir r6 → m_okM M7 → Qc5 r6 M7 → (m_ir (x3 + 1)) ∧ (0 ≤ (x3 + 1) ∧ (x3 + 1) < (L : Int)) ∧ (m_ir (x3 + 2)) ∧ (0 ≤ (x3 + 2) ∧ (x3 + 2) < (L : Int)) ∧ ∃ Qc16 : Int → mM → Prop, C_ kk_X11_sold [v_P 79, v_I (xs ((x3 + 1)).toNat), v_I (xs ((x3 + 2)).toNat)] M7 Qc16 ∧ ∀ (r17 : Int) (M18 : mM), m_ir r17 → m_okM M18 → Qc16 r17 M18 → (r6 = r17 → X_ (kk_L_law L xs) 951 [v_S, v_P 0, v_P 79, v_I x3] [] M18 Q) ∧ (¬ r6 = r17 → Q 0 M18)) : X_ (kk_L_law L xs) 556 [v_S, v_P 0, v_P 79, v_I x3] [] M Q := by
  refine x_aload_n dL_law_556 rfl rfl ?_
  refine x_sload_n dL_law_557 rfl rfl ?_
  refine x_iload_n dL_law_558 rfl rfl ?_
  refine x_iconst dL_law_559 (by decide) ?_
  obtain ⟨s1, h⟩ := h
  refine x_iadd dL_law_560 s1 ?_
  obtain ⟨s2, h⟩ := h
  refine x_sald dL_law_561 rfl hxs s2 ?_
  refine x_sload_n dL_law_562 rfl rfl ?_
  refine x_iload_n dL_law_563 rfl rfl ?_
  refine x_iconst dL_law_564 (by decide) ?_
  obtain ⟨s3, h⟩ := h
  refine x_iadd dL_law_565 s3 ?_
  obtain ⟨s4, h⟩ := h
  refine x_sald dL_law_566 rfl hxs s4 ?_
  obtain ⟨Qc5, hc8, h⟩ := h
  refine x_callV (as := [v_I (xs ((x3 + 1)).toNat), v_I (xs ((x3 + 2)).toNat)]) (st := []) (Qc := Qc5) dL_law_567 mt_X10_sold ml_L_73 ⟨Nat.le_of_ble_eq_true rfl, Nat.le_of_ble_eq_true rfl⟩ sh_0 rfl (fun _ _ => Nat.le_of_ble_eq_true rfl) hc8 (fun r6 M7 hr9 hM10 hq11 => ?_)
  replace h := h r6 M7 hr9 hM10 hq11
  change X_ (kk_L_law L xs) 570 [v_S, v_P 0, v_P 79, v_I x3] [v_I r6] M7 Q
  refine x_aload_n dL_law_570 rfl rfl ?_
  refine x_sload_n dL_law_571 rfl rfl ?_
  refine x_iload_n dL_law_572 rfl rfl ?_
  refine x_iconst dL_law_573 (by decide) ?_
  obtain ⟨s12, h⟩ := h
  refine x_iadd dL_law_574 s12 ?_
  obtain ⟨s13, h⟩ := h
  refine x_sald dL_law_575 rfl hxs s13 ?_
  refine x_sload_n dL_law_576 rfl rfl ?_
  refine x_iload_n dL_law_577 rfl rfl ?_
  refine x_iconst dL_law_578 (by decide) ?_
  obtain ⟨s14, h⟩ := h
  refine x_iadd dL_law_579 s14 ?_
  obtain ⟨s15, h⟩ := h
  refine x_sald dL_law_580 rfl hxs s15 ?_
  obtain ⟨Qc16, hc19, h⟩ := h
  refine x_callV (as := [v_I (xs ((x3 + 1)).toNat), v_I (xs ((x3 + 2)).toNat)]) (st := [v_I r6]) (Qc := Qc16) dL_law_581 mt_X11_sold ml_L_76 ⟨Nat.le_of_ble_eq_true rfl, Nat.le_of_ble_eq_true rfl⟩ sh_79 rfl (fun _ _ => Nat.le_of_ble_eq_true rfl) hc19 (fun r17 M18 hr20 hM21 hq22 => ?_)
  replace h := h r17 M18 hr20 hM21 hq22
  change X_ (kk_L_law L xs) 584 [v_S, v_P 0, v_P 79, v_I x3] [v_I r17, v_I r6] M18 Q
  refine x_ic_eq (tgt := 951) dL_law_584 (by decide) (fun hc => ?_) (fun hc => ?_)
  · replace h := h.1 hc
    exact h
  · replace h := h.2 hc
    refine x_iconst dL_law_587 (by decide) ?_
    refine x_iret dL_law_588 rfl (Or.inr ⟨rfl, Or.inl rfl⟩) (fun _ _ => h)
theorem wp_L_law_589 {x3 : Int} {L : Nat} {xs : Nat → Int} {M : mM} {Q : Int → mM → Prop} (hxs : ∀ j, m_ir (xs j)) (hL2 : L ≤ 2048) (h : (m_ir (x3 + 1)) ∧ (0 ≤ (x3 + 1) ∧ (x3 + 1) < (L : Int)) ∧ (m_ir (x3 + 2)) ∧ (0 ≤ (x3 + 2) ∧ (x3 + 2) < (L : Int)) ∧ ∃ Qc5 : Int → mM → Prop, C_ kk_X10_day [v_P 0, v_I (xs ((x3 + 1)).toNat), v_I (xs ((x3 + 2)).toNat)] M Qc5 ∧ ∀ (r6 : Int) (M7 : mM), m_ir r6 → m_okM M7 → Qc5 r6 M7 → (m_ir (x3 + 1)) ∧ (0 ≤ (x3 + 1) ∧ (x3 + 1) < (L : Int)) ∧ (m_ir (x3 + 2)) ∧ (0 ≤ (x3 + 2) ∧ (x3 + 2) < (L : Int)) ∧ ∃ Qc16 : Int → mM → Prop, C_ kk_X11_day [v_P 79, v_I (xs ((x3 + 1)).toNat), v_I (xs ((x3 + 2)).toNat)] M7 Qc16 ∧ ∀ (r17 : Int) (M18 : mM), m_ir r17 → m_okM M18 → Qc16 r17 M18 → (r6 = r17 → X_ (kk_L_law L xs) 951 [v_S, v_P 0, v_P 79, v_I x3] [] M18 Q) ∧ (¬ r6 = r17 → Q 0 M18)) : X_ (kk_L_law L xs) 589 [v_S, v_P 0, v_P 79, v_I x3] [] M Q := by
  refine x_aload_n dL_law_589 rfl rfl ?_
  refine x_sload_n dL_law_590 rfl rfl ?_
  refine x_iload_n dL_law_591 rfl rfl ?_
  refine x_iconst dL_law_592 (by decide) ?_
  obtain ⟨s1, h⟩ := h
  refine x_iadd dL_law_593 s1 ?_
  obtain ⟨s2, h⟩ := h
  refine x_sald dL_law_594 rfl hxs s2 ?_
  refine x_sload_n dL_law_595 rfl rfl ?_
  refine x_iload_n dL_law_596 rfl rfl ?_
  refine x_iconst dL_law_597 (by decide) ?_
  obtain ⟨s3, h⟩ := h
  refine x_iadd dL_law_598 s3 ?_
  obtain ⟨s4, h⟩ := h
  refine x_sald dL_law_599 rfl hxs s4 ?_
  obtain ⟨Qc5, hc8, h⟩ := h
  refine x_callV (as := [v_I (xs ((x3 + 1)).toNat), v_I (xs ((x3 + 2)).toNat)]) (st := []) (Qc := Qc5) dL_law_600 mt_X10_day ml_L_77 ⟨Nat.le_of_ble_eq_true rfl, Nat.le_of_ble_eq_true rfl⟩ sh_0 rfl (fun _ _ => Nat.le_of_ble_eq_true rfl) hc8 (fun r6 M7 hr9 hM10 hq11 => ?_)
  replace h := h r6 M7 hr9 hM10 hq11
  change X_ (kk_L_law L xs) 603 [v_S, v_P 0, v_P 79, v_I x3] [v_I r6] M7 Q
  refine x_aload_n dL_law_603 rfl rfl ?_
  refine x_sload_n dL_law_604 rfl rfl ?_
  refine x_iload_n dL_law_605 rfl rfl ?_
  refine x_iconst dL_law_606 (by decide) ?_
  obtain ⟨s12, h⟩ := h
  refine x_iadd dL_law_607 s12 ?_
  obtain ⟨s13, h⟩ := h
  refine x_sald dL_law_608 rfl hxs s13 ?_
  refine x_sload_n dL_law_609 rfl rfl ?_
  refine x_iload_n dL_law_610 rfl rfl ?_
  refine x_iconst dL_law_611 (by decide) ?_
  obtain ⟨s14, h⟩ := h
  refine x_iadd dL_law_612 s14 ?_
  obtain ⟨s15, h⟩ := h
  refine x_sald dL_law_613 rfl hxs s15 ?_
  obtain ⟨Qc16, hc19, h⟩ := h
  refine x_callV (as := [v_I (xs ((x3 + 1)).toNat), v_I (xs ((x3 + 2)).toNat)]) (st := [v_I r6]) (Qc := Qc16) dL_law_614 mt_X11_day ml_L_80 ⟨Nat.le_of_ble_eq_true rfl, Nat.le_of_ble_eq_true rfl⟩ sh_79 rfl (fun _ _ => Nat.le_of_ble_eq_true rfl) hc19 (fun r17 M18 hr20 hM21 hq22 => ?_)
  replace h := h r17 M18 hr20 hM21 hq22
  change X_ (kk_L_law L xs) 617 [v_S, v_P 0, v_P 79, v_I x3] [v_I r17, v_I r6] M18 Q
  refine x_ic_eq (tgt := 951) dL_law_617 (by decide) (fun hc => ?_) (fun hc => ?_)
  · replace h := h.1 hc
    exact h
  · replace h := h.2 hc
    refine x_iconst dL_law_620 (by decide) ?_
    refine x_iret dL_law_621 rfl (Or.inr ⟨rfl, Or.inl rfl⟩) (fun _ _ => h)
theorem wp_L_law_622 {x3 : Int} {L : Nat} {xs : Nat → Int} {M : mM} {Q : Int → mM → Prop} (hxs : ∀ j, m_ir (xs j)) (hL2 : L ≤ 2048) (h : (m_ir (x3 + 1)) ∧ (0 ≤ (x3 + 1) ∧ (x3 + 1) < (L : Int)) ∧ ∃ Qc3 : Int → mM → Prop, C_ kk_X10_dealt [v_P 0, v_I (xs ((x3 + 1)).toNat)] M Qc3 ∧ ∀ (r4 : Int) (M5 : mM), m_ir r4 → m_okM M5 → Qc3 r4 M5 → (m_ir (x3 + 1)) ∧ (0 ≤ (x3 + 1) ∧ (x3 + 1) < (L : Int)) ∧ ∃ Qc12 : Int → mM → Prop, C_ kk_X11_dealt [v_P 79, v_I (xs ((x3 + 1)).toNat)] M5 Qc12 ∧ ∀ (r13 : Int) (M14 : mM), m_ir r13 → m_okM M14 → Qc12 r13 M14 → (r4 = r13 → X_ (kk_L_law L xs) 951 [v_S, v_P 0, v_P 79, v_I x3] [] M14 Q) ∧ (¬ r4 = r13 → Q 0 M14)) : X_ (kk_L_law L xs) 622 [v_S, v_P 0, v_P 79, v_I x3] [] M Q := by
  refine x_aload_n dL_law_622 rfl rfl ?_
  refine x_sload_n dL_law_623 rfl rfl ?_
  refine x_iload_n dL_law_624 rfl rfl ?_
  refine x_iconst dL_law_625 (by decide) ?_
  obtain ⟨s1, h⟩ := h
  refine x_iadd dL_law_626 s1 ?_
  obtain ⟨s2, h⟩ := h
  refine x_sald dL_law_627 rfl hxs s2 ?_
  obtain ⟨Qc3, hc6, h⟩ := h
  refine x_callV (as := [v_I (xs ((x3 + 1)).toNat)]) (st := []) (Qc := Qc3) dL_law_628 mt_X10_dealt ml_L_81 ⟨Nat.le_of_ble_eq_true rfl, Nat.le_of_ble_eq_true rfl⟩ sh_0 rfl (fun _ _ => Nat.le_of_ble_eq_true rfl) hc6 (fun r4 M5 hr7 hM8 hq9 => ?_)
  replace h := h r4 M5 hr7 hM8 hq9
  change X_ (kk_L_law L xs) 631 [v_S, v_P 0, v_P 79, v_I x3] [v_I r4] M5 Q
  refine x_aload_n dL_law_631 rfl rfl ?_
  refine x_sload_n dL_law_632 rfl rfl ?_
  refine x_iload_n dL_law_633 rfl rfl ?_
  refine x_iconst dL_law_634 (by decide) ?_
  obtain ⟨s10, h⟩ := h
  refine x_iadd dL_law_635 s10 ?_
  obtain ⟨s11, h⟩ := h
  refine x_sald dL_law_636 rfl hxs s11 ?_
  obtain ⟨Qc12, hc15, h⟩ := h
  refine x_callV (as := [v_I (xs ((x3 + 1)).toNat)]) (st := [v_I r4]) (Qc := Qc12) dL_law_637 mt_X11_dealt ml_L_84 ⟨Nat.le_of_ble_eq_true rfl, Nat.le_of_ble_eq_true rfl⟩ sh_79 rfl (fun _ _ => Nat.le_of_ble_eq_true rfl) hc15 (fun r13 M14 hr16 hM17 hq18 => ?_)
  replace h := h r13 M14 hr16 hM17 hq18
  change X_ (kk_L_law L xs) 640 [v_S, v_P 0, v_P 79, v_I x3] [v_I r13, v_I r4] M14 Q
  refine x_ic_eq (tgt := 951) dL_law_640 (by decide) (fun hc => ?_) (fun hc => ?_)
  · replace h := h.1 hc
    exact h
  · replace h := h.2 hc
    refine x_iconst dL_law_643 (by decide) ?_
    refine x_iret dL_law_644 rfl (Or.inr ⟨rfl, Or.inl rfl⟩) (fun _ _ => h)
theorem wp_L_law_645 {x3 : Int} {L : Nat} {xs : Nat → Int} {M : mM} {Q : Int → mM → Prop} (hxs : ∀ j, m_ir (xs j)) (hL2 : L ≤ 2048) (h : (m_ir (x3 + 1)) ∧ (0 ≤ (x3 + 1) ∧ (x3 + 1) < (L : Int)) ∧ (m_ir (x3 + 2)) ∧ (0 ≤ (x3 + 2) ∧ (x3 + 2) < (L : Int)) ∧ ∃ Qc5 : Int → mM → Prop, C_ kk_X10_price [v_P 0, v_I (xs ((x3 + 1)).toNat), v_I (xs ((x3 + 2)).toNat)] M Qc5 ∧ ∀ (r6 : Int) (M7 : mM), m_ir r6 → m_okM M7 → Qc5 r6 M7 → (m_ir (x3 + 1)) ∧ (0 ≤ (x3 + 1) ∧ (x3 + 1) < (L : Int)) ∧ (m_ir (x3 + 2)) ∧ (0 ≤ (x3 + 2) ∧ (x3 + 2) < (L : Int)) ∧ ∃ Qc16 : Int → mM → Prop, C_ kk_X11_price [v_P 79, v_I (xs ((x3 + 1)).toNat), v_I (xs ((x3 + 2)).toNat)] M7 Qc16 ∧ ∀ (r17 : Int) (M18 : mM), m_ir r17 → m_okM M18 → Qc16 r17 M18 → (r6 = r17 → X_ (kk_L_law L xs) 951 [v_S, v_P 0, v_P 79, v_I x3] [] M18 Q) ∧ (¬ r6 = r17 → Q 0 M18)) : X_ (kk_L_law L xs) 645 [v_S, v_P 0, v_P 79, v_I x3] [] M Q := by
  refine x_aload_n dL_law_645 rfl rfl ?_
  refine x_sload_n dL_law_646 rfl rfl ?_
  refine x_iload_n dL_law_647 rfl rfl ?_
  refine x_iconst dL_law_648 (by decide) ?_
  obtain ⟨s1, h⟩ := h
  refine x_iadd dL_law_649 s1 ?_
  obtain ⟨s2, h⟩ := h
  refine x_sald dL_law_650 rfl hxs s2 ?_
  refine x_sload_n dL_law_651 rfl rfl ?_
  refine x_iload_n dL_law_652 rfl rfl ?_
  refine x_iconst dL_law_653 (by decide) ?_
  obtain ⟨s3, h⟩ := h
  refine x_iadd dL_law_654 s3 ?_
  obtain ⟨s4, h⟩ := h
  refine x_sald dL_law_655 rfl hxs s4 ?_
  obtain ⟨Qc5, hc8, h⟩ := h
  refine x_callV (as := [v_I (xs ((x3 + 1)).toNat), v_I (xs ((x3 + 2)).toNat)]) (st := []) (Qc := Qc5) dL_law_656 mt_X10_price ml_L_85 ⟨Nat.le_of_ble_eq_true rfl, Nat.le_of_ble_eq_true rfl⟩ sh_0 rfl (fun _ _ => Nat.le_of_ble_eq_true rfl) hc8 (fun r6 M7 hr9 hM10 hq11 => ?_)
  replace h := h r6 M7 hr9 hM10 hq11
  change X_ (kk_L_law L xs) 659 [v_S, v_P 0, v_P 79, v_I x3] [v_I r6] M7 Q
  refine x_aload_n dL_law_659 rfl rfl ?_
  refine x_sload_n dL_law_660 rfl rfl ?_
  refine x_iload_n dL_law_661 rfl rfl ?_
  refine x_iconst dL_law_662 (by decide) ?_
  obtain ⟨s12, h⟩ := h
  refine x_iadd dL_law_663 s12 ?_
  obtain ⟨s13, h⟩ := h
  refine x_sald dL_law_664 rfl hxs s13 ?_
  refine x_sload_n dL_law_665 rfl rfl ?_
  refine x_iload_n dL_law_666 rfl rfl ?_
  refine x_iconst dL_law_667 (by decide) ?_
  obtain ⟨s14, h⟩ := h
  refine x_iadd dL_law_668 s14 ?_
  obtain ⟨s15, h⟩ := h
  refine x_sald dL_law_669 rfl hxs s15 ?_
  obtain ⟨Qc16, hc19, h⟩ := h
  refine x_callV (as := [v_I (xs ((x3 + 1)).toNat), v_I (xs ((x3 + 2)).toNat)]) (st := [v_I r6]) (Qc := Qc16) dL_law_670 mt_X11_price ml_L_88 ⟨Nat.le_of_ble_eq_true rfl, Nat.le_of_ble_eq_true rfl⟩ sh_79 rfl (fun _ _ => Nat.le_of_ble_eq_true rfl) hc19 (fun r17 M18 hr20 hM21 hq22 => ?_)
  replace h := h r17 M18 hr20 hM21 hq22
  change X_ (kk_L_law L xs) 673 [v_S, v_P 0, v_P 79, v_I x3] [v_I r17, v_I r6] M18 Q
  refine x_ic_eq (tgt := 951) dL_law_673 (by decide) (fun hc => ?_) (fun hc => ?_)
  · replace h := h.1 hc
    exact h
  · replace h := h.2 hc
    refine x_iconst dL_law_676 (by decide) ?_
    refine x_iret dL_law_677 rfl (Or.inr ⟨rfl, Or.inl rfl⟩) (fun _ _ => h)
theorem wp_L_law_678 {x3 : Int} {L : Nat} {xs : Nat → Int} {M : mM} {Q : Int → mM → Prop} (hxs : ∀ j, m_ir (xs j)) (hL2 : L ≤ 2048) (h : (m_ir (x3 + 1)) ∧ (0 ≤ (x3 + 1) ∧ (x3 + 1) < (L : Int)) ∧ (m_ir (x3 + 2)) ∧ (0 ≤ (x3 + 2) ∧ (x3 + 2) < (L : Int)) ∧ ∃ Qc5 : Int → mM → Prop, C_ kk_X10_likes [v_P 0, v_I (xs ((x3 + 1)).toNat), v_I (xs ((x3 + 2)).toNat)] M Qc5 ∧ ∀ (r6 : Int) (M7 : mM), m_ir r6 → m_okM M7 → Qc5 r6 M7 → (m_ir (x3 + 1)) ∧ (0 ≤ (x3 + 1) ∧ (x3 + 1) < (L : Int)) ∧ (m_ir (x3 + 2)) ∧ (0 ≤ (x3 + 2) ∧ (x3 + 2) < (L : Int)) ∧ ∃ Qc16 : Int → mM → Prop, C_ kk_X11_likes [v_P 79, v_I (xs ((x3 + 1)).toNat), v_I (xs ((x3 + 2)).toNat)] M7 Qc16 ∧ ∀ (r17 : Int) (M18 : mM), m_ir r17 → m_okM M18 → Qc16 r17 M18 → (r6 = r17 → X_ (kk_L_law L xs) 951 [v_S, v_P 0, v_P 79, v_I x3] [] M18 Q) ∧ (¬ r6 = r17 → Q 0 M18)) : X_ (kk_L_law L xs) 678 [v_S, v_P 0, v_P 79, v_I x3] [] M Q := by
  refine x_aload_n dL_law_678 rfl rfl ?_
  refine x_sload_n dL_law_679 rfl rfl ?_
  refine x_iload_n dL_law_680 rfl rfl ?_
  refine x_iconst dL_law_681 (by decide) ?_
  obtain ⟨s1, h⟩ := h
  refine x_iadd dL_law_682 s1 ?_
  obtain ⟨s2, h⟩ := h
  refine x_sald dL_law_683 rfl hxs s2 ?_
  refine x_sload_n dL_law_684 rfl rfl ?_
  refine x_iload_n dL_law_685 rfl rfl ?_
  refine x_iconst dL_law_686 (by decide) ?_
  obtain ⟨s3, h⟩ := h
  refine x_iadd dL_law_687 s3 ?_
  obtain ⟨s4, h⟩ := h
  refine x_sald dL_law_688 rfl hxs s4 ?_
  obtain ⟨Qc5, hc8, h⟩ := h
  refine x_callV (as := [v_I (xs ((x3 + 1)).toNat), v_I (xs ((x3 + 2)).toNat)]) (st := []) (Qc := Qc5) dL_law_689 mt_X10_likes ml_L_89 ⟨Nat.le_of_ble_eq_true rfl, Nat.le_of_ble_eq_true rfl⟩ sh_0 rfl (fun _ _ => Nat.le_of_ble_eq_true rfl) hc8 (fun r6 M7 hr9 hM10 hq11 => ?_)
  replace h := h r6 M7 hr9 hM10 hq11
  change X_ (kk_L_law L xs) 692 [v_S, v_P 0, v_P 79, v_I x3] [v_I r6] M7 Q
  refine x_aload_n dL_law_692 rfl rfl ?_
  refine x_sload_n dL_law_693 rfl rfl ?_
  refine x_iload_n dL_law_694 rfl rfl ?_
  refine x_iconst dL_law_695 (by decide) ?_
  obtain ⟨s12, h⟩ := h
  refine x_iadd dL_law_696 s12 ?_
  obtain ⟨s13, h⟩ := h
  refine x_sald dL_law_697 rfl hxs s13 ?_
  refine x_sload_n dL_law_698 rfl rfl ?_
  refine x_iload_n dL_law_699 rfl rfl ?_
  refine x_iconst dL_law_700 (by decide) ?_
  obtain ⟨s14, h⟩ := h
  refine x_iadd dL_law_701 s14 ?_
  obtain ⟨s15, h⟩ := h
  refine x_sald dL_law_702 rfl hxs s15 ?_
  obtain ⟨Qc16, hc19, h⟩ := h
  refine x_callV (as := [v_I (xs ((x3 + 1)).toNat), v_I (xs ((x3 + 2)).toNat)]) (st := [v_I r6]) (Qc := Qc16) dL_law_703 mt_X11_likes ml_L_92 ⟨Nat.le_of_ble_eq_true rfl, Nat.le_of_ble_eq_true rfl⟩ sh_79 rfl (fun _ _ => Nat.le_of_ble_eq_true rfl) hc19 (fun r17 M18 hr20 hM21 hq22 => ?_)
  replace h := h r17 M18 hr20 hM21 hq22
  change X_ (kk_L_law L xs) 706 [v_S, v_P 0, v_P 79, v_I x3] [v_I r17, v_I r6] M18 Q
  refine x_ic_eq (tgt := 951) dL_law_706 (by decide) (fun hc => ?_) (fun hc => ?_)
  · replace h := h.1 hc
    exact h
  · replace h := h.2 hc
    refine x_iconst dL_law_709 (by decide) ?_
    refine x_iret dL_law_710 rfl (Or.inr ⟨rfl, Or.inl rfl⟩) (fun _ _ => h)
theorem wp_L_law_711 {x3 : Int} {L : Nat} {xs : Nat → Int} {M : mM} {Q : Int → mM → Prop} (hxs : ∀ j, m_ir (xs j)) (hL2 : L ≤ 2048) (h : ∃ Qc1 : Int → mM → Prop, C_ kk_X10_missing [v_P 0] M Qc1 ∧ ∀ (r2 : Int) (M3 : mM), m_ir r2 → m_okM M3 → Qc1 r2 M3 → ∃ Qc8 : Int → mM → Prop, C_ kk_X11_missing [v_P 79] M3 Qc8 ∧ ∀ (r9 : Int) (M10 : mM), m_ir r9 → m_okM M10 → Qc8 r9 M10 → (r2 = r9 → X_ (kk_L_law L xs) 951 [v_S, v_P 0, v_P 79, v_I x3] [] M10 Q) ∧ (¬ r2 = r9 → Q 0 M10)) : X_ (kk_L_law L xs) 711 [v_S, v_P 0, v_P 79, v_I x3] [] M Q := by
  refine x_aload_n dL_law_711 rfl rfl ?_
  obtain ⟨Qc1, hc4, h⟩ := h
  refine x_callV (as := []) (st := []) (Qc := Qc1) dL_law_712 mt_X10_missing ml_L_93 ⟨Nat.le_of_ble_eq_true rfl, Nat.le_of_ble_eq_true rfl⟩ sh_0 rfl (fun _ _ => Nat.le_of_ble_eq_true rfl) hc4 (fun r2 M3 hr5 hM6 hq7 => ?_)
  replace h := h r2 M3 hr5 hM6 hq7
  change X_ (kk_L_law L xs) 715 [v_S, v_P 0, v_P 79, v_I x3] [v_I r2] M3 Q
  refine x_aload_n dL_law_715 rfl rfl ?_
  obtain ⟨Qc8, hc11, h⟩ := h
  refine x_callV (as := []) (st := [v_I r2]) (Qc := Qc8) dL_law_716 mt_X11_missing ml_L_96 ⟨Nat.le_of_ble_eq_true rfl, Nat.le_of_ble_eq_true rfl⟩ sh_79 rfl (fun _ _ => Nat.le_of_ble_eq_true rfl) hc11 (fun r9 M10 hr12 hM13 hq14 => ?_)
  replace h := h r9 M10 hr12 hM13 hq14
  change X_ (kk_L_law L xs) 719 [v_S, v_P 0, v_P 79, v_I x3] [v_I r9, v_I r2] M10 Q
  refine x_ic_eq (tgt := 951) dL_law_719 (by decide) (fun hc => ?_) (fun hc => ?_)
  · replace h := h.1 hc
    exact h
  · replace h := h.2 hc
    refine x_iconst dL_law_722 (by decide) ?_
    refine x_iret dL_law_723 rfl (Or.inr ⟨rfl, Or.inl rfl⟩) (fun _ _ => h)
theorem wp_L_law_724 {x3 : Int} {L : Nat} {xs : Nat → Int} {M : mM} {Q : Int → mM → Prop} (hxs : ∀ j, m_ir (xs j)) (hL2 : L ≤ 2048) (h : (m_ir (x3 + 1)) ∧ (0 ≤ (x3 + 1) ∧ (x3 + 1) < (L : Int)) ∧ ∃ Qc3 : Int → mM → Prop, C_ kk_X10_raised [v_P 0, v_I (xs ((x3 + 1)).toNat)] M Qc3 ∧ ∀ (r4 : Int) (M5 : mM), m_ir r4 → m_okM M5 → Qc3 r4 M5 → (m_ir (x3 + 1)) ∧ (0 ≤ (x3 + 1) ∧ (x3 + 1) < (L : Int)) ∧ ∃ Qc12 : Int → mM → Prop, C_ kk_X11_raised [v_P 79, v_I (xs ((x3 + 1)).toNat)] M5 Qc12 ∧ ∀ (r13 : Int) (M14 : mM), m_ir r13 → m_okM M14 → Qc12 r13 M14 → (r4 = r13 → X_ (kk_L_law L xs) 951 [v_S, v_P 0, v_P 79, v_I x3] [] M14 Q) ∧ (¬ r4 = r13 → Q 0 M14)) : X_ (kk_L_law L xs) 724 [v_S, v_P 0, v_P 79, v_I x3] [] M Q := by
  refine x_aload_n dL_law_724 rfl rfl ?_
  refine x_sload_n dL_law_725 rfl rfl ?_
  refine x_iload_n dL_law_726 rfl rfl ?_
  refine x_iconst dL_law_727 (by decide) ?_
  obtain ⟨s1, h⟩ := h
  refine x_iadd dL_law_728 s1 ?_
  obtain ⟨s2, h⟩ := h
  refine x_sald dL_law_729 rfl hxs s2 ?_
  obtain ⟨Qc3, hc6, h⟩ := h
  refine x_callV (as := [v_I (xs ((x3 + 1)).toNat)]) (st := []) (Qc := Qc3) dL_law_730 mt_X10_raised ml_L_97 ⟨Nat.le_of_ble_eq_true rfl, Nat.le_of_ble_eq_true rfl⟩ sh_0 rfl (fun _ _ => Nat.le_of_ble_eq_true rfl) hc6 (fun r4 M5 hr7 hM8 hq9 => ?_)
  replace h := h r4 M5 hr7 hM8 hq9
  change X_ (kk_L_law L xs) 733 [v_S, v_P 0, v_P 79, v_I x3] [v_I r4] M5 Q
  refine x_aload_n dL_law_733 rfl rfl ?_
  refine x_sload_n dL_law_734 rfl rfl ?_
  refine x_iload_n dL_law_735 rfl rfl ?_
  refine x_iconst dL_law_736 (by decide) ?_
  obtain ⟨s10, h⟩ := h
  refine x_iadd dL_law_737 s10 ?_
  obtain ⟨s11, h⟩ := h
  refine x_sald dL_law_738 rfl hxs s11 ?_
  obtain ⟨Qc12, hc15, h⟩ := h
  refine x_callV (as := [v_I (xs ((x3 + 1)).toNat)]) (st := [v_I r4]) (Qc := Qc12) dL_law_739 mt_X11_raised ml_L_100 ⟨Nat.le_of_ble_eq_true rfl, Nat.le_of_ble_eq_true rfl⟩ sh_79 rfl (fun _ _ => Nat.le_of_ble_eq_true rfl) hc15 (fun r13 M14 hr16 hM17 hq18 => ?_)
  replace h := h r13 M14 hr16 hM17 hq18
  change X_ (kk_L_law L xs) 742 [v_S, v_P 0, v_P 79, v_I x3] [v_I r13, v_I r4] M14 Q
  refine x_ic_eq (tgt := 951) dL_law_742 (by decide) (fun hc => ?_) (fun hc => ?_)
  · replace h := h.1 hc
    exact h
  · replace h := h.2 hc
    refine x_iconst dL_law_745 (by decide) ?_
    refine x_iret dL_law_746 rfl (Or.inr ⟨rfl, Or.inl rfl⟩) (fun _ _ => h)
theorem wp_L_law_747 {x3 : Int} {L : Nat} {xs : Nat → Int} {M : mM} {Q : Int → mM → Prop} (hxs : ∀ j, m_ir (xs j)) (hL2 : L ≤ 2048) (h : (m_ir (x3 + 1)) ∧ (0 ≤ (x3 + 1) ∧ (x3 + 1) < (L : Int)) ∧ ∃ Qc3 : Int → mM → Prop, C_ kk_X10_orders [v_P 0, v_I (xs ((x3 + 1)).toNat)] M Qc3 ∧ ∀ (r4 : Int) (M5 : mM), m_ir r4 → m_okM M5 → Qc3 r4 M5 → (m_ir (x3 + 1)) ∧ (0 ≤ (x3 + 1) ∧ (x3 + 1) < (L : Int)) ∧ ∃ Qc12 : Int → mM → Prop, C_ kk_X11_orders [v_P 79, v_I (xs ((x3 + 1)).toNat)] M5 Qc12 ∧ ∀ (r13 : Int) (M14 : mM), m_ir r13 → m_okM M14 → Qc12 r13 M14 → (r4 = r13 → X_ (kk_L_law L xs) 951 [v_S, v_P 0, v_P 79, v_I x3] [] M14 Q) ∧ (¬ r4 = r13 → Q 0 M14)) : X_ (kk_L_law L xs) 747 [v_S, v_P 0, v_P 79, v_I x3] [] M Q := by
  refine x_aload_n dL_law_747 rfl rfl ?_
  refine x_sload_n dL_law_748 rfl rfl ?_
  refine x_iload_n dL_law_749 rfl rfl ?_
  refine x_iconst dL_law_750 (by decide) ?_
  obtain ⟨s1, h⟩ := h
  refine x_iadd dL_law_751 s1 ?_
  obtain ⟨s2, h⟩ := h
  refine x_sald dL_law_752 rfl hxs s2 ?_
  obtain ⟨Qc3, hc6, h⟩ := h
  refine x_callV (as := [v_I (xs ((x3 + 1)).toNat)]) (st := []) (Qc := Qc3) dL_law_753 mt_X10_orders ml_L_101 ⟨Nat.le_of_ble_eq_true rfl, Nat.le_of_ble_eq_true rfl⟩ sh_0 rfl (fun _ _ => Nat.le_of_ble_eq_true rfl) hc6 (fun r4 M5 hr7 hM8 hq9 => ?_)
  replace h := h r4 M5 hr7 hM8 hq9
  change X_ (kk_L_law L xs) 756 [v_S, v_P 0, v_P 79, v_I x3] [v_I r4] M5 Q
  refine x_aload_n dL_law_756 rfl rfl ?_
  refine x_sload_n dL_law_757 rfl rfl ?_
  refine x_iload_n dL_law_758 rfl rfl ?_
  refine x_iconst dL_law_759 (by decide) ?_
  obtain ⟨s10, h⟩ := h
  refine x_iadd dL_law_760 s10 ?_
  obtain ⟨s11, h⟩ := h
  refine x_sald dL_law_761 rfl hxs s11 ?_
  obtain ⟨Qc12, hc15, h⟩ := h
  refine x_callV (as := [v_I (xs ((x3 + 1)).toNat)]) (st := [v_I r4]) (Qc := Qc12) dL_law_762 mt_X11_orders ml_L_104 ⟨Nat.le_of_ble_eq_true rfl, Nat.le_of_ble_eq_true rfl⟩ sh_79 rfl (fun _ _ => Nat.le_of_ble_eq_true rfl) hc15 (fun r13 M14 hr16 hM17 hq18 => ?_)
  replace h := h r13 M14 hr16 hM17 hq18
  change X_ (kk_L_law L xs) 765 [v_S, v_P 0, v_P 79, v_I x3] [v_I r13, v_I r4] M14 Q
  refine x_ic_eq (tgt := 951) dL_law_765 (by decide) (fun hc => ?_) (fun hc => ?_)
  · replace h := h.1 hc
    exact h
  · replace h := h.2 hc
    refine x_iconst dL_law_768 (by decide) ?_
    refine x_iret dL_law_769 rfl (Or.inr ⟨rfl, Or.inl rfl⟩) (fun _ _ => h)
theorem wp_L_law_770 {x3 : Int} {L : Nat} {xs : Nat → Int} {M : mM} {Q : Int → mM → Prop} (hxs : ∀ j, m_ir (xs j)) (hL2 : L ≤ 2048) (h : (m_ir (x3 + 1)) ∧ (0 ≤ (x3 + 1) ∧ (x3 + 1) < (L : Int)) ∧ ∃ Qc3 : Int → mM → Prop, C_ kk_X10_gain [v_P 0, v_I (xs ((x3 + 1)).toNat)] M Qc3 ∧ ∀ (r4 : Int) (M5 : mM), m_ir r4 → m_okM M5 → Qc3 r4 M5 → (m_ir (x3 + 1)) ∧ (0 ≤ (x3 + 1) ∧ (x3 + 1) < (L : Int)) ∧ ∃ Qc12 : Int → mM → Prop, C_ kk_X11_gain [v_P 79, v_I (xs ((x3 + 1)).toNat)] M5 Qc12 ∧ ∀ (r13 : Int) (M14 : mM), m_ir r13 → m_okM M14 → Qc12 r13 M14 → (r4 = r13 → X_ (kk_L_law L xs) 951 [v_S, v_P 0, v_P 79, v_I x3] [] M14 Q) ∧ (¬ r4 = r13 → Q 0 M14)) : X_ (kk_L_law L xs) 770 [v_S, v_P 0, v_P 79, v_I x3] [] M Q := by
  refine x_aload_n dL_law_770 rfl rfl ?_
  refine x_sload_n dL_law_771 rfl rfl ?_
  refine x_iload_n dL_law_772 rfl rfl ?_
  refine x_iconst dL_law_773 (by decide) ?_
  obtain ⟨s1, h⟩ := h
  refine x_iadd dL_law_774 s1 ?_
  obtain ⟨s2, h⟩ := h
  refine x_sald dL_law_775 rfl hxs s2 ?_
  obtain ⟨Qc3, hc6, h⟩ := h
  refine x_callV (as := [v_I (xs ((x3 + 1)).toNat)]) (st := []) (Qc := Qc3) dL_law_776 mt_X10_gain ml_L_105 ⟨Nat.le_of_ble_eq_true rfl, Nat.le_of_ble_eq_true rfl⟩ sh_0 rfl (fun _ _ => Nat.le_of_ble_eq_true rfl) hc6 (fun r4 M5 hr7 hM8 hq9 => ?_)
  replace h := h r4 M5 hr7 hM8 hq9
  change X_ (kk_L_law L xs) 779 [v_S, v_P 0, v_P 79, v_I x3] [v_I r4] M5 Q
  refine x_aload_n dL_law_779 rfl rfl ?_
  refine x_sload_n dL_law_780 rfl rfl ?_
  refine x_iload_n dL_law_781 rfl rfl ?_
  refine x_iconst dL_law_782 (by decide) ?_
  obtain ⟨s10, h⟩ := h
  refine x_iadd dL_law_783 s10 ?_
  obtain ⟨s11, h⟩ := h
  refine x_sald dL_law_784 rfl hxs s11 ?_
  obtain ⟨Qc12, hc15, h⟩ := h
  refine x_callV (as := [v_I (xs ((x3 + 1)).toNat)]) (st := [v_I r4]) (Qc := Qc12) dL_law_785 mt_X11_gain ml_L_108 ⟨Nat.le_of_ble_eq_true rfl, Nat.le_of_ble_eq_true rfl⟩ sh_79 rfl (fun _ _ => Nat.le_of_ble_eq_true rfl) hc15 (fun r13 M14 hr16 hM17 hq18 => ?_)
  replace h := h r13 M14 hr16 hM17 hq18
  change X_ (kk_L_law L xs) 788 [v_S, v_P 0, v_P 79, v_I x3] [v_I r13, v_I r4] M14 Q
  refine x_ic_eq (tgt := 951) dL_law_788 (by decide) (fun hc => ?_) (fun hc => ?_)
  · replace h := h.1 hc
    exact h
  · replace h := h.2 hc
    refine x_iconst dL_law_791 (by decide) ?_
    refine x_iret dL_law_792 rfl (Or.inr ⟨rfl, Or.inl rfl⟩) (fun _ _ => h)
theorem wp_L_law_793 {x3 : Int} {L : Nat} {xs : Nat → Int} {M : mM} {Q : Int → mM → Prop} (hxs : ∀ j, m_ir (xs j)) (hL2 : L ≤ 2048) (h : (m_ir (x3 + 1)) ∧ (0 ≤ (x3 + 1) ∧ (x3 + 1) < (L : Int)) ∧ (m_ir (x3 + 2)) ∧ (0 ≤ (x3 + 2) ∧ (x3 + 2) < (L : Int)) ∧ ∃ Qc5 : Int → mM → Prop, C_ kk_X10_cut [v_P 0, v_I (xs ((x3 + 1)).toNat), v_I (xs ((x3 + 2)).toNat)] M Qc5 ∧ ∀ (r6 : Int) (M7 : mM), m_ir r6 → m_okM M7 → Qc5 r6 M7 → (m_ir (x3 + 1)) ∧ (0 ≤ (x3 + 1) ∧ (x3 + 1) < (L : Int)) ∧ (m_ir (x3 + 2)) ∧ (0 ≤ (x3 + 2) ∧ (x3 + 2) < (L : Int)) ∧ ∃ Qc16 : Int → mM → Prop, C_ kk_X11_cut [v_P 79, v_I (xs ((x3 + 1)).toNat), v_I (xs ((x3 + 2)).toNat)] M7 Qc16 ∧ ∀ (r17 : Int) (M18 : mM), m_ir r17 → m_okM M18 → Qc16 r17 M18 → (r6 = r17 → X_ (kk_L_law L xs) 951 [v_S, v_P 0, v_P 79, v_I x3] [] M18 Q) ∧ (¬ r6 = r17 → Q 0 M18)) : X_ (kk_L_law L xs) 793 [v_S, v_P 0, v_P 79, v_I x3] [] M Q := by
  refine x_aload_n dL_law_793 rfl rfl ?_
  refine x_sload_n dL_law_794 rfl rfl ?_
  refine x_iload_n dL_law_795 rfl rfl ?_
  refine x_iconst dL_law_796 (by decide) ?_
  obtain ⟨s1, h⟩ := h
  refine x_iadd dL_law_797 s1 ?_
  obtain ⟨s2, h⟩ := h
  refine x_sald dL_law_798 rfl hxs s2 ?_
  refine x_sload_n dL_law_799 rfl rfl ?_
  refine x_iload_n dL_law_800 rfl rfl ?_
  refine x_iconst dL_law_801 (by decide) ?_
  obtain ⟨s3, h⟩ := h
  refine x_iadd dL_law_802 s3 ?_
  obtain ⟨s4, h⟩ := h
  refine x_sald dL_law_803 rfl hxs s4 ?_
  obtain ⟨Qc5, hc8, h⟩ := h
  refine x_callV (as := [v_I (xs ((x3 + 1)).toNat), v_I (xs ((x3 + 2)).toNat)]) (st := []) (Qc := Qc5) dL_law_804 mt_X10_cut ml_L_109 ⟨Nat.le_of_ble_eq_true rfl, Nat.le_of_ble_eq_true rfl⟩ sh_0 rfl (fun _ _ => Nat.le_of_ble_eq_true rfl) hc8 (fun r6 M7 hr9 hM10 hq11 => ?_)
  replace h := h r6 M7 hr9 hM10 hq11
  change X_ (kk_L_law L xs) 807 [v_S, v_P 0, v_P 79, v_I x3] [v_I r6] M7 Q
  refine x_aload_n dL_law_807 rfl rfl ?_
  refine x_sload_n dL_law_808 rfl rfl ?_
  refine x_iload_n dL_law_809 rfl rfl ?_
  refine x_iconst dL_law_810 (by decide) ?_
  obtain ⟨s12, h⟩ := h
  refine x_iadd dL_law_811 s12 ?_
  obtain ⟨s13, h⟩ := h
  refine x_sald dL_law_812 rfl hxs s13 ?_
  refine x_sload_n dL_law_813 rfl rfl ?_
  refine x_iload_n dL_law_814 rfl rfl ?_
  refine x_iconst dL_law_815 (by decide) ?_
  obtain ⟨s14, h⟩ := h
  refine x_iadd dL_law_816 s14 ?_
  obtain ⟨s15, h⟩ := h
  refine x_sald dL_law_817 rfl hxs s15 ?_
  obtain ⟨Qc16, hc19, h⟩ := h
  refine x_callV (as := [v_I (xs ((x3 + 1)).toNat), v_I (xs ((x3 + 2)).toNat)]) (st := [v_I r6]) (Qc := Qc16) dL_law_818 mt_X11_cut ml_L_112 ⟨Nat.le_of_ble_eq_true rfl, Nat.le_of_ble_eq_true rfl⟩ sh_79 rfl (fun _ _ => Nat.le_of_ble_eq_true rfl) hc19 (fun r17 M18 hr20 hM21 hq22 => ?_)
  replace h := h r17 M18 hr20 hM21 hq22
  change X_ (kk_L_law L xs) 821 [v_S, v_P 0, v_P 79, v_I x3] [v_I r17, v_I r6] M18 Q
  refine x_ic_eq (tgt := 951) dL_law_821 (by decide) (fun hc => ?_) (fun hc => ?_)
  · replace h := h.1 hc
    exact h
  · replace h := h.2 hc
    refine x_iconst dL_law_824 (by decide) ?_
    refine x_iret dL_law_825 rfl (Or.inr ⟨rfl, Or.inl rfl⟩) (fun _ _ => h)
theorem wp_L_law_826 {x3 : Int} {L : Nat} {xs : Nat → Int} {M : mM} {Q : Int → mM → Prop} (hxs : ∀ j, m_ir (xs j)) (hL2 : L ≤ 2048) (h : (m_ir (x3 + 1)) ∧ (0 ≤ (x3 + 1) ∧ (x3 + 1) < (L : Int)) ∧ ∃ Qc3 : Int → mM → Prop, C_ kk_X10_broken [v_P 0, v_I (xs ((x3 + 1)).toNat)] M Qc3 ∧ ∀ (r4 : Int) (M5 : mM), m_ir r4 → m_okM M5 → Qc3 r4 M5 → (m_ir (x3 + 1)) ∧ (0 ≤ (x3 + 1) ∧ (x3 + 1) < (L : Int)) ∧ ∃ Qc12 : Int → mM → Prop, C_ kk_X11_broken [v_P 79, v_I (xs ((x3 + 1)).toNat)] M5 Qc12 ∧ ∀ (r13 : Int) (M14 : mM), m_ir r13 → m_okM M14 → Qc12 r13 M14 → (r4 = r13 → X_ (kk_L_law L xs) 951 [v_S, v_P 0, v_P 79, v_I x3] [] M14 Q) ∧ (¬ r4 = r13 → Q 0 M14)) : X_ (kk_L_law L xs) 826 [v_S, v_P 0, v_P 79, v_I x3] [] M Q := by
  refine x_aload_n dL_law_826 rfl rfl ?_
  refine x_sload_n dL_law_827 rfl rfl ?_
  refine x_iload_n dL_law_828 rfl rfl ?_
  refine x_iconst dL_law_829 (by decide) ?_
  obtain ⟨s1, h⟩ := h
  refine x_iadd dL_law_830 s1 ?_
  obtain ⟨s2, h⟩ := h
  refine x_sald dL_law_831 rfl hxs s2 ?_
  obtain ⟨Qc3, hc6, h⟩ := h
  refine x_callV (as := [v_I (xs ((x3 + 1)).toNat)]) (st := []) (Qc := Qc3) dL_law_832 mt_X10_broken ml_L_113 ⟨Nat.le_of_ble_eq_true rfl, Nat.le_of_ble_eq_true rfl⟩ sh_0 rfl (fun _ _ => Nat.le_of_ble_eq_true rfl) hc6 (fun r4 M5 hr7 hM8 hq9 => ?_)
  replace h := h r4 M5 hr7 hM8 hq9
  change X_ (kk_L_law L xs) 835 [v_S, v_P 0, v_P 79, v_I x3] [v_I r4] M5 Q
  refine x_aload_n dL_law_835 rfl rfl ?_
  refine x_sload_n dL_law_836 rfl rfl ?_
  refine x_iload_n dL_law_837 rfl rfl ?_
  refine x_iconst dL_law_838 (by decide) ?_
  obtain ⟨s10, h⟩ := h
  refine x_iadd dL_law_839 s10 ?_
  obtain ⟨s11, h⟩ := h
  refine x_sald dL_law_840 rfl hxs s11 ?_
  obtain ⟨Qc12, hc15, h⟩ := h
  refine x_callV (as := [v_I (xs ((x3 + 1)).toNat)]) (st := [v_I r4]) (Qc := Qc12) dL_law_841 mt_X11_broken ml_L_116 ⟨Nat.le_of_ble_eq_true rfl, Nat.le_of_ble_eq_true rfl⟩ sh_79 rfl (fun _ _ => Nat.le_of_ble_eq_true rfl) hc15 (fun r13 M14 hr16 hM17 hq18 => ?_)
  replace h := h r13 M14 hr16 hM17 hq18
  change X_ (kk_L_law L xs) 844 [v_S, v_P 0, v_P 79, v_I x3] [v_I r13, v_I r4] M14 Q
  refine x_ic_eq (tgt := 951) dL_law_844 (by decide) (fun hc => ?_) (fun hc => ?_)
  · replace h := h.1 hc
    exact h
  · replace h := h.2 hc
    refine x_iconst dL_law_847 (by decide) ?_
    refine x_iret dL_law_848 rfl (Or.inr ⟨rfl, Or.inl rfl⟩) (fun _ _ => h)
theorem wp_L_law_849 {x3 : Int} {L : Nat} {xs : Nat → Int} {M : mM} {Q : Int → mM → Prop} (hxs : ∀ j, m_ir (xs j)) (hL2 : L ≤ 2048) (h : (m_ir (x3 + 1)) ∧ (0 ≤ (x3 + 1) ∧ (x3 + 1) < (L : Int)) ∧ ∃ Qc3 : Int → mM → Prop, C_ kk_X10_lesson [v_P 0, v_I (xs ((x3 + 1)).toNat)] M Qc3 ∧ ∀ (r4 : Int) (M5 : mM), m_ir r4 → m_okM M5 → Qc3 r4 M5 → (m_ir (x3 + 1)) ∧ (0 ≤ (x3 + 1) ∧ (x3 + 1) < (L : Int)) ∧ ∃ Qc12 : Int → mM → Prop, C_ kk_X11_lesson [v_P 79, v_I (xs ((x3 + 1)).toNat)] M5 Qc12 ∧ ∀ (r13 : Int) (M14 : mM), m_ir r13 → m_okM M14 → Qc12 r13 M14 → (r4 = r13 → X_ (kk_L_law L xs) 951 [v_S, v_P 0, v_P 79, v_I x3] [] M14 Q) ∧ (¬ r4 = r13 → Q 0 M14)) : X_ (kk_L_law L xs) 849 [v_S, v_P 0, v_P 79, v_I x3] [] M Q := by
  refine x_aload_n dL_law_849 rfl rfl ?_
  refine x_sload_n dL_law_850 rfl rfl ?_
  refine x_iload_n dL_law_851 rfl rfl ?_
  refine x_iconst dL_law_852 (by decide) ?_
  obtain ⟨s1, h⟩ := h
  refine x_iadd dL_law_853 s1 ?_
  obtain ⟨s2, h⟩ := h
  refine x_sald dL_law_854 rfl hxs s2 ?_
  obtain ⟨Qc3, hc6, h⟩ := h
  refine x_callV (as := [v_I (xs ((x3 + 1)).toNat)]) (st := []) (Qc := Qc3) dL_law_855 mt_X10_lesson ml_L_117 ⟨Nat.le_of_ble_eq_true rfl, Nat.le_of_ble_eq_true rfl⟩ sh_0 rfl (fun _ _ => Nat.le_of_ble_eq_true rfl) hc6 (fun r4 M5 hr7 hM8 hq9 => ?_)
  replace h := h r4 M5 hr7 hM8 hq9
  change X_ (kk_L_law L xs) 858 [v_S, v_P 0, v_P 79, v_I x3] [v_I r4] M5 Q
  refine x_aload_n dL_law_858 rfl rfl ?_
  refine x_sload_n dL_law_859 rfl rfl ?_
  refine x_iload_n dL_law_860 rfl rfl ?_
  refine x_iconst dL_law_861 (by decide) ?_
  obtain ⟨s10, h⟩ := h
  refine x_iadd dL_law_862 s10 ?_
  obtain ⟨s11, h⟩ := h
  refine x_sald dL_law_863 rfl hxs s11 ?_
  obtain ⟨Qc12, hc15, h⟩ := h
  refine x_callV (as := [v_I (xs ((x3 + 1)).toNat)]) (st := [v_I r4]) (Qc := Qc12) dL_law_864 mt_X11_lesson ml_L_120 ⟨Nat.le_of_ble_eq_true rfl, Nat.le_of_ble_eq_true rfl⟩ sh_79 rfl (fun _ _ => Nat.le_of_ble_eq_true rfl) hc15 (fun r13 M14 hr16 hM17 hq18 => ?_)
  replace h := h r13 M14 hr16 hM17 hq18
  change X_ (kk_L_law L xs) 867 [v_S, v_P 0, v_P 79, v_I x3] [v_I r13, v_I r4] M14 Q
  refine x_ic_eq (tgt := 951) dL_law_867 (by decide) (fun hc => ?_) (fun hc => ?_)
  · replace h := h.1 hc
    exact h
  · replace h := h.2 hc
    refine x_iconst dL_law_870 (by decide) ?_
    refine x_iret dL_law_871 rfl (Or.inr ⟨rfl, Or.inl rfl⟩) (fun _ _ => h)
theorem wp_L_law_872 {x3 : Int} {L : Nat} {xs : Nat → Int} {M : mM} {Q : Int → mM → Prop} (hxs : ∀ j, m_ir (xs j)) (hL2 : L ≤ 2048) (h : ∃ Qc1 : Int → mM → Prop, C_ kk_X10_unlearn [v_P 0] M Qc1 ∧ ∀ (r2 : Int) (M3 : mM), m_ir r2 → m_okM M3 → Qc1 r2 M3 → ∃ Qc8 : Int → mM → Prop, C_ kk_X11_unlearn [v_P 79] M3 Qc8 ∧ ∀ (r9 : Int) (M10 : mM), m_ir r9 → m_okM M10 → Qc8 r9 M10 → (r2 = r9 → X_ (kk_L_law L xs) 951 [v_S, v_P 0, v_P 79, v_I x3] [] M10 Q) ∧ (¬ r2 = r9 → Q 0 M10)) : X_ (kk_L_law L xs) 872 [v_S, v_P 0, v_P 79, v_I x3] [] M Q := by
  refine x_aload_n dL_law_872 rfl rfl ?_
  obtain ⟨Qc1, hc4, h⟩ := h
  refine x_callV (as := []) (st := []) (Qc := Qc1) dL_law_873 mt_X10_unlearn ml_L_121 ⟨Nat.le_of_ble_eq_true rfl, Nat.le_of_ble_eq_true rfl⟩ sh_0 rfl (fun _ _ => Nat.le_of_ble_eq_true rfl) hc4 (fun r2 M3 hr5 hM6 hq7 => ?_)
  replace h := h r2 M3 hr5 hM6 hq7
  change X_ (kk_L_law L xs) 876 [v_S, v_P 0, v_P 79, v_I x3] [v_I r2] M3 Q
  refine x_aload_n dL_law_876 rfl rfl ?_
  obtain ⟨Qc8, hc11, h⟩ := h
  refine x_callV (as := []) (st := [v_I r2]) (Qc := Qc8) dL_law_877 mt_X11_unlearn ml_L_124 ⟨Nat.le_of_ble_eq_true rfl, Nat.le_of_ble_eq_true rfl⟩ sh_79 rfl (fun _ _ => Nat.le_of_ble_eq_true rfl) hc11 (fun r9 M10 hr12 hM13 hq14 => ?_)
  replace h := h r9 M10 hr12 hM13 hq14
  change X_ (kk_L_law L xs) 880 [v_S, v_P 0, v_P 79, v_I x3] [v_I r9, v_I r2] M10 Q
  refine x_ic_eq (tgt := 951) dL_law_880 (by decide) (fun hc => ?_) (fun hc => ?_)
  · replace h := h.1 hc
    exact h
  · replace h := h.2 hc
    refine x_iconst dL_law_883 (by decide) ?_
    refine x_iret dL_law_884 rfl (Or.inr ⟨rfl, Or.inl rfl⟩) (fun _ _ => h)
theorem wp_L_law_885 {x3 : Int} {L : Nat} {xs : Nat → Int} {M : mM} {Q : Int → mM → Prop} (hxs : ∀ j, m_ir (xs j)) (hL2 : L ≤ 2048) (h : (m_ir (x3 + 1)) ∧ (0 ≤ (x3 + 1) ∧ (x3 + 1) < (L : Int)) ∧ (m_ir (x3 + 2)) ∧ (0 ≤ (x3 + 2) ∧ (x3 + 2) < (L : Int)) ∧ (m_ir (x3 + 3)) ∧ (0 ≤ (x3 + 3) ∧ (x3 + 3) < (L : Int)) ∧ ∃ Qc7 : Int → mM → Prop, C_ kk_X10_learn [v_P 0, v_I (xs ((x3 + 1)).toNat), v_I (xs ((x3 + 2)).toNat), v_I (xs ((x3 + 3)).toNat)] M Qc7 ∧ ∀ (r8 : Int) (M9 : mM), m_ir r8 → m_okM M9 → Qc7 r8 M9 → (m_ir (x3 + 1)) ∧ (0 ≤ (x3 + 1) ∧ (x3 + 1) < (L : Int)) ∧ (m_ir (x3 + 2)) ∧ (0 ≤ (x3 + 2) ∧ (x3 + 2) < (L : Int)) ∧ (m_ir (x3 + 3)) ∧ (0 ≤ (x3 + 3) ∧ (x3 + 3) < (L : Int)) ∧ ∃ Qc20 : Int → mM → Prop, C_ kk_X11_learn [v_P 79, v_I (xs ((x3 + 1)).toNat), v_I (xs ((x3 + 2)).toNat), v_I (xs ((x3 + 3)).toNat)] M9 Qc20 ∧ ∀ (r21 : Int) (M22 : mM), m_ir r21 → m_okM M22 → Qc20 r21 M22 → (r8 = r21 → X_ (kk_L_law L xs) 951 [v_S, v_P 0, v_P 79, v_I x3] [] M22 Q) ∧ (¬ r8 = r21 → Q 0 M22)) : X_ (kk_L_law L xs) 885 [v_S, v_P 0, v_P 79, v_I x3] [] M Q := by
  refine x_aload_n dL_law_885 rfl rfl ?_
  refine x_sload_n dL_law_886 rfl rfl ?_
  refine x_iload_n dL_law_887 rfl rfl ?_
  refine x_iconst dL_law_888 (by decide) ?_
  obtain ⟨s1, h⟩ := h
  refine x_iadd dL_law_889 s1 ?_
  obtain ⟨s2, h⟩ := h
  refine x_sald dL_law_890 rfl hxs s2 ?_
  refine x_sload_n dL_law_891 rfl rfl ?_
  refine x_iload_n dL_law_892 rfl rfl ?_
  refine x_iconst dL_law_893 (by decide) ?_
  obtain ⟨s3, h⟩ := h
  refine x_iadd dL_law_894 s3 ?_
  obtain ⟨s4, h⟩ := h
  refine x_sald dL_law_895 rfl hxs s4 ?_
  refine x_sload_n dL_law_896 rfl rfl ?_
  refine x_iload_n dL_law_897 rfl rfl ?_
  refine x_iconst dL_law_898 (by decide) ?_
  obtain ⟨s5, h⟩ := h
  refine x_iadd dL_law_899 s5 ?_
  obtain ⟨s6, h⟩ := h
  refine x_sald dL_law_900 rfl hxs s6 ?_
  obtain ⟨Qc7, hc10, h⟩ := h
  refine x_callV (as := [v_I (xs ((x3 + 1)).toNat), v_I (xs ((x3 + 2)).toNat), v_I (xs ((x3 + 3)).toNat)]) (st := []) (Qc := Qc7) dL_law_901 mt_X10_learn ml_L_125 ⟨Nat.le_of_ble_eq_true rfl, Nat.le_of_ble_eq_true rfl⟩ sh_0 rfl (fun _ _ => Nat.le_of_ble_eq_true rfl) hc10 (fun r8 M9 hr11 hM12 hq13 => ?_)
  replace h := h r8 M9 hr11 hM12 hq13
  change X_ (kk_L_law L xs) 904 [v_S, v_P 0, v_P 79, v_I x3] [v_I r8] M9 Q
  refine x_aload_n dL_law_904 rfl rfl ?_
  refine x_sload_n dL_law_905 rfl rfl ?_
  refine x_iload_n dL_law_906 rfl rfl ?_
  refine x_iconst dL_law_907 (by decide) ?_
  obtain ⟨s14, h⟩ := h
  refine x_iadd dL_law_908 s14 ?_
  obtain ⟨s15, h⟩ := h
  refine x_sald dL_law_909 rfl hxs s15 ?_
  refine x_sload_n dL_law_910 rfl rfl ?_
  refine x_iload_n dL_law_911 rfl rfl ?_
  refine x_iconst dL_law_912 (by decide) ?_
  obtain ⟨s16, h⟩ := h
  refine x_iadd dL_law_913 s16 ?_
  obtain ⟨s17, h⟩ := h
  refine x_sald dL_law_914 rfl hxs s17 ?_
  refine x_sload_n dL_law_915 rfl rfl ?_
  refine x_iload_n dL_law_916 rfl rfl ?_
  refine x_iconst dL_law_917 (by decide) ?_
  obtain ⟨s18, h⟩ := h
  refine x_iadd dL_law_918 s18 ?_
  obtain ⟨s19, h⟩ := h
  refine x_sald dL_law_919 rfl hxs s19 ?_
  obtain ⟨Qc20, hc23, h⟩ := h
  refine x_callV (as := [v_I (xs ((x3 + 1)).toNat), v_I (xs ((x3 + 2)).toNat), v_I (xs ((x3 + 3)).toNat)]) (st := [v_I r8]) (Qc := Qc20) dL_law_920 mt_X11_learn ml_L_128 ⟨Nat.le_of_ble_eq_true rfl, Nat.le_of_ble_eq_true rfl⟩ sh_79 rfl (fun _ _ => Nat.le_of_ble_eq_true rfl) hc23 (fun r21 M22 hr24 hM25 hq26 => ?_)
  replace h := h r21 M22 hr24 hM25 hq26
  change X_ (kk_L_law L xs) 923 [v_S, v_P 0, v_P 79, v_I x3] [v_I r21, v_I r8] M22 Q
  refine x_ic_eq (tgt := 951) dL_law_923 (by decide) (fun hc => ?_) (fun hc => ?_)
  · replace h := h.1 hc
    exact h
  · replace h := h.2 hc
    refine x_iconst dL_law_926 (by decide) ?_
    refine x_iret dL_law_927 rfl (Or.inr ⟨rfl, Or.inl rfl⟩) (fun _ _ => h)
theorem wp_L_law_928 {x3 : Int} {L : Nat} {xs : Nat → Int} {M : mM} {Q : Int → mM → Prop} (hxs : ∀ j, m_ir (xs j)) (hL2 : L ≤ 2048) (h : (m_ir (x3 + 1)) ∧ (0 ≤ (x3 + 1) ∧ (x3 + 1) < (L : Int)) ∧ ∃ Qc3 : Int → mM → Prop, C_ kk_X10_told [v_P 0, v_I (xs ((x3 + 1)).toNat)] M Qc3 ∧ ∀ (r4 : Int) (M5 : mM), m_ir r4 → m_okM M5 → Qc3 r4 M5 → (m_ir (x3 + 1)) ∧ (0 ≤ (x3 + 1) ∧ (x3 + 1) < (L : Int)) ∧ ∃ Qc12 : Int → mM → Prop, C_ kk_X11_told [v_P 79, v_I (xs ((x3 + 1)).toNat)] M5 Qc12 ∧ ∀ (r13 : Int) (M14 : mM), m_ir r13 → m_okM M14 → Qc12 r13 M14 → (r4 = r13 → X_ (kk_L_law L xs) 951 [v_S, v_P 0, v_P 79, v_I x3] [] M14 Q) ∧ (¬ r4 = r13 → Q 0 M14)) : X_ (kk_L_law L xs) 928 [v_S, v_P 0, v_P 79, v_I x3] [] M Q := by
  refine x_aload_n dL_law_928 rfl rfl ?_
  refine x_sload_n dL_law_929 rfl rfl ?_
  refine x_iload_n dL_law_930 rfl rfl ?_
  refine x_iconst dL_law_931 (by decide) ?_
  obtain ⟨s1, h⟩ := h
  refine x_iadd dL_law_932 s1 ?_
  obtain ⟨s2, h⟩ := h
  refine x_sald dL_law_933 rfl hxs s2 ?_
  obtain ⟨Qc3, hc6, h⟩ := h
  refine x_callV (as := [v_I (xs ((x3 + 1)).toNat)]) (st := []) (Qc := Qc3) dL_law_934 mt_X10_told ml_L_129 ⟨Nat.le_of_ble_eq_true rfl, Nat.le_of_ble_eq_true rfl⟩ sh_0 rfl (fun _ _ => Nat.le_of_ble_eq_true rfl) hc6 (fun r4 M5 hr7 hM8 hq9 => ?_)
  replace h := h r4 M5 hr7 hM8 hq9
  change X_ (kk_L_law L xs) 937 [v_S, v_P 0, v_P 79, v_I x3] [v_I r4] M5 Q
  refine x_aload_n dL_law_937 rfl rfl ?_
  refine x_sload_n dL_law_938 rfl rfl ?_
  refine x_iload_n dL_law_939 rfl rfl ?_
  refine x_iconst dL_law_940 (by decide) ?_
  obtain ⟨s10, h⟩ := h
  refine x_iadd dL_law_941 s10 ?_
  obtain ⟨s11, h⟩ := h
  refine x_sald dL_law_942 rfl hxs s11 ?_
  obtain ⟨Qc12, hc15, h⟩ := h
  refine x_callV (as := [v_I (xs ((x3 + 1)).toNat)]) (st := [v_I r4]) (Qc := Qc12) dL_law_943 mt_X11_told ml_L_132 ⟨Nat.le_of_ble_eq_true rfl, Nat.le_of_ble_eq_true rfl⟩ sh_79 rfl (fun _ _ => Nat.le_of_ble_eq_true rfl) hc15 (fun r13 M14 hr16 hM17 hq18 => ?_)
  replace h := h r13 M14 hr16 hM17 hq18
  change X_ (kk_L_law L xs) 946 [v_S, v_P 0, v_P 79, v_I x3] [v_I r13, v_I r4] M14 Q
  refine x_ic_eq (tgt := 951) dL_law_946 (by decide) (fun hc => ?_) (fun hc => ?_)
  · replace h := h.1 hc
    exact h
  · replace h := h.2 hc
    refine x_iconst dL_law_949 (by decide) ?_
    refine x_iret dL_law_950 rfl (Or.inr ⟨rfl, Or.inl rfl⟩) (fun _ _ => h)
theorem wp_L_law_951 {x3 : Int} {L : Nat} {xs : Nat → Int} {M : mM} {Q : Int → mM → Prop} (hxs : ∀ j, m_ir (xs j)) (hL2 : L ≤ 2048) (h : (m_ir (x3 + 4)) ∧ X_ (kk_L_law L xs) 18 [v_S, v_P 0, v_P 79, v_I (x3 + 4)] [] M Q) : X_ (kk_L_law L xs) 951 [v_S, v_P 0, v_P 79, v_I x3] [] M Q := by
  obtain ⟨s1, h⟩ := h
  refine y_iinc (ls' := [v_S, v_P 0, v_P 79, v_I (x3 + 4)]) dL_law_951 rfl s1 (Nat.lt_of_lt_of_le (by decide : 3 < 4) (Nat.le_refl _)) rfl ?_
  refine x_goto (tgt := 18) dL_law_954 (by decide) ?_
  exact h
