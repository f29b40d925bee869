/-! DEALT, the class -/
/-- the table holds the most worth -/
def DL (σ : St) (M : mM) : Prop := LO σ M ∧ ∀ b s, b ≤ σ 5 0 → s < x_st (n_A σ) 5 → M (53 + b) s = nV σ (σ 5 0 - b) (x_dg (n_A σ) s)
theorem kc_mostWorth {σ : St} {M : mM} (hw : Wf σ) (hh : HH σ M) : C_ kk_X5_mostWorth [v_P 48] M (fun r M' => r = n_dw σ ∧ DL σ M' ∧ ∀ p, p < 48 ∨ p = 49 ∨ 60 ≤ p → M' p = M p) := by
  have h108 := x_108 hw
  have hnb := hw.2.2.2.1
  refine c_intro (by decide) rfl (Nat.le_of_ble_eq_true rfl) (by simp [m_dv, Value.category]) (wp_X5_mostWorth_0 ⟨_, kc_layOut hw hh.1, fun r2 M3 _ _ e3 => ?_⟩)
  obtain ⟨lo3, f3⟩ := e3
  have fin : ∀ N : mM, DL σ N → (∀ p, p < 48 ∨ p = 49 ∨ 60 ≤ p → N p = M p) → X_ kk_X5_mostWorth 45 [v_P 48, v_I (-1), v_U, v_U] [] N (fun r M' => r = n_dw σ ∧ DL σ M' ∧ ∀ p, p < 48 ∨ p = 49 ∨ 60 ≤ p → M' p = M p) := by
    intro N hD hf
    have hst := x_st_pos (n_A σ) 5
    refine wp_X5_mostWorth_45 ⟨fun _ => ?_, fun y => absurd y (by decide)⟩
    rw [hD.1.1, show (53 + (0 : Int).toNat) = 53 + 0 from rfl, show ((x_st (n_A σ) 5 : Int) - 1).toNat = x_st (n_A σ) 5 - 1 by omega]
    refine ⟨by decide, ⟨by omega, by omega⟩, by omega, ?_, hD, hf⟩
    rw [hD.2 0 _ (Nat.zero_le _) (by omega)]
    unfold n_dw
    rw [Nat.sub_zero]
    refine congrArg _ (W_eq (nV_mono _) (fun s hs => ?_))
    have e := x_ix_A (A := n_A σ) 5
    rw [show x_st (n_A σ) 5 - 1 = x_ix (n_A σ) (n_A σ) 5 by omega]
    exact x_dg_ix (fun i _ => Nat.le_refl _) s hs
  have buyers : ∀ (m : Nat) (N : mM), m ≤ σ 5 0 → LO σ N → (∀ b s, m ≤ b → b ≤ σ 5 0 → s < x_st (n_A σ) 5 → N (53 + b) s = nV σ (σ 5 0 - b) (x_dg (n_A σ) s)) → (∀ p, p < 48 ∨ p = 49 ∨ 60 ≤ p → N p = M p) → X_ kk_X5_mostWorth 45 [v_P 48, v_I ((m : Int) - 1), v_U, v_U] [] N (fun r M' => r = n_dw σ ∧ DL σ M' ∧ ∀ p, p < 48 ∨ p = 49 ∨ 60 ≤ p → M' p = M p) := by
    intro m
    induction m with
    | zero =>
      intro N _ nL n1 nf
      exact fin N ⟨nL, fun b s hb hs => n1 b s (Nat.zero_le _) hb hs⟩ nf
    | succ b ih =>
      intro N hm nL n1 nf
      have hb6 : b < 6 := by omega
      have hb9 := (hw.2.2.2.2.1 b hb6).2.2.2.1
      have hVb : ∀ c, nV σ (σ 5 0 - (b + 1)) c ≤ 6000 := fun c => by
        have := nV_le hw (σ 5 0 - (b + 1)) (by omega) c
        omega
      rw [show ((b + 1 : Nat) : Int) - 1 = (b : Int) by omega]
      refine wp_X5_mostWorth_45 ⟨fun y => absurd y (by omega), fun _ => ?_⟩
      rw [nL.1, show ((b : Int) + 1).toNat = b + 1 by omega]
      simp only [Int.toNat_natCast]
      have z0 : Int.toNat 0 = 0 := rfl
      rw [z0]
      refine ⟨⟨by omega, by omega⟩, by omega, by omega, by omega, fun M11 e11 => ⟨by omega, ?_⟩⟩
      have g0 : ∀ s, s < x_st (n_A σ) 5 → M11 (53 + b) s = nV σ (σ 5 0 - (b + 1)) (x_dg (n_A σ) s) := fun s hs => by
        rw [e11, cp_eq, if_pos ⟨rfl, by omega, by omega⟩, Nat.zero_add, Nat.sub_zero]
        exact n1 (b + 1) s (Nat.le_refl _) hm hs
      have gf : ∀ p, p ≠ 53 + b → M11 p = N p := fun p hp => by
        funext k
        rw [e11, cp_eq, if_neg (fun z => hp z.1)]
      have alts : ∀ (k i : Nat) (K : mM), i + k = σ 9 b → (∀ s, s < x_st (n_A σ) 5 → K (53 + b) s = nVi σ b (nV σ (σ 5 0 - (b + 1))) (x_dg (n_A σ) s) i) → (∀ p, p ≠ 53 + b → K p = N p) → X_ kk_X5_mostWorth 84 [v_P 48, v_I (b : Int), v_P (8 + 3 * b), v_I (i : Int)] [] K (fun r M' => r = n_dw σ ∧ DL σ M' ∧ ∀ p, p < 48 ∨ p = 49 ∨ 60 ≤ p → M' p = M p) := by
        intro k
        induction k with
        | zero =>
          intro i K hk k1 k2
          have ei : i = σ 9 b := by omega
          subst ei
          have hhK : HH σ K := HH_of hh (fun p hp => by rw [k2 p (by omega)]; exact nf p (by omega))
          refine wp_X5_mostWorth_84 (isB_at hb6) ⟨fun _ => ⟨⟨by omega, by omega⟩, ?_⟩, fun y => absurd y (by rw [(hhK.2.2.2 b hb6).2.2.2.1]; omega)⟩
          rw [show (b : Int) + (-1) = (b : Int) - 1 by omega]
          refine ih K (by omega) (LO_of nL (k2 48 (by omega)) (k2 50 (by omega)) (k2 51 (by omega))) (fun b' s hb' hb'' hs => ?_) (fun p hp => by rw [k2 p (by omega)]; exact nf p hp)
          by_cases e : b' = b
          · subst e
            rw [k1 s hs, nV_b (σ := σ) (b := b') (by omega)]
          · rw [k2 (53 + b') (by omega)]
            exact n1 b' s (by omega) hb'' hs
        | succ k ihk =>
          intro i K hk k1 k2
          have hhK : HH σ K := HH_of hh (fun p hp => by rw [k2 p (by omega)]; exact nf p (by omega))
          have hB1 := hhK.2.2.2 b hb6
          have i1 : m_ir ((i : Int) + 1) := ⟨by omega, by omega⟩
          refine wp_X5_mostWorth_84 (isB_at hb6) ⟨fun y => absurd y (by rw [hB1.2.2.2.1]; omega), fun _ => ⟨_, kc_isThere hw hb6 hB1 (by omega), fun r3 M4 _ _ e4 => ?_⟩⟩
          obtain ⟨e4a, rfl⟩ := e4
          subst e4a
          refine ⟨fun q => ⟨i1, ?_⟩, fun q => ?_⟩
          · have ht : (σ 12 b).testBit i = true := by
              cases hz : (σ 12 b).testBit i
              · rw [hz] at q; exact absurd q (by decide)
              · rfl
            refine ihk (i + 1) M4 (by omega) (fun s hs => ?_) k2
            rw [k1 s hs, nVi, if_neg]
            intro z
            rw [(n_is_iff.1 z).1] at ht
            cases ht
          · have ht : (σ 12 b).testBit i = false := by
              cases hz : (σ 12 b).testBit i
              · rfl
              · rw [hz] at q; exact absurd rfl q
            obtain ⟨x1, x2⟩ := hB1.2.2.2.2.2 i (by omega)
            rw [Int.toNat_natCast, show 8 + 3 * b + 1 = 8 + 3 * b + 1 from rfl, x1, x2]
            refine ⟨by omega, by omega, _, kc_serve hw hb6 (by omega) (nV_mono _) hVb (LO_of nL (k2 48 (by omega)) (k2 50 (by omega)) (k2 51 (by omega))) (fun s hs => by rw [k2 (53 + b + 1) (by omega)]; exact n1 (b + 1) s (Nat.le_refl _) hm hs) k1 ht, fun r13 M14 _ _ e14 => ⟨i1, ?_⟩⟩
            exact ihk (i + 1) M14 (by omega) e14.1 (fun p hp => by rw [e14.2 p hp]; exact k2 p hp)
      exact alts (σ 9 b) 0 M11 (by omega) g0 gf
  have zero : ∀ (m s : Nat) (N : mM), s + m = x_st (n_A σ) 5 → (∀ s', s' < s → N (53 + σ 5 0) s' = 0) → (∀ p, p ≠ 53 + σ 5 0 → N p = M3 p) → X_ kk_X5_mostWorth 6 [v_P 48, v_I (s : Int), v_U, v_U] [] N (fun r M' => r = n_dw σ ∧ DL σ M' ∧ ∀ p, p < 48 ∨ p = 49 ∨ 60 ≤ p → M' p = M p) := by
    intro m
    induction m with
    | zero =>
      intro s N hs n1 n2
      have e1 : N 1 6 = σ 5 0 := by rw [n2 1 (by omega), f3 1 (by decide) (by decide) (by decide)]; exact hh.2.1
      refine wp_X5_mostWorth_6 ⟨fun _ => ?_, fun y => absurd y (by rw [n2 48 (by omega), lo3.1]; omega)⟩
      rw [e1]
      refine ⟨⟨by omega, by omega⟩, buyers (σ 5 0) N (Nat.le_refl _) (LO_of lo3 (n2 48 (by omega)) (n2 50 (by omega)) (n2 51 (by omega))) (fun b s' hb hb' hs' => ?_) (fun p hp => by rw [n2 p (by omega), f3 p (by omega) (by omega) (by omega)])⟩
      have eb : b = σ 5 0 := by omega
      subst eb
      rw [n1 s' (by omega), Nat.sub_self]
      rfl
    | succ m ih =>
      intro s N hs n1 n2
      have e1 : N 1 6 = σ 5 0 := by rw [n2 1 (by omega), f3 1 (by decide) (by decide) (by decide)]; exact hh.2.1
      refine wp_X5_mostWorth_6 ⟨fun y => absurd y (by rw [n2 48 (by omega), lo3.1]; omega), fun _ => ?_⟩
      rw [e1, Int.toNat_natCast, Int.toNat_natCast]
      refine ⟨by omega, by omega, ⟨by omega, by omega⟩, ih (s + 1) _ (by omega) (fun s' hs' => ?_) (fun p hp => by rw [up_row hp]; exact n2 p hp)⟩
      by_cases e : s' = s
      · subst e; exact up_hit
      · rw [up_slot e]; exact n1 s' (by omega)
  exact zero (x_st (n_A σ) 5) 0 M3 (by omega) (fun s' hs' => by omega) (fun _ _ => rfl)
theorem DL_of {σ : St} {M M' : mM} (hw : Wf σ) (h : DL σ M) (hf : ∀ p, 48 ≤ p → p < 60 → p ≠ 49 → M' p = M p) : DL σ M' := by
  have hnb := hw.2.2.2.1
  refine ⟨LO_of h.1 (hf 48 (by omega) (by omega) (by omega)) (hf 50 (by omega) (by omega) (by omega)) (hf 51 (by omega) (by omega) (by omega)), fun b s hb hs => ?_⟩
  rw [hf (53 + b) (by omega) (by omega) (by omega)]
  exact h.2 b s hb hs
theorem kc_leastHeap {σ : St} {M : mM} {b f : Nat} (hw : Wf σ) (hh : HH σ M) (hD : DL σ M) (hb : b < σ 5 0) (hf : f < 2 ^ σ 0 0) : C_ kk_X5_leastHeap [v_P 48, v_I (b : Int), v_I (f : Int), v_I (x_ix (n_A σ) (n_cnt σ f) 5 : Int)] M (fun r M' => M' = M ∧ r = n_lh σ b (nV σ (σ 5 0 - (b + 1))) f) := by
  have h108 := x_108 hw
  have hnb := hw.2.2.2.1
  have hn8 := hw.1
  have p8 := pow8 hw
  have hb6 : b < 6 := by omega
  have hb9 := (hw.2.2.2.2.1 b hb6).2.2.2.1
  have hcA : ∀ i, i < 5 → n_cnt σ f i ≤ n_A σ i := fun i _ => n_cnt_A hf i
  have hix := x_ix_lt hcA
  have hdg := x_dg_ix hcA
  have hV := nV_le hw (σ 5 0 - (b + 1)) (by omega)
  have hVb := fun c => nVi_le hw hb6 hV c (σ 9 b) (Nat.le_refl _)
  have e1 : M (53 + (b + 1)) (x_ix (n_A σ) (n_cnt σ f) 5) = nV σ (σ 5 0 - (b + 1)) (n_cnt σ f) := by
    rw [hD.2 (b + 1) _ (by omega) hix]
    exact congrArg _ (W_eq (nV_mono _) hdg)
  have e0 : M (53 + b) (x_ix (n_A σ) (n_cnt σ f) 5) = nVi σ b (nV σ (σ 5 0 - (b + 1))) (n_cnt σ f) (σ 9 b) := by
    rw [hD.2 b _ (by omega) hix]
    have e : nV σ (σ 5 0 - b) (x_dg (n_A σ) (x_ix (n_A σ) (n_cnt σ f) 5)) = nV σ (σ 5 0 - b) (n_cnt σ f) := W_eq (nV_mono _) hdg
    rw [e, nV_b hb]
  have e51 : M 51 (x_ix (n_A σ) (n_cnt σ f) 5) = n_pack (n_cnt σ f) := by
    rw [hD.1.2.2 _ hix]
    unfold n_pack
    rw [hdg 0 (by omega), hdg 1 (by omega), hdg 2 (by omega), hdg 3 (by omega), hdg 4 (by omega)]
  have hB1 := hh.2.2.2 b hb6
  refine c_intro (by decide) rfl (Nat.le_of_ble_eq_true rfl) (by simp [m_dv, Value.category]) (wp_X5_leastHeap_0 ?_)
  rw [show ((b : Int) + 1).toNat = b + 1 by omega]
  simp only [Int.toNat_natCast]
  rw [e1, e0]
  refine ⟨by omega, by omega, ⟨by omega, by omega⟩, by omega, by omega, fun q => ⟨by omega, ?_⟩, fun q => ⟨by first | trivial | rfl, ?_⟩⟩
  · have hne : ¬ nV σ (σ 5 0 - (b + 1)) (n_cnt σ f) = nVi σ b (nV σ (σ 5 0 - (b + 1))) (n_cnt σ f) (σ 9 b) := by omega
    have er : n_lh σ b (nV σ (σ 5 0 - (b + 1))) f = n_lm σ b (nV σ (σ 5 0 - (b + 1))) f (σ 9 b) := by
      unfold n_lh
      rw [if_neg hne]
    rw [er]
    have loop : ∀ (k i : Nat), i + k = σ 9 b → X_ kk_X5_leastHeap 44 [v_P 48, v_I (b : Int), v_I (f : Int), v_I (x_ix (n_A σ) (n_cnt σ f) 5 : Int), v_I (nVi σ b (nV σ (σ 5 0 - (b + 1))) (n_cnt σ f) (σ 9 b) : Int), v_I (n_lm σ b (nV σ (σ 5 0 - (b + 1))) f i : Int), v_P (8 + 3 * b), v_I (i : Int), v_U] [] M (fun r M' => M' = M ∧ r = n_lm σ b (nV σ (σ 5 0 - (b + 1))) f (σ 9 b)) := by
      intro k
      induction k with
      | zero =>
        intro i hi
        have ei : i = σ 9 b := by omega
        subst ei
        exact wp_X5_leastHeap_44 (isB_at hb6) ⟨fun _ => ⟨rfl, rfl⟩, fun y => absurd y (by rw [hB1.2.2.2.1]; omega)⟩
      | succ k ih =>
        intro i hi
        have i1 : m_ir ((i : Int) + 1) := ⟨by omega, by omega⟩
        have nx := ih (i + 1) (by omega)
        have his : i < σ 9 b := by omega
        have no : ¬ (n_is σ b (n_cnt σ f) i = true ∧ σ 10 (6 * b + i) + nV σ (σ 5 0 - (b + 1)) (fun s => n_cnt σ f s - n_nd σ b i s) = nVi σ b (nV σ (σ 5 0 - (b + 1))) (n_cnt σ f) (σ 9 b)) → X_ kk_X5_leastHeap 44 [v_P 48, v_I (b : Int), v_I (f : Int), v_I (x_ix (n_A σ) (n_cnt σ f) 5 : Int), v_I (nVi σ b (nV σ (σ 5 0 - (b + 1))) (n_cnt σ f) (σ 9 b) : Int), v_I (n_lm σ b (nV σ (σ 5 0 - (b + 1))) f i : Int), v_P (8 + 3 * b), v_I ((i : Int) + 1), v_U] [] M (fun r M' => M' = M ∧ r = n_lm σ b (nV σ (σ 5 0 - (b + 1))) f (σ 9 b)) := fun z => by
          have e : n_lm σ b (nV σ (σ 5 0 - (b + 1))) f (i + 1) = n_lm σ b (nV σ (σ 5 0 - (b + 1))) f i := by rw [n_lm, if_neg z]
          rw [e] at nx
          exact nx
        obtain ⟨y1, y2⟩ := hB1.2.2.2.2.2 i his
        refine wp_X5_leastHeap_44 (isB_at hb6) ⟨fun y => absurd y (by rw [hB1.2.2.2.1]; omega), fun _ => ⟨_, kc_isThere hw hb6 hB1 (by omega), fun r2 M3 _ _ e3 => ?_⟩⟩
        obtain ⟨e3a, rfl⟩ := e3
        subst e3a
        refine ⟨fun q => ⟨i1, no (fun z => ?_)⟩, fun q => ?_⟩
        · rw [(n_is_iff.1 z.1).1] at q
          exact absurd q (by decide)
        · have ht : (σ 12 b).testBit i = false := by
            cases hz : (σ 12 b).testBit i
            · rfl
            · rw [hz] at q; exact absurd rfl q
          simp only [Int.toNat_natCast]
          rw [e51, y2]
          refine ⟨by omega, by omega, _, kc_cover hw hb6 his (cnt16 hw), fun r12 M13 _ _ e13 => ?_⟩
          obtain ⟨e13a, rfl⟩ := e13
          subst e13a
          refine ⟨fun q2 => ⟨i1, no (fun z => ?_)⟩, fun q2 => ?_⟩
          · rw [if_pos (n_metc_iff.2 (n_is_iff.1 z.1).2)] at q2
            exact absurd q2 (by decide)
          · have hm : ∀ s, s < 5 → n_nd σ b i s ≤ n_cnt σ f s := by
              by_cases z : n_metc σ (6 * b + i) (n_cnt σ f) = true
              · exact n_metc_iff.1 z
              · rw [if_neg z] at q2
                exact absurd rfl q2
            have his' : n_is σ b (n_cnt σ f) i = true := n_is_iff.2 ⟨ht, hm⟩
            have hsub := x_ix_sub (A := n_A σ) (c := n_cnt σ f) (d := n_nd σ b i) (j := 5) hm
            rw [y2, y1, n_need_nd]
            refine ⟨by omega, ⟨by omega, by omega⟩, by omega, by omega, _, kc_distance hw hD.1.2.1 (nd16 hw hb6 his), fun r25 M26 _ _ e26 => ?_⟩
            obtain ⟨e26a, rfl⟩ := e26
            subst e26a
            have hcA2 : ∀ s, s < 5 → (fun s => n_cnt σ f s - n_nd σ b i s) s ≤ n_A σ s := fun s hs => Nat.le_trans (Nat.sub_le _ _) (hcA s hs)
            have e53 : M26 (53 + (b + 1)) (x_ix (n_A σ) (n_cnt σ f) 5 - x_ix (n_A σ) (n_nd σ b i) 5) = nV σ (σ 5 0 - (b + 1)) (fun s => n_cnt σ f s - n_nd σ b i s) := by
              rw [show x_ix (n_A σ) (n_cnt σ f) 5 - x_ix (n_A σ) (n_nd σ b i) 5 = x_ix (n_A σ) (fun s => n_cnt σ f s - n_nd σ b i s) 5 by omega, hD.2 (b + 1) _ (by omega) (by omega)]
              exact congrArg _ (W_eq (nV_mono _) (fun s hs => x_dg_ix hcA2 s hs))
            have h10 := ((hw.2.2.2.2.1 b hb6).2.2.2.2.2 i his).1
            have hvx := hV (fun s => n_cnt σ f s - n_nd σ b i s)
            rw [show ((b : Int) + 1).toNat = b + 1 by omega, show ((x_ix (n_A σ) (n_cnt σ f) 5 : Int) - (x_ix (n_A σ) (n_nd σ b i) 5 : Int)).toNat = x_ix (n_A σ) (n_cnt σ f) 5 - x_ix (n_A σ) (n_nd σ b i) 5 by omega, e53]
            refine ⟨⟨by omega, by omega⟩, by omega, ⟨by omega, by omega⟩, fun q3 => ⟨i1, no (fun z => q3 (by have := z.2; omega))⟩, fun q3 => ⟨by omega, ?_⟩⟩
            rw [y2, n_need_nd]
            refine ⟨_, kc_pick (r := fun j => j) (rest := f) hw hh.1 rfl (q_pm_id _) (fun j hj => (hh.1.2 j hj).2.2.2) (nd16 hw hb6 his) (by omega), fun r37 M38 _ _ e38 => ?_⟩
            obtain ⟨e38a, e38b, -⟩ := e38
            subst e38a
            have ep := e38b (q_en_all.2 hm)
            rw [ep]
            refine ⟨fun _ => ⟨i1, ?_⟩, fun y => absurd (Int.natCast_nonneg _) y⟩
            have e : n_lm σ b (nV σ (σ 5 0 - (b + 1))) f (i + 1) = min (n_lm σ b (nV σ (σ 5 0 - (b + 1))) f i) (n_gi σ b f i) := by
              rw [n_lm, if_pos ⟨his', by omega⟩]
            have eg : n_gi σ b f i = q_pk σ (fun j => j) f (n_nd σ b i) := rfl
            rw [eg] at e
            rw [show min (n_lm σ b (nV σ (σ 5 0 - (b + 1))) f i : Int) (q_pk σ (fun j => j) f (n_nd σ b i) : Int) = (n_lm σ b (nV σ (σ 5 0 - (b + 1))) f (i + 1) : Nat) by omega]
            exact nx
    exact loop (σ 9 b) 0 (by omega)
  · unfold n_lh
    rw [if_pos (by omega)]
    rfl
theorem HL_up {σ : St} {M : mM} {p j : Nat} {v : Int} (h : HL σ M) (hp : 7 ≤ p := by omega) : HL σ (m_up M p j v) := by
  refine ⟨by rw [up_row (by omega)]; exact h.1, fun j hj => ?_⟩
  rw [up_row (by omega), up_row (by omega), up_row (by omega), up_row (by omega)]
  exact h.2 j hj
theorem kc_share {σ : St} {M : mM} (hw : Wf σ) (hw2 : Wf2 σ) (hh : HH σ M) (hD : DL σ M) : C_ kk_X5_share [v_P 48] M (fun _ M' => (∀ b, b < σ 5 0 → M' 49 b = n_dh σ b) ∧ ∀ p, p ≠ 49 → M' p = M p) := by
  have h108 := x_108 hw
  have hnb := hw.2.2.2.1
  have hn8 := hw.1
  have p8 := pow8 hw
  have pp : 0 < 2 ^ σ 0 0 := Nat.pow_pos (by decide)
  refine c_intro (by decide) rfl (Nat.le_of_ble_eq_true rfl) (by simp [m_dv, Value.category]) (wp_X5_share_0 ⟨_, kc_allLots hw hh.1.1, fun r2 M3 _ _ e3 => ?_⟩)
  obtain ⟨e3a, rfl⟩ := e3
  subst e3a
  have hst := x_st_pos (n_A σ) 5
  have eA := x_ix_A (A := n_A σ) 5
  rw [hD.1.1]
  refine ⟨⟨by omega, by omega⟩, ?_⟩
  have loop : ∀ (m b : Nat) (N : mM), b + m = σ 5 0 → (∀ b', b' < b → N 49 b' = n_dh σ b') → (∀ p, p ≠ 49 → N p = M3 p) → X_ kk_X5_share 17 [v_P 48, v_I (n_fr σ b : Int), v_I (x_ix (n_A σ) (n_cnt σ (n_fr σ b)) 5 : Int), v_I (b : Int)] [] N (fun _ M' => (∀ b, b < σ 5 0 → M' 49 b = n_dh σ b) ∧ ∀ p, p ≠ 49 → M' p = M3 p) := by
    intro m
    induction m with
    | zero =>
      intro b N hb n1 n2
      refine wp_X5_share_17 ⟨fun _ => ⟨fun b' hb' => n1 b' (by omega), n2⟩, fun y => absurd y (by rw [n2 1 (by decide), hh.2.1]; omega)⟩
    | succ m ih =>
      intro b N hb n1 n2
      have hfr := n_fr_lt (σ := σ) b
      have hhN : HH σ N := HH_of hh (fun p hp => n2 p (by omega))
      have hDN : DL σ N := DL_of hw hD (fun p _ _ hp => n2 p hp)
      have hls := n_lh_spec hw hw2 (b := b) (by omega) (nV_mono (σ := σ) (σ 5 0 - (b + 1))) hfr
      have hdh : n_lh σ b (nV σ (σ 5 0 - (b + 1))) (n_fr σ b) = n_dh σ b := rfl
      rw [hdh] at hls
      have hle := b_sub_le hls.1
      refine wp_X5_share_17 ⟨fun y => absurd y (by rw [n2 1 (by decide), hh.2.1]; omega), fun _ => ⟨_, kc_leastHeap hw hhN hDN (by omega) hfr, fun r2 K _ _ e2 => ?_⟩⟩
      obtain ⟨e2a, rfl⟩ := e2
      subst e2a
      rw [hdh, Int.toNat_natCast]
      refine ⟨by omega, by omega, by omega, _, kc_countsOf (hp := n_dh σ b) hw (HL_up hhN.1) (by omega), fun r12 M13 _ _ e13 => ?_⟩
      obtain ⟨e13a, rfl⟩ := e13
      subst e13a
      refine ⟨_, kc_distance hw (fun i hi => by simp (disch := omega) only [up_row, up_slot, up_hit, su_row, su_slot, su_hit]; exact hDN.1.2.1 i hi) (cnt16 hw), fun r19 M20 _ _ e20 => ?_⟩
      obtain ⟨e20a, rfl⟩ := e20
      subst e20a
      have hc := n_cnt_nd (σ := σ) hls.1
      have hsub := x_ix_sub (A := n_A σ) (c := n_cnt σ (n_fr σ b)) (d := n_cnt σ (n_dh σ b)) (j := 5) (fun i _ => by have := hc i; omega)
      have hfr1 : n_fr σ (b + 1) = b_nd (n_fr σ b) (n_dh σ b) := rfl
      have hix1 : x_ix (n_A σ) (n_cnt σ (n_fr σ (b + 1))) 5 = x_ix (n_A σ) (fun s => n_cnt σ (n_fr σ b) s - n_cnt σ (n_dh σ b) s) 5 := x_ix_of (fun i _ => by
        rw [hfr1]
        have := hc i
        show n_cnt σ (b_nd (n_fr σ b) (n_dh σ b)) i = n_cnt σ (n_fr σ b) i - n_cnt σ (n_dh σ b) i
        omega)
      have hixl := x_ix_lt (fun i (_ : i < 5) => n_cnt_A (n_fr_lt (σ := σ) (b + 1)) i)
      have hixl2 := x_ix_lt (fun i (_ : i < 5) => n_cnt_A hfr i)
      have e5 : (x_ix (n_A σ) (n_cnt σ (n_fr σ b)) 5 : Int) - (x_ix (n_A σ) (n_cnt σ (n_dh σ b)) 5 : Int) = (x_ix (n_A σ) (n_cnt σ (n_fr σ (b + 1))) 5 : Nat) := by omega
      have e6 : m_and (n_fr σ b : Int) (m_xor (n_dh σ b : Int) (-1)) = (n_fr σ (b + 1) : Nat) := by rw [b_not (by omega), hfr1]
      rw [e5, e6]
      refine ⟨⟨by omega, by omega⟩, ⟨by omega, by omega⟩, ih (b + 1) _ (by omega) (fun b' hb' => ?_) (fun p hp => by rw [up_row hp]; exact n2 p hp)⟩
      by_cases e : b' = b
      · subst e; exact up_hit
      · rw [up_slot e]; exact n1 b' (by omega)
  have l0 := loop (σ 5 0) 0 M3 (by omega) (fun b' hb' => by omega) (fun _ _ => rfl)
  have e7 : n_fr σ 0 = 2 ^ σ 0 0 - 1 := rfl
  have e8 : n_cnt σ (2 ^ σ 0 0 - 1) = n_A σ := rfl
  rw [e7, e8] at l0
  rw [show ((2 ^ σ 0 0 : Nat) : Int) - 1 = ((2 ^ σ 0 0 - 1 : Nat) : Int) by omega, show (x_st (n_A σ) 5 : Int) - 1 = (x_ix (n_A σ) (n_A σ) 5 : Nat) by omega]
  exact l0
theorem kc_dealt {σ : St} {M : mM} {b : Int} (hw : Wf σ) (hw2 : Wf2 σ) (h : CR σ M) : C_ kk_X10_dealt [v_P 0, v_I b] M (PC (sp_dealt σ b) M) := by
  have hnb := hw.2.2.2.1
  have hh : HH σ M := ⟨h.1, h.2.1⟩
  have fr : ∀ (M' : mM) (x : Int), (∀ p, p < 48 ∨ 60 ≤ p → M' p = M p) → PC (x, σ) M x M' := fun M' x f => ⟨rfl, CR_fr h (fun p hp => f p (by omega)) (by rw [f 75 (by omega)]), fun p hp => f p (by omega), Or.inr fun p _ _ => f p (by omega)⟩
  refine c_intro (by decide) rfl (Nat.le_of_ble_eq_true rfl) (by simp [m_dv, Value.category]) (wp_X10_dealt_0 ?_)
  unfold sp_dealt
  rw [h.2.1.1]
  refine ⟨fun q => ⟨_, kc_mostWorth hw hh, fun r2 M3 _ _ e3 => ⟨fun y => absurd q y, fun _ => ?_⟩⟩, fun q => ⟨fun q2 => ⟨_, kc_mostWorth hw hh, fun r2 M3 _ _ e3 => ⟨fun _ => ?_, fun y => absurd y q⟩⟩, fun q2 => ?_⟩⟩
  · rw [if_pos q, e3.1]
    exact fr _ _ (fun p hp => e3.2.2 p (by omega))
  · obtain ⟨-, dl, f3⟩ := e3
    have hh3 : HH σ M3 := HH_of hh (fun p hp => f3 p (by omega))
    refine ⟨_, kc_share hw hw2 hh3 dl, fun r9 M10 _ _ e10 => ⟨by omega, ?_⟩⟩
    rw [if_neg q, if_neg (fun z => z q2), e10.1 b.toNat (by omega)]
    exact fr _ _ (fun p hp => by rw [e10.2 p (by omega)]; exact f3 p (by omega))
  · rw [if_neg q, if_pos q2]
    exact PC_same h
