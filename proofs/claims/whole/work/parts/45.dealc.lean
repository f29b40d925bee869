/-! DEALT, the class: counts as places of a table -/
def x_st (A : Nat → Nat) : Nat → Nat
  | 0 => 1
  | j + 1 => x_st A j * (A j + 1)
def x_ix (A c : Nat → Nat) : Nat → Nat
  | 0 => 0
  | j + 1 => x_ix A c j + c j * x_st A j
def x_dg (A : Nat → Nat) (s i : Nat) : Nat := s / x_st A i % (A i + 1)
theorem x_st_pos (A : Nat → Nat) : ∀ j, 0 < x_st A j
  | 0 => Nat.one_pos
  | j + 1 => Nat.mul_pos (x_st_pos A j) (Nat.succ_pos _)
theorem x_st_fac {A : Nat → Nat} {i : Nat} : ∀ {d : Nat}, ∃ t, x_st A (i + 1 + d) = x_st A i * (A i + 1) * t
  | 0 => ⟨1, by rw [Nat.mul_one]; rfl⟩
  | d + 1 => by
    obtain ⟨t, e⟩ := x_st_fac (A := A) (i := i) (d := d)
    refine ⟨t * (A (i + 1 + d) + 1), ?_⟩
    rw [show i + 1 + (d + 1) = (i + 1 + d) + 1 by omega, x_st, e, Nat.mul_assoc]
theorem x_st_mono {A : Nat → Nat} {i j : Nat} (h : i ≤ j) : x_st A i ≤ x_st A j := by
  obtain ⟨d, rfl⟩ : ∃ d, j = i + d := ⟨j - i, by omega⟩
  clear h
  induction d with
  | zero => exact Nat.le_refl _
  | succ d ih =>
    rw [show i + (d + 1) = (i + d) + 1 by omega, x_st]
    exact Nat.le_trans ih (Nat.le_mul_of_pos_right _ (Nat.succ_pos _))
/-- a multiple of a higher step changes no lower digit -/
theorem x_dg_add {A : Nat → Nat} {i j a b : Nat} (hij : i < j) : x_dg A (a + b * x_st A j) i = x_dg A a i := by
  obtain ⟨d, rfl⟩ : ∃ d, j = i + 1 + d := ⟨j - i - 1, by omega⟩
  obtain ⟨t, e⟩ := x_st_fac (A := A) (i := i) (d := d)
  unfold x_dg
  rw [e, show b * (x_st A i * (A i + 1) * t) = x_st A i * ((A i + 1) * (t * b)) by
    rw [Nat.mul_comm b, Nat.mul_assoc, Nat.mul_assoc], Nat.add_mul_div_left _ _ (x_st_pos A i), Nat.add_mul_mod_self_left]
theorem x_ix_lt {A c : Nat → Nat} : ∀ {j : Nat}, (∀ i, i < j → c i ≤ A i) → x_ix A c j < x_st A j
  | 0, _ => Nat.one_pos
  | j + 1, h => by
    have ih := x_ix_lt (A := A) (c := c) (j := j) (fun i hi => h i (by omega))
    have h1 : c j * x_st A j ≤ A j * x_st A j := Nat.mul_le_mul_right _ (h j (by omega))
    have h2 : x_st A j * (A j + 1) = A j * x_st A j + x_st A j := by rw [Nat.mul_add, Nat.mul_one, Nat.mul_comm]
    show x_ix A c j + c j * x_st A j < x_st A j * (A j + 1)
    omega
theorem x_ix_dg {A : Nat → Nat} {s : Nat} : ∀ j, x_ix A (x_dg A s) j = s % x_st A j
  | 0 => by
    show 0 = s % 1
    rw [Nat.mod_one]
  | j + 1 => by
    have ih := x_ix_dg (A := A) (s := s) j
    unfold x_ix
    rw [ih]
    show s % x_st A j + s / x_st A j % (A j + 1) * x_st A j = s % (x_st A j * (A j + 1))
    rw [Nat.mod_mul, Nat.mul_comm (s / x_st A j % (A j + 1))]
theorem x_dg_le {A : Nat → Nat} {s i : Nat} : x_dg A s i ≤ A i := Nat.le_of_lt_succ (Nat.mod_lt _ (Nat.succ_pos _))
theorem x_dg_ix {A c : Nat → Nat} : ∀ {j : Nat}, (∀ i, i < j → c i ≤ A i) → ∀ i, i < j → x_dg A (x_ix A c j) i = c i
  | 0, _, i, hi => absurd hi (Nat.not_lt_zero i)
  | j + 1, h, i, hi => by
    have ih := x_dg_ix (A := A) (c := c) (j := j) (fun i hi => h i (by omega))
    have hl := x_ix_lt (A := A) (c := c) (j := j) (fun i hi => h i (by omega))
    unfold x_ix
    by_cases e : i = j
    · subst e
      unfold x_dg
      rw [Nat.add_mul_div_right _ _ (x_st_pos A i), Nat.div_eq_of_lt hl, Nat.zero_add, Nat.mod_eq_of_lt (Nat.lt_succ_of_le (h i (by omega)))]
    · rw [x_dg_add (by omega)]
      exact ih i (by omega)
theorem x_ix_sub {A c d : Nat → Nat} : ∀ {j : Nat}, (∀ i, i < j → d i ≤ c i) → x_ix A (fun s => c s - d s) j + x_ix A d j = x_ix A c j
  | 0, _ => rfl
  | j + 1, h => by
    have ih := x_ix_sub (A := A) (c := c) (d := d) (j := j) (fun i hi => h i (by omega))
    have h1 : (c j - d j) * x_st A j + d j * x_st A j = c j * x_st A j := by
      rw [← Nat.add_mul, Nat.sub_add_cancel (h j (by omega))]
    unfold x_ix
    omega
theorem x_ix_A {A : Nat → Nat} : ∀ j, x_ix A A j + 1 = x_st A j
  | 0 => rfl
  | j + 1 => by
    have ih := x_ix_A (A := A) j
    have h2 : x_st A j * (A j + 1) = A j * x_st A j + x_st A j := by rw [Nat.mul_add, Nat.mul_one, Nat.mul_comm]
    show x_ix A A j + A j * x_st A j + 1 = x_st A j * (A j + 1)
    omega
theorem x_ix_of {A c d : Nat → Nat} : ∀ {j : Nat}, (∀ i, i < j → c i = d i) → x_ix A c j = x_ix A d j
  | 0, _ => rfl
  | j + 1, h => by
    unfold x_ix
    rw [x_ix_of (fun i hi => h i (by omega)), h j (by omega)]
theorem x_108a : ∀ a, a ≤ 8 → ∀ b, b ≤ 8 - a → ∀ c, c ≤ 8 - a - b → ∀ d, d ≤ 8 - a - b - c → ∀ e, e ≤ 8 - a - b - c - d → (a + 1) * (b + 1) * (c + 1) * (d + 1) * (e + 1) ≤ 108 := by decide +kernel
/-- all LOTS by sorts -/
def n_A (σ : St) : Nat → Nat := n_cnt σ (2 ^ σ 0 0 - 1)
theorem n_ct5 {σ : St} {h : Nat} : ∀ l, n_ct σ h 0 l + n_ct σ h 1 l + n_ct σ h 2 l + n_ct σ h 3 l + n_ct σ h 4 l ≤ l
  | 0 => Nat.le_refl _
  | l + 1 => by
    have ih := n_ct5 (σ := σ) (h := h) l
    unfold n_ct
    by_cases e : h.testBit l = true
    · by_cases e0 : σ 1 l = 0
      · simp [e, e0]; omega
      · by_cases e1 : σ 1 l = 1
        · simp [e, e1]; omega
        · by_cases e2 : σ 1 l = 2
          · simp [e, e2]; omega
          · by_cases e3 : σ 1 l = 3
            · simp [e, e3]; omega
            · by_cases e4 : σ 1 l = 4
              · simp [e, e4]; omega
              · simp [e0, e1, e2, e3, e4]; omega
    · simp [e]; omega
theorem x_108 {σ : St} (hw : Wf σ) : x_st (n_A σ) 5 ≤ 108 := by
  have h := n_ct5 (σ := σ) (h := 2 ^ σ 0 0 - 1) (σ 0 0)
  have hn := hw.1
  have e : x_st (n_A σ) 5 = (n_A σ 0 + 1) * (n_A σ 1 + 1) * (n_A σ 2 + 1) * (n_A σ 3 + 1) * (n_A σ 4 + 1) := by
    show 1 * (n_A σ 0 + 1) * (n_A σ 1 + 1) * (n_A σ 2 + 1) * (n_A σ 3 + 1) * (n_A σ 4 + 1) = _
    rw [Nat.one_mul]
  have h' : n_A σ 0 + n_A σ 1 + n_A σ 2 + n_A σ 3 + n_A σ 4 ≤ σ 0 0 := h
  rw [e]
  exact x_108a _ (by omega) _ (by omega) _ (by omega) _ (by omega) _ (by omega)
theorem b_full {n l : Nat} : (2 ^ n - 1).testBit l = decide (l < n) := Nat.testBit_two_pow_sub_one n l
theorem b_sub_full {f n : Nat} (h : f < 2 ^ n) : b_sub f (2 ^ n - 1) := fun l hl => by
  rw [b_full, decide_eq_true_eq]
  rcases Nat.lt_or_ge l n with z | z
  · exact z
  · rw [Nat.testBit_lt_two_pow (Nat.lt_of_lt_of_le h (Nat.pow_le_pow_right (by decide) z))] at hl
    cases hl
theorem n_cnt_A {σ : St} {f : Nat} (h : f < 2 ^ σ 0 0) (s : Nat) : n_cnt σ f s ≤ n_A σ s := by
  have := n_cnt_nd (σ := σ) (b_sub_full h) s
  unfold n_A
  omega
theorem n_A8 {σ : St} (hw : Wf σ) (s : Nat) : n_A σ s ≤ 8 := n_cnt_le hw _ s
def LO (σ : St) (M : mM) : Prop := M 48 5 = x_st (n_A σ) 5 ∧ (∀ i, i < 5 → M 50 i = x_st (n_A σ) i) ∧ ∀ s, s < x_st (n_A σ) 5 → M 51 s = n_pack (x_dg (n_A σ) s)
theorem LO_of {σ : St} {M M' : mM} (h : LO σ M) (h48 : M' 48 = M 48) (h50 : M' 50 = M 50) (h51 : M' 51 = M 51) : LO σ M' := by
  unfold LO at h ⊢
  rw [h48, h50, h51]
  exact h
/-- the digits below j -/
def x_dj (A : Nat → Nat) (s j i : Nat) : Nat := if i < j then x_dg A s i else 0
theorem kc_layOut {σ : St} {M : mM} (hw : Wf σ) (hL : HL σ M) : C_ kk_X5_layOut [v_P 48] M (fun _ M' => LO σ M' ∧ ∀ p, p ≠ 48 → p ≠ 50 → p ≠ 51 → M' p = M p) := by
  have hn8 := hw.1
  have p8 := pow8 hw
  have pp : 0 < 2 ^ σ 0 0 := Nat.pow_pos (by decide)
  have h108 := x_108 hw
  have hA := n_A8 hw
  refine c_intro (by decide) rfl (Nat.le_of_ble_eq_true rfl) (by simp [m_dv, Value.category]) (wp_X5_layOut_0 ⟨_, kc_allLots hw hL.1, fun r2 M3 _ _ e3 => ?_⟩)
  obtain ⟨e3a, rfl⟩ := e3
  subst e3a
  rw [show ((2 ^ σ 0 0 : Nat) : Int) - 1 = ((2 ^ σ 0 0 - 1 : Nat) : Int) by omega]
  refine ⟨_, kc_countsOf hw hL (by omega), fun r9 M10 _ _ e10 => ?_⟩
  obtain ⟨e10a, rfl⟩ := e10
  subst e10a
  have eA : n_pack (n_cnt σ (2 ^ σ 0 0 - 1)) = n_pack (n_A σ) := rfl
  rw [eA]
  generalize hAA : n_A σ = A at h108 hA
  have hLO : ∀ N : mM, LO σ N ↔ (N 48 5 = x_st A 5 ∧ (∀ i, i < 5 → N 50 i = x_st A i) ∧ ∀ s, s < x_st A 5 → N 51 s = n_pack (x_dg A s)) := fun N => by rw [← hAA]; exact Iff.rfl
  have hA16 : ∀ s, s < 5 → A s < 16 := fun s _ => by have := hA s; omega
  have outer : ∀ (m j : Nat) (N : mM), j + m = 5 → N 48 5 = x_st A j → (∀ i, i < j → N 50 i = x_st A i) → (∀ s, s < x_st A j → N 51 s = n_pack (x_dj A s j)) → (∀ p, p ≠ 48 → p ≠ 50 → p ≠ 51 → N p = M10 p) → X_ kk_X5_layOut 29 [v_P 48, v_I (n_pack A : Int), v_I (j : Int), v_U] [] N (fun _ M' => LO σ M' ∧ ∀ p, p ≠ 48 → p ≠ 50 → p ≠ 51 → M' p = M10 p) := by
    intro m
    induction m with
    | zero =>
      intro j N hj n1 n2 n3 n4
      have : j = 5 := by omega
      subst this
      refine wp_X5_layOut_29 ⟨fun _ => ⟨(hLO N).2 ⟨n1, n2, fun s hs => ?_⟩, n4⟩, fun y => absurd y (by omega)⟩
      rw [n3 s hs]
      rfl
    | succ m ih =>
      intro j N hj n1 n2 n3 n4
      have hst := x_st_pos A j
      have hst1 := x_st_mono (A := A) (i := j + 1) (j := 5) (by omega)
      have hst2 := x_st_mono (A := A) (i := j) (j := j + 1) (by omega)
      have es : x_st A (j + 1) = x_st A j * (A j + 1) := rfl
      have hA' := hA j
      refine wp_X5_layOut_29 ⟨fun y => absurd y (by omega), fun _ => ?_⟩
      rw [Int.toNat_natCast, n1]
      refine ⟨by omega, _, kc_of hA16 (by omega), fun r3 M4 _ _ e4 => ?_⟩
      obtain ⟨e4a, rfl⟩ := e4
      subst e4a
      have ei : (x_st A j : Int) * ((A j : Int) + 1) = (x_st A (j + 1) : Nat) := by
        rw [es, Int.natCast_mul, Int.natCast_add]
        rfl
      rw [ei, up_hit]
      refine ⟨⟨by omega, by omega⟩, ⟨by omega, by omega⟩, by omega, ?_⟩
      have inner : ∀ (f s : Nat) (K : mM), s + f = x_st A (j + 1) → x_st A j ≤ s → K 48 5 = x_st A (j + 1) → (∀ i, i < j + 1 → K 50 i = x_st A i) → (∀ s', s' < s → K 51 s' = n_pack (x_dj A s' (j + 1))) → (∀ p, p ≠ 48 → p ≠ 50 → p ≠ 51 → K p = M10 p) → X_ kk_X5_layOut 67 [v_P 48, v_I (n_pack A : Int), v_I (j : Int), v_I (s : Int)] [] K (fun _ M' => LO σ M' ∧ ∀ p, p ≠ 48 → p ≠ 50 → p ≠ 51 → M' p = M10 p) := by
        intro f
        induction f with
        | zero =>
          intro s K hs hs2 k1 k2 k3 k4
          have : s = x_st A (j + 1) := by omega
          subst this
          exact wp_X5_layOut_67 ⟨fun _ => ⟨⟨by omega, by omega⟩, ih (j + 1) K (by omega) k1 k2 k3 k4⟩, fun y => absurd y (by rw [k1]; omega)⟩
        | succ f ihf =>
          intro s K hs hs2 k1 k2 k3 k4
          refine wp_X5_layOut_67 ⟨fun y => absurd y (by rw [k1]; omega), fun _ => ?_⟩
          simp only [Int.toNat_natCast]
          rw [k2 j (by omega), show ((s : Int) - (x_st A j : Int)).toNat = s - x_st A j by omega, k3 (s - x_st A j) (by omega)]
          refine ⟨by omega, ⟨by omega, by omega⟩, by omega, _, c_one (s := j) (by omega), fun r6 M7 _ _ e7 => ?_⟩
          obtain ⟨e7a, rfl⟩ := e7
          subst e7a
          have hdj16 : ∀ s', ∀ i, i < 5 → x_dj A s' (j + 1) i < 16 := fun s' i _ => by
            have := hA i
            have := x_dg_le (A := A) (s := s') (i := i)
            unfold x_dj
            split <;> omega
          have hps : n_pack (x_dj A s (j + 1)) = n_pack (x_dj A (s - x_st A j) (j + 1)) + 2 ^ (5 * j) := by
            refine pack_sub (by omega) ?_ (fun i hi hne => ?_)
            · unfold x_dj x_dg
              rw [if_pos (by omega), if_pos (by omega)]
              have hd : s / x_st A j < A j + 1 := Nat.div_lt_of_lt_mul (by rw [← es]; omega)
              have hd2 : s / x_st A j = (s - x_st A j) / x_st A j + 1 := Nat.div_eq_sub_div hst hs2
              rw [Nat.mod_eq_of_lt hd, Nat.mod_eq_of_lt (show (s - x_st A j) / x_st A j < A j + 1 by omega)]
              exact hd2
            · unfold x_dj
              by_cases z : i < j + 1
              · rw [if_pos z, if_pos z]
                have := x_dg_add (A := A) (i := i) (j := j) (a := s - x_st A j) (b := 1) (by omega)
                rw [Nat.one_mul, Nat.sub_add_cancel hs2] at this
                exact this
              · rw [if_neg z, if_neg z]
          have g1 := g_lt (hdj16 s)
          have e8 : (n_pack (x_dj A (s - x_st A j) (j + 1)) : Int) + ((2 ^ (5 * j) : Nat) : Int) = (n_pack (x_dj A s (j + 1)) : Nat) := by omega
          rw [e8]
          refine ⟨⟨by omega, by omega⟩, by omega, ⟨by omega, by omega⟩, ?_⟩
          refine ihf (s + 1) _ (by omega) (by omega) (by simp (disch := omega) only [up_row, up_slot, up_hit, su_row, su_slot, su_hit]; exact k1) (fun i hi => by simp (disch := omega) only [up_row, up_slot, up_hit, su_row, su_slot, su_hit]; exact k2 i hi) (fun s' hs' => ?_) (fun p p1 p2 p3 => by rw [up_row p3]; exact k4 p p1 p2 p3)
          by_cases e : s' = s
          · subst e; exact up_hit
          · rw [up_slot e]; exact k3 s' (by omega)
      refine inner (x_st A (j + 1) - x_st A j) (x_st A j) _ (by omega) (Nat.le_refl _) (by simp (disch := omega) only [up_row, up_slot, up_hit, su_row, su_slot, su_hit]) (fun i hi => ?_) (fun s' hs' => ?_) (fun p p1 p2 p3 => by rw [up_row p1, up_row p2]; exact n4 p p1 p2 p3)
      · by_cases e : i = j
        · subst e; simp (disch := omega) only [up_row, up_slot, up_hit, su_row, su_slot, su_hit]
        · simp (disch := omega) only [up_row, up_slot, up_hit, su_row, su_slot, su_hit]; exact n2 i (by omega)
      · simp (disch := omega) only [up_row, up_slot, up_hit, su_row, su_slot, su_hit]
        rw [n3 s' hs']
        congr 1
        congr 1
        funext i
        unfold x_dj
        by_cases z : i < j
        · rw [if_pos z, if_pos (by omega)]
        · by_cases z2 : i = j
          · subst z2
            rw [if_neg z, if_pos (by omega)]
            unfold x_dg
            rw [Nat.div_eq_of_lt hs', Nat.zero_mod]
          · rw [if_neg z, if_neg (by omega)]
  refine outer 5 0 _ (by omega) (by simp (disch := omega) only [up_row, up_slot, up_hit, su_row, su_slot, su_hit]; rfl) (fun i hi => by omega) (fun s hs => ?_) (fun p p1 p2 p3 => by rw [up_row p1, up_row p3])
  have hs0 : s = 0 := by
    have : x_st A 0 = 1 := rfl
    omega
  subst hs0
  show m_up (m_up M10 51 (Int.toNat 0) 0) 48 5 1 51 0 = _
  rw [up_row (by decide), show Int.toNat 0 = 0 from rfl, up_hit]
  rfl
theorem kc_distance {σ : St} {M : mM} {c : Nat → Nat} (hw : Wf σ) (h50 : ∀ i, i < 5 → M 50 i = x_st (n_A σ) i) (hc : ∀ s, s < 5 → c s < 16) : C_ kk_X5_distance [v_P 48, v_I (n_pack c : Int)] M (fun r M' => M' = M ∧ r = x_ix (n_A σ) c 5) := by
  have h108 := x_108 hw
  generalize n_A σ = A at h50 h108 ⊢
  refine c_intro (by decide) rfl (Nat.le_of_ble_eq_true rfl) (by simp [m_dv, Value.category]) (wp_X5_distance_0 ?_)
  have loop : ∀ (m j : Nat), j + m = 5 → x_ix A c j ≤ 2000 * j → X_ kk_X5_distance 4 [v_P 48, v_I (n_pack c : Int), v_I (x_ix A c j : Int), v_I (j : Int)] [] M (fun r M' => M' = M ∧ r = x_ix A c 5) := by
    intro m
    induction m with
    | zero =>
      intro j hj hb
      exact wp_X5_distance_4 ⟨fun _ => ⟨rfl, by rw [show j = 5 by omega]⟩, fun y => absurd y (by omega)⟩
    | succ m ih =>
      intro j hj hb
      refine wp_X5_distance_4 ⟨fun y => absurd y (by omega), fun _ => ⟨_, kc_of hc (by omega), fun r2 M3 _ _ e3 => ?_⟩⟩
      obtain ⟨e3a, rfl⟩ := e3
      subst e3a
      have hcj := hc j (by omega)
      have hst := x_st_mono (A := A) (i := j) (j := 5) (by omega)
      have hm : c j * x_st A j ≤ 15 * 108 := Nat.mul_le_mul (by omega) (by omega)
      rw [Int.toNat_natCast, h50 j (by omega), ← Int.natCast_mul, ← Int.natCast_add]
      have e1 : x_ix A c (j + 1) = x_ix A c j + c j * x_st A j := rfl
      rw [← e1]
      exact ⟨by omega, ⟨by omega, by omega⟩, ⟨by omega, by omega⟩, ⟨by omega, by omega⟩, ih (j + 1) (by omega) (by omega)⟩
  exact loop 5 0 (by omega) (Nat.zero_le _)
theorem nd16 {σ : St} (hw : Wf σ) {b i : Nat} (hb : b < 6) (hi : i < σ 9 b) : ∀ s, s < 5 → n_nd σ b i s < 16 := fun s hs => by
  have := ((hw.2.2.2.2.1 b hb).2.2.2.2.2 i hi).2 s hs
  unfold n_nd
  omega
theorem dg16 {σ : St} (hw : Wf σ) (s : Nat) : ∀ i, i < 5 → x_dg (n_A σ) s i < 16 := fun i _ => by
  have := x_dg_le (A := n_A σ) (s := s) (i := i)
  have := n_A8 hw i
  omega
/-- what is left of a place when an ALTERNATIVE is served -/
theorem x_rest {σ : St} {b i s : Nat} (hs : s < x_st (n_A σ) 5) (h : ∀ k, k < 5 → n_nd σ b i k ≤ x_dg (n_A σ) s k) : x_ix (n_A σ) (n_nd σ b i) 5 ≤ s ∧ ∀ k, k < 5 → x_dg (n_A σ) (s - x_ix (n_A σ) (n_nd σ b i) 5) k = x_dg (n_A σ) s k - n_nd σ b i k := by
  have e1 := x_ix_sub (A := n_A σ) (c := x_dg (n_A σ) s) (d := n_nd σ b i) (j := 5) h
  rw [x_ix_dg, Nat.mod_eq_of_lt hs] at e1
  refine ⟨by omega, fun k hk => ?_⟩
  rw [show s - x_ix (n_A σ) (n_nd σ b i) 5 = x_ix (n_A σ) (fun s_1 => x_dg (n_A σ) s s_1 - n_nd σ b i s_1) 5 by omega]
  exact x_dg_ix (fun k' _ => Nat.le_trans (Nat.sub_le _ _) x_dg_le) k hk
theorem kc_serve {σ : St} {M : mM} {b i : Nat} {W : (Nat → Nat) → Nat} (hw : Wf σ) (hb : b < 6) (hi : i < σ 9 b) (hW : W_mono W) (hWb : ∀ c, W c ≤ 6000) (hLO : LO σ M) (h1 : ∀ s, s < x_st (n_A σ) 5 → M (53 + b + 1) s = W (x_dg (n_A σ) s)) (h0 : ∀ s, s < x_st (n_A σ) 5 → M (53 + b) s = nVi σ b W (x_dg (n_A σ) s) i) (hth : (σ 12 b).testBit i = false) : C_ kk_X5_serve [v_P 48, v_I (b : Int), v_I (σ 10 (6 * b + i) : Int), v_I (n_need σ (6 * b + i) : Int)] M (fun _ M' => (∀ s, s < x_st (n_A σ) 5 → M' (53 + b) s = nVi σ b W (x_dg (n_A σ) s) (i + 1)) ∧ ∀ p, p ≠ 53 + b → M' p = M p) := by
  have h108 := x_108 hw
  have h10 := ((hw.2.2.2.2.1 b hb).2.2.2.2.2 i hi).1
  have hnd := nd16 hw hb hi
  rw [n_need_nd]
  refine c_intro (by decide) rfl (Nat.le_of_ble_eq_true rfl) (by simp [m_dv, Value.category]) (wp_X5_serve_0 ⟨_, kc_distance hw hLO.2.1 hnd, fun r2 M3 _ _ e3 => ?_⟩)
  obtain ⟨e3a, rfl⟩ := e3
  subst e3a
  have hd9 := dg16 hw
  have step : ∀ s, nVi σ b W (x_dg (n_A σ) s) (i + 1) = if (∀ k, k < 5 → n_nd σ b i k ≤ x_dg (n_A σ) s k) then max (nVi σ b W (x_dg (n_A σ) s) i) (σ 10 (6 * b + i) + W (fun k => x_dg (n_A σ) s k - n_nd σ b i k)) else nVi σ b W (x_dg (n_A σ) s) i := fun s => by
    rw [nVi]
    by_cases e : ∀ k, k < 5 → n_nd σ b i k ≤ x_dg (n_A σ) s k
    · rw [if_pos e, if_pos (n_is_iff.2 ⟨hth, e⟩)]
    · rw [if_neg e, if_neg (fun z => e (n_is_iff.1 z).2)]
  have loop : ∀ (m s : Nat) (N : mM), (s + m = x_st (n_A σ) 5 ∨ (m = 0 ∧ x_st (n_A σ) 5 ≤ s)) → x_ix (n_A σ) (n_nd σ b i) 5 ≤ s → (∀ s', s' < s → s' < x_st (n_A σ) 5 → N (53 + b) s' = nVi σ b W (x_dg (n_A σ) s') (i + 1)) → (∀ s', s ≤ s' → N (53 + b) s' = M3 (53 + b) s') → (∀ p, p ≠ 53 + b → N p = M3 p) → X_ kk_X5_serve 11 [v_P 48, v_I (b : Int), v_I (σ 10 (6 * b + i) : Int), v_I (n_pack (n_nd σ b i) : Int), v_I (x_ix (n_A σ) (n_nd σ b i) 5 : Int), v_I (s : Int)] [] N (fun _ M' => (∀ s, s < x_st (n_A σ) 5 → M' (53 + b) s = nVi σ b W (x_dg (n_A σ) s) (i + 1)) ∧ ∀ p, p ≠ 53 + b → M' p = M3 p) := by
    intro m
    induction m with
    | zero =>
      intro s N hs hs2 n1 n2 n3
      refine wp_X5_serve_11 ⟨fun _ => ⟨fun s' hs' => n1 s' (by omega) hs', n3⟩, fun y => absurd y (by rw [n3 48 (by omega), hLO.1]; omega)⟩
    | succ m ih =>
      intro s N hs hs2 n1 n2 n3
      have hss : s < x_st (n_A σ) 5 := by omega
      refine wp_X5_serve_11 ⟨fun y => absurd y (by rw [n3 48 (by omega), hLO.1]; omega), fun _ => ?_⟩
      rw [Int.toNat_natCast, n3 51 (by omega), hLO.2.2 s hss]
      refine ⟨by omega, _, kc_cover hw hb hi (hd9 s), fun r3 M4 _ _ e4 => ?_⟩
      obtain ⟨e4a, rfl⟩ := e4
      subst e4a
      have i1 : m_ir ((s : Int) + 1) := ⟨by omega, by omega⟩
      refine ⟨fun q => ⟨i1, ?_⟩, fun q => ?_⟩
      · have hno : ¬ ∀ k, k < 5 → n_nd σ b i k ≤ x_dg (n_A σ) s k := fun z => by
          rw [if_pos (n_metc_iff.2 z)] at q
          exact absurd q (by decide)
        refine ih (s + 1) M4 (by omega) (by omega) (fun s' hs' hs'' => ?_) (fun s' hs' => n2 s' (by omega)) n3
        by_cases e : s' = s
        · subst e
          rw [n2 s' (Nat.le_refl _), h0 s' hss, step, if_neg hno]
        · exact n1 s' (by omega) hs''
      · have hyes : ∀ k, k < 5 → n_nd σ b i k ≤ x_dg (n_A σ) s k := by
          by_cases z : n_metc σ (6 * b + i) (x_dg (n_A σ) s) = true
          · exact n_metc_iff.1 z
          · rw [if_neg z] at q
            exact absurd rfl q
        obtain ⟨x1, x2⟩ := x_rest hss hyes
        rw [Int.toNat_natCast, show ((b : Int) + 1).toNat = b + 1 by omega, show ((s : Int) - (x_ix (n_A σ) (n_nd σ b i) 5 : Int)).toNat = s - x_ix (n_A σ) (n_nd σ b i) 5 by omega, n3 (53 + (b + 1)) (by omega), n2 s (Nat.le_refl _), h0 s hss]
        have e53 : M3 (53 + (b + 1)) (s - x_ix (n_A σ) (n_nd σ b i) 5) = W (fun k => x_dg (n_A σ) s k - n_nd σ b i k) := by
          rw [show 53 + (b + 1) = 53 + b + 1 by omega, h1 _ (by omega)]
          exact congrArg _ (W_eq hW x2)
        rw [e53]
        have hwb := hWb (fun k => x_dg (n_A σ) s k - n_nd σ b i k)
        refine ⟨by omega, by omega, by omega, ⟨by omega, by omega⟩, by omega, ⟨by omega, by omega⟩, by omega, ⟨by omega, by omega⟩, by omega, fun M22 e22 => ⟨i1, ?_⟩⟩
        refine ih (s + 1) M22 (by omega) (by omega) (fun s' hs' hs'' => ?_) (fun s' hs' => by rw [e22, up_slot (by omega)]; exact n2 s' (by omega)) (fun p hp => by rw [e22, up_row hp]; exact n3 p hp)
        by_cases e : s' = s
        · subst e
          rw [e22, up_hit, step, if_pos hyes]
          omega
        · rw [e22, up_slot e]
          exact n1 s' (by omega) hs''
  have s0 : ∀ s', s' < x_ix (n_A σ) (n_nd σ b i) 5 → s' < x_st (n_A σ) 5 → M3 (53 + b) s' = nVi σ b W (x_dg (n_A σ) s') (i + 1) := fun s' hs' hs'' => by
    rw [h0 s' hs'', step, if_neg]
    intro z
    have := (x_rest hs'' z).1
    omega
  by_cases e : x_ix (n_A σ) (n_nd σ b i) 5 ≤ x_st (n_A σ) 5
  · exact loop (x_st (n_A σ) 5 - x_ix (n_A σ) (n_nd σ b i) 5) _ M3 (Or.inl (by omega)) (Nat.le_refl _) s0 (fun _ _ => rfl) (fun _ _ => rfl)
  · exact loop 0 _ M3 (Or.inr ⟨rfl, by omega⟩) (Nat.le_refl _) s0 (fun _ _ => rfl) (fun _ _ => rfl)
