/-! PRICES, the class -/
def k_ins (r : Nat → Nat) (k x j : Nat) : Nat := if j < k then r j else if j = k then x else r (j - 1)
theorem k_ins_sum {g : Nat → Nat} {k x : Nat} : ∀ m, k ≤ m → q_sum (fun j => if j < k then g j else if j = k then x else g (j - 1)) (m + 1) = q_sum g m + x := by
  intro m
  induction m with
  | zero =>
    intro hk
    have : k = 0 := by omega
    subst this
    rfl
  | succ m ih =>
    intro hk
    by_cases e : k = m + 1
    · subst e
      rw [q_sum, if_neg (by omega), if_pos rfl]
      congr 1
      exact q_sum_of (fun j hj => by rw [if_pos hj])
    · rw [q_sum, ih (by omega), if_neg (by omega), if_neg (by omega), Nat.add_sub_cancel]
      have : q_sum g (m + 1) = q_sum g m + g m := rfl
      omega
theorem k_ins_pm {r : Nat → Nat} {k m : Nat} (h : q_pm m r) (hk : k ≤ m) : q_pm (m + 1) (k_ins r k m) := by
  obtain ⟨h1, h2, h3⟩ := h
  refine ⟨fun j hj => ?_, fun i j hi hj e => ?_, fun f => ?_⟩
  · unfold k_ins
    split
    · have := h1 j (by omega); omega
    · split
      · omega
      · have := h1 (j - 1) (by omega); omega
  · unfold k_ins at e
    by_cases i1 : i < k
    · have a := h1 i (by omega)
      by_cases j1 : j < k
      · rw [if_pos i1, if_pos j1] at e
        exact h2 i j (by omega) (by omega) e
      · by_cases j2 : j = k
        · rw [if_pos i1, if_neg j1, if_pos j2] at e; omega
        · rw [if_pos i1, if_neg j1, if_neg j2] at e
          have := h2 i (j - 1) (by omega) (by omega) e
          omega
    · by_cases i2 : i = k
      · by_cases j1 : j < k
        · have a := h1 j (by omega)
          rw [if_neg i1, if_pos i2, if_pos j1] at e; omega
        · by_cases j2 : j = k
          · omega
          · have a := h1 (j - 1) (by omega)
            rw [if_neg i1, if_pos i2, if_neg j1, if_neg j2] at e; omega
      · have a := h1 (i - 1) (by omega)
        by_cases j1 : j < k
        · rw [if_neg i1, if_neg i2, if_pos j1] at e
          have := h2 (i - 1) j (by omega) (by omega) e
          omega
        · by_cases j2 : j = k
          · rw [if_neg i1, if_neg i2, if_neg j1, if_pos j2] at e; omega
          · rw [if_neg i1, if_neg i2, if_neg j1, if_neg j2] at e
            have := h2 (i - 1) (j - 1) (by omega) (by omega) e
            omega
  · have e : (fun j => f (k_ins r k m j)) = (fun j => if j < k then (fun j => f (r j)) j else if j = k then f m else (fun j => f (r j)) (j - 1)) := by
      funext j
      unfold k_ins
      split
      · rfl
      · split <;> rfl
    rw [e, k_ins_sum m hk, h3 f]
    rfl
theorem k_ins_so {pr r : Nat → Nat} {k m : Nat} (h : q_pm m r) (hs : ∀ i j, i < j → j < m → pr (r i) < pr (r j) ∨ (pr (r i) = pr (r j) ∧ r i < r j)) (hk : k ≤ m) (h1 : ∀ j, k ≤ j → j < m → pr m < pr (r j)) (h2 : 0 < k → pr (r (k - 1)) ≤ pr m) : ∀ i j, i < j → j < m + 1 → pr (k_ins r k m i) < pr (k_ins r k m j) ∨ (pr (k_ins r k m i) = pr (k_ins r k m j) ∧ k_ins r k m i < k_ins r k m j) := by
  intro i j hij hj
  unfold k_ins
  by_cases i1 : i < k
  · have hri := h.1 i (by omega)
    by_cases j1 : j < k
    · rw [if_pos i1, if_pos j1]
      exact hs i j hij (by omega)
    · by_cases j2 : j = k
      · rw [if_pos i1, if_neg j1, if_pos j2]
        have a := h2 (by omega)
        by_cases z : i = k - 1
        · rw [← z] at a
          omega
        · have := hs i (k - 1) (by omega) (by omega)
          omega
      · rw [if_pos i1, if_neg j1, if_neg j2]
        exact hs i (j - 1) (by omega) (by omega)
  · by_cases i2 : i = k
    · rw [if_neg i1, if_pos i2, if_neg (show ¬ j < k by omega), if_neg (show ¬ j = k by omega)]
      exact Or.inl (h1 (j - 1) (by omega) (by omega))
    · rw [if_neg i1, if_neg i2, if_neg (show ¬ j < k by omega), if_neg (show ¬ j = k by omega)]
      exact hs (i - 1) (j - 1) (by omega) (by omega)
theorem kc_sort {σ : St} {M : mM} {q0 : Nat} {pr : Nat → Nat} (hw : Wf σ) (hq : m_isP q0) (h10 : M 1 0 = σ 0 0) (hp : ∀ l, l < σ 0 0 → M (q0 + 1) l = pr l) : C_ kk_X8_sortByPrice [v_P q0] M (fun _ M' => (∃ r, k_so σ pr r ∧ ∀ j, j < σ 0 0 → M' (q0 + 4) j = r j) ∧ ∀ p, p ≠ q0 + 4 → M' p = M p) := by
  have hn8 := hw.1
  have hrg := isP_rng hq
  refine c_intro (by decide) rfl (Nat.le_of_ble_eq_true rfl) (by simp [m_dv, Value.category]) (wp_X8_sortByPrice_0 hq ?_)
  have outer : ∀ (f m : Nat) (N : mM) (r : Nat → Nat), m + f = σ 0 0 → q_pm m r → (∀ i j, i < j → j < m → pr (r i) < pr (r j) ∨ (pr (r i) = pr (r j) ∧ r i < r j)) → (∀ j, j < m → N (q0 + 4) j = r j) → (∀ p, p ≠ q0 + 4 → N p = M p) → X_ kk_X8_sortByPrice 2 [v_P q0, v_I (m : Int), v_U] [] N (fun _ M' => (∃ r, k_so σ pr r ∧ ∀ j, j < σ 0 0 → M' (q0 + 4) j = r j) ∧ ∀ p, p ≠ q0 + 4 → M' p = M p) := by
    intro f
    induction f with
    | zero =>
      intro m N r hm r1 r2 n1 n2
      have em : m = σ 0 0 := by omega
      subst em
      refine wp_X8_sortByPrice_2 hq ⟨fun _ => ⟨⟨r, ⟨r1, r2⟩, n1⟩, n2⟩, fun y => absurd y (by rw [n2 1 (by omega), h10]; omega)⟩
    | succ f ih =>
      intro m N r hm r1 r2 n1 n2
      refine wp_X8_sortByPrice_2 hq ⟨fun y => absurd y (by rw [n2 1 (by omega), h10]; omega), fun _ => ?_⟩
      have inner : ∀ (k : Nat) (K : mM), k ≤ m → (∀ j, j < k → K (q0 + 4) j = r j) → (∀ j, k < j → j ≤ m → K (q0 + 4) j = r (j - 1)) → (∀ j, k ≤ j → j < m → pr m < pr (r j)) → (∀ p, p ≠ q0 + 4 → K p = M p) → X_ kk_X8_sortByPrice 15 [v_P q0, v_I (m : Int), v_I (k : Int)] [] K (fun _ M' => (∃ r, k_so σ pr r ∧ ∀ j, j < σ 0 0 → M' (q0 + 4) j = r j) ∧ ∀ p, p ≠ q0 + 4 → M' p = M p) := by
        intro k
        induction k with
        | zero =>
          intro K hk k1 k2 k3 k4
          refine wp_X8_sortByPrice_15 hq ⟨fun _ => ⟨by omega, ⟨by omega, by omega⟩, ?_⟩, fun y => absurd y (by omega)⟩
          rw [Int.toNat_natCast]
          refine ih (m + 1) _ (k_ins r 0 m) (by omega) (k_ins_pm r1 hk) (k_ins_so r1 r2 hk k3 (fun y => by omega)) (fun j hj => ?_) (fun p hp' => by rw [up_row hp']; exact k4 p hp')
          unfold k_ins
          rw [if_neg (by omega)]
          by_cases e : j = 0
          · subst e; rw [if_pos rfl, up_hit]
          · rw [if_neg e, up_slot e]; exact k2 j (by omega) (by omega)
        | succ k ihk =>
          intro K hk k1 k2 k3 k4
          have hrk := r1.1 k (by omega)
          refine wp_X8_sortByPrice_15 hq ⟨fun y => absurd y (by omega), fun _ => ?_⟩
          rw [show (((k + 1 : Nat) : Int) - 1).toNat = k by omega, k1 k (by omega)]
          simp only [Int.toNat_natCast]
          rw [k4 (q0 + 1) (by omega), hp (r k) (by omega), hp m (by omega)]
          refine ⟨⟨by omega, by omega⟩, by omega, by omega, by omega, fun q => ⟨by omega, ⟨by omega, by omega⟩, ?_⟩, fun q => ⟨⟨by omega, by omega⟩, by omega, by omega, ⟨by omega, by omega⟩, ?_⟩⟩
          · refine ih (m + 1) _ (k_ins r (k + 1) m) (by omega) (k_ins_pm r1 hk) (k_ins_so r1 r2 hk k3 (fun _ => by rw [Nat.add_sub_cancel]; omega)) (fun j hj => ?_) (fun p hp' => by rw [up_row hp']; exact k4 p hp')
            unfold k_ins
            by_cases e : j < k + 1
            · rw [if_pos e, up_slot (by omega)]; exact k1 j e
            · by_cases e2 : j = k + 1
              · subst e2; rw [if_neg e, if_pos rfl, up_hit]
              · rw [if_neg e, if_neg e2, up_slot e2]; exact k2 j (by omega) (by omega)
          · rw [show ((k + 1 : Nat) : Int) + (-1) = (k : Int) by omega]
            refine ihk _ (by omega) (fun j hj => by rw [up_slot (by omega)]; exact k1 j (by omega)) (fun j hj hj2 => ?_) (fun j hj hj2 => ?_) (fun p hp' => by rw [up_row hp']; exact k4 p hp')
            · by_cases e : j = k + 1
              · subst e; rw [up_hit, Nat.add_sub_cancel]
              · rw [up_slot e]; exact k2 j (by omega) hj2
            · by_cases e : j = k
              · subst e; omega
              · exact k3 j (by omega) hj2
      exact inner m N (Nat.le_refl _) n1 (fun j h1 h2 => by omega) (fun j h1 h2 => by omega) n2
  exact outer (σ 0 0) 0 M (fun j => j) (by omega) (q_pm_id 0) (fun i j hij hj => by omega) (fun j hj => by omega) (fun _ _ => rfl)
theorem kc_costOf {σ : St} {M : mM} {q0 h : Nat} {pr : Nat → Nat} (hw : Wf σ) (hq : m_isP q0) (h10 : M 1 0 = σ 0 0) (hp : ∀ l, l < σ 0 0 → M (q0 + 1) l = pr l) (hb : k_ps σ pr ≤ 20000) (hh : h < 2 ^ 31) : C_ kk_X8_costOf [v_P q0, v_I (h : Int)] M (fun r M' => M' = M ∧ r = k_co σ pr h) := by
  have hn8 := hw.1
  refine c_intro (by decide) rfl (Nat.le_of_ble_eq_true rfl) (by simp [m_dv, Value.category]) (wp_X8_costOf_0 hq ?_)
  have loop : ∀ (m l : Nat), l + m = σ 0 0 → X_ kk_X8_costOf 4 [v_P q0, v_I (h : Int), v_I (q_sum (fun l => if h.testBit l = true then pr l else 0) l : Int), v_I (l : Int)] [] M (fun r M' => M' = M ∧ r = k_co σ pr h) := by
    intro m
    induction m with
    | zero =>
      intro l hl
      refine wp_X8_costOf_4 hq ⟨fun _ => ⟨rfl, by rw [show l = σ 0 0 by omega]; rfl⟩, fun y => absurd y (by rw [h10]; omega)⟩
    | succ m ih =>
      intro l hl
      have nx := ih (l + 1) (by omega)
      rw [q_sum] at nx
      have hle : q_sum (fun l => if h.testBit l = true then pr l else 0) l + pr l ≤ k_ps σ pr := by
        have a := q_sum_mono (f := pr) (n := l + 1) (m := σ 0 0) (by omega)
        have b := q_sum_le (f := fun l => if h.testBit l = true then pr l else 0) (g := pr) (n := l) (fun j _ => by
          show (if h.testBit j = true then pr j else 0) ≤ pr j
          split <;> omega)
        rw [q_sum] at a
        unfold k_ps
        omega
      refine wp_X8_costOf_4 hq ⟨fun y => absurd y (by rw [h10]; omega), fun _ => ?_⟩
      rw [Int.toNat_natCast, hp l (by omega)]
      refine ⟨fun q => ⟨⟨by omega, by omega⟩, ?_⟩, fun q => ⟨by omega, ⟨by omega, by omega⟩, ⟨by omega, by omega⟩, ?_⟩⟩
      · rw [(b_bit0 (by omega) hh).1 q] at nx
        exact nx
      · have hb' : h.testBit l = true := by
          cases hz : h.testBit l
          · exact absurd ((b_bit0 (by omega) hh).2 hz) q
          · rfl
        rw [hb'] at nx
        rw [← Int.natCast_add]
        exact nx
  exact loop (σ 0 0) 0 (by omega)
theorem kc_like {σ : St} {M : mM} {q0 b : Nat} {pr r : Nat → Nat} (hw : Wf σ) (hw2 : Wf2 σ) (hq : m_isP q0) (hh : HH σ M) (hp : ∀ l, l < σ 0 0 → M (q0 + 1) l = pr l) (hpb : k_ps σ pr ≤ 20000) (hr : k_so σ pr r) (hrow : ∀ j, j < σ 0 0 → M (q0 + 4) j = r j) (hb : b < 6) : C_ kk_X8_like [v_P q0, v_I (b : Int), v_P (8 + 3 * b)] M (fun _ M' => M' = m_up (m_up M (q0 + 2) b (k_h σ pr b)) (q0 + 3) b (k_g σ pr b)) := by
  have hn8 := hw.1
  have p8 := pow8 hw
  have pp : 0 < 2 ^ σ 0 0 := Nat.pow_pos (by decide)
  have hrg := isP_rng hq
  have hB1 := hh.2.2.2 b hb
  have hb9 := (hw.2.2.2.2.1 b hb).2.2.2.1
  obtain ⟨ce1, ce2⟩ := k_cl_eq hw hw2 hb hr
  have hsh4 : m_sh (q0 + 4) = (20, 8) := hq.2.2.2.2.2.2.2.2.2
  refine c_intro (by decide) rfl (Nat.le_of_ble_eq_true rfl) (by simp [m_dv, Value.category]) (wp_X8_like_0 hq (isB_at hb) ?_)
  have loop : ∀ (m i : Nat), i + m = σ 9 b → X_ kk_X8_like 8 [v_P q0, v_I (b : Int), v_P (8 + 3 * b), v_I ((k_cl σ pr r b i).1 : Int), v_I (k_cl σ pr r b i).2, v_I (i : Int), v_U, v_U] [] M (fun _ M' => M' = m_up (m_up M (q0 + 2) b (k_h σ pr b)) (q0 + 3) b (k_g σ pr b)) := by
    intro m
    induction m with
    | zero =>
      intro i hi
      have ei : i = σ 9 b := by omega
      subst ei
      refine wp_X8_like_8 hq (isB_at hb) ⟨fun _ => ⟨by omega, by omega, ?_⟩, fun y => absurd y (by rw [hB1.2.2.2.1]; omega)⟩
      rw [Int.toNat_natCast, ce1, ce2]
    | succ m ih =>
      intro i hi
      have his : i < σ 9 b := by omega
      have i1 : m_ir ((i : Int) + 1) := ⟨by omega, by omega⟩
      have nx := ih (i + 1) (by omega)
      have h10 := ((hw.2.2.2.2.1 b hb).2.2.2.2.2 i his).1
      have sp := k_cl_spec (σ := σ) (pr := pr) (r := r) (b := b) i
      have no : ¬ (n_is σ b (n_A σ) i = true ∧ ((k_cl σ pr r b i).2 < k_cr σ pr r b i ∨ (k_cr σ pr r b i = (k_cl σ pr r b i).2 ∧ q_pk σ r (2 ^ σ 0 0 - 1) (n_nd σ b i) < (k_cl σ pr r b i).1))) → X_ kk_X8_like 8 [v_P q0, v_I (b : Int), v_P (8 + 3 * b), v_I ((k_cl σ pr r b i).1 : Int), v_I (k_cl σ pr r b i).2, v_I ((i : Int) + 1), v_U, v_U] [] M (fun _ M' => M' = m_up (m_up M (q0 + 2) b (k_h σ pr b)) (q0 + 3) b (k_g σ pr b)) := fun z => by
        have e : k_cl σ pr r b (i + 1) = k_cl σ pr r b i := by rw [k_cl, if_neg z]
        rw [e] at nx
        exact nx
      have yes : (n_is σ b (n_A σ) i = true ∧ ((k_cl σ pr r b i).2 < k_cr σ pr r b i ∨ (k_cr σ pr r b i = (k_cl σ pr r b i).2 ∧ q_pk σ r (2 ^ σ 0 0 - 1) (n_nd σ b i) < (k_cl σ pr r b i).1))) → X_ kk_X8_like 8 [v_P q0, v_I (b : Int), v_P (8 + 3 * b), v_I (q_pk σ r (2 ^ σ 0 0 - 1) (n_nd σ b i) : Int), v_I (k_cr σ pr r b i), v_I ((i : Int) + 1), v_U, v_U] [] M (fun _ M' => M' = m_up (m_up M (q0 + 2) b (k_h σ pr b)) (q0 + 3) b (k_g σ pr b)) := fun z => by
        have e : k_cl σ pr r b (i + 1) = (q_pk σ r (2 ^ σ 0 0 - 1) (n_nd σ b i), k_cr σ pr r b i) := by rw [k_cl, if_pos z]
        rw [e] at nx
        exact nx
      have ecr : k_cr σ pr r b i = (σ 10 (6 * b + i) : Int) - k_co σ pr (q_pk σ r (2 ^ σ 0 0 - 1) (n_nd σ b i)) := rfl
      obtain ⟨y1, y2⟩ := hB1.2.2.2.2.2 i his
      refine wp_X8_like_8 hq (isB_at hb) ⟨fun y => absurd y (by rw [hB1.2.2.2.1]; omega), fun _ => ⟨_, kc_isThere hw hb hB1 (by omega), fun r4 M5 _ _ e5 => ?_⟩⟩
      obtain ⟨e5a, rfl⟩ := e5
      subst e5a
      refine ⟨fun q => ⟨i1, no (fun z => ?_)⟩, fun q => ?_⟩
      · rw [(n_is_iff.1 z.1).1] at q
        exact absurd q (by decide)
      · have ht : (σ 12 b).testBit i = false := by
          cases hz : (σ 12 b).testBit i
          · rfl
          · rw [hz] at q; exact absurd rfl q
        rw [Int.toNat_natCast, y1, y2]
        refine ⟨by omega, fun q2 => ⟨i1, no (fun z => by rcases z.2 with z2 | ⟨z2, _⟩ <;> omega)⟩, fun q2 => ⟨by omega, _, kc_allLots hw hh.1.1, fun r15 M16 _ _ e16 => ?_⟩⟩
        obtain ⟨e16a, rfl⟩ := e16
        subst e16a
        rw [show ((2 ^ σ 0 0 : Nat) : Int) - 1 = ((2 ^ σ 0 0 - 1 : Nat) : Int) by omega, n_need_nd]
        refine ⟨_, kc_pick (r := r) (rest := 2 ^ σ 0 0 - 1) hw hh.1 hsh4 hr.1 hrow (nd16 hw hb his) (by omega), fun r22 M23 _ _ e23 => ?_⟩
        obtain ⟨e23a, e23b, e23c⟩ := e23
        subst e23a
        have eA : n_cnt σ (2 ^ σ 0 0 - 1) = n_A σ := rfl
        rw [eA] at e23b e23c
        by_cases hen : q_en σ (n_A σ) (n_nd σ b i)
        · have er := e23b hen
          subst er
          have hisA : n_is σ b (n_A σ) i = true := n_is_iff.2 ⟨ht, q_en_all.1 hen⟩
          have hpl := q_pk_lt (σ := σ) (rest := 2 ^ σ 0 0 - 1) (nd := n_nd σ b i) hr.1
          refine ⟨fun _ => ⟨by omega, _, kc_costOf hw hq hh.1.1 hp hpb (by omega), fun r30 M31 _ _ e31 => ?_⟩, fun y => absurd (Int.natCast_nonneg _) y⟩
          obtain ⟨e31a, rfl⟩ := e31
          subst e31a
          have hcp := k_co_ps (σ := σ) (pr := pr) (h := q_pk σ r (2 ^ σ 0 0 - 1) (n_nd σ b i))
          rw [y1, ← ecr]
          refine ⟨⟨by omega, by omega⟩, fun q3 => ⟨i1, yes ⟨hisA, Or.inl q3⟩⟩, fun q3 => ⟨fun q4 => ⟨i1, no (fun z => by rcases z.2 with z2 | ⟨z2, _⟩ <;> omega)⟩, fun q4 => ⟨fun q5 => ⟨i1, no (fun z => by rcases z.2 with z2 | ⟨_, z2⟩ <;> omega)⟩, fun q5 => ⟨i1, yes ⟨hisA, Or.inr ⟨q4, by omega⟩⟩⟩⟩⟩⟩
        · have er := e23c hen
          subst er
          have hno : ¬ n_is σ b (n_A σ) i = true := fun z => hen (q_en_all.2 (n_is_iff.1 z).2)
          exact ⟨fun y => absurd y (by decide), fun _ => ⟨fun q3 => absurd q3 (by omega), fun _ => ⟨fun _ => ⟨i1, no (fun z => hno z.1)⟩, fun q4 => absurd q4 (by omega)⟩⟩⟩
  exact loop (σ 9 b) 0 (by omega)
theorem kc_look {σ : St} {M : mM} {q0 : Nat} {pr : Nat → Nat} (hw : Wf σ) (hw2 : Wf2 σ) (hq : m_isP q0) (hh : HH σ M) (hp : ∀ l, l < σ 0 0 → M (q0 + 1) l = pr l) (hpb : k_ps σ pr ≤ 20000) : C_ kk_X8_look [v_P q0] M (fun _ M' => (∀ b, b < σ 5 0 → M' (q0 + 2) b = k_h σ pr b ∧ M' (q0 + 3) b = k_g σ pr b) ∧ ∀ p, p ≠ q0 + 2 → p ≠ q0 + 3 → p ≠ q0 + 4 → M' p = M p) := by
  have hnb := hw.2.2.2.1
  have hrg := isP_rng hq
  refine c_intro (by decide) rfl (Nat.le_of_ble_eq_true rfl) (by simp [m_dv, Value.category]) (wp_X8_look_0 hq ⟨_, kc_sort hw hq hh.1.1 hp, fun r2 M3 _ _ e3 => ?_⟩)
  obtain ⟨⟨r, hr, hrow⟩, f3⟩ := e3
  have loop : ∀ (m b : Nat) (N : mM), b + m = σ 5 0 → (∀ b', b' < b → N (q0 + 2) b' = k_h σ pr b' ∧ N (q0 + 3) b' = k_g σ pr b') → (∀ p, p ≠ q0 + 2 → p ≠ q0 + 3 → N p = M3 p) → X_ kk_X8_look 6 [v_P q0, v_I (b : Int)] [] N (fun _ M' => (∀ b, b < σ 5 0 → M' (q0 + 2) b = k_h σ pr b ∧ M' (q0 + 3) b = k_g σ pr b) ∧ ∀ p, p ≠ q0 + 2 → p ≠ q0 + 3 → p ≠ q0 + 4 → M' p = M p) := by
    intro m
    induction m with
    | zero =>
      intro b N hb n1 n2
      refine wp_X8_look_6 hq ⟨fun _ => ⟨fun b' hb' => n1 b' (by omega), fun p p1 p2 p3 => by rw [n2 p p1 p2, f3 p p3]⟩, fun y => absurd y (by rw [n2 1 (by omega) (by omega), f3 1 (by omega), hh.2.1]; omega)⟩
    | succ m ih =>
      intro b N hb n1 n2
      have hhN : HH σ N := HH_of hh (fun p hp' => by rw [n2 p (by omega) (by omega), f3 p (by omega)])
      refine wp_X8_look_6 hq ⟨fun y => absurd y (by rw [n2 1 (by omega) (by omega), f3 1 (by omega), hh.2.1]; omega), fun _ => ?_⟩
      rw [Int.toNat_natCast]
      refine ⟨by omega, _, kc_like hw hw2 hq hhN (fun l hl => by rw [n2 (q0 + 1) (by omega) (by omega), f3 (q0 + 1) (by omega)]; exact hp l hl) hpb hr (fun j hj => by rw [n2 (q0 + 4) (by omega) (by omega)]; exact hrow j hj) (by omega), fun r4 M5 _ _ e5 => ⟨⟨by omega, by omega⟩, ?_⟩⟩
      subst e5
      refine ih (b + 1) _ (by omega) (fun b' hb' => ?_) (fun p p1 p2 => by rw [up_row p2, up_row p1]; exact n2 p p1 p2)
      by_cases e : b' = b
      · subst e
        rw [up_hit, up_row (by omega), up_hit]
        exact ⟨rfl, rfl⟩
      · rw [up_slot e, up_row (by omega), up_slot e, up_row (by omega)]
        exact n1 b' (by omega)
  exact loop (σ 5 0) 0 M3 (by omega) (fun b' hb' => by omega) (fun _ _ _ => rfl)
theorem kc_lack {σ : St} {M : mM} {q0 : Nat} {pr : Nat → Nat} (hw : Wf σ) (hq : m_isP q0) (hh : HH σ M) (hp : ∀ l, l < σ 0 0 → M (q0 + 1) l = pr l) (hpb : k_ps σ pr ≤ 20000) (hg : ∀ b, b < σ 5 0 → M (q0 + 3) b = k_g σ pr b) : C_ kk_X8_lack [v_P q0, v_I (n_dw σ : Int)] M (fun r M' => M' = M ∧ r = k_mis σ pr) := by
  have hnb := hw.2.2.2.1
  have hn8 := hw.1
  have hdw := nV_le hw (σ 5 0) (Nat.le_refl _) (n_cnt σ (2 ^ σ 0 0 - 1))
  have hdw' : n_dw σ ≤ 6000 := by unfold n_dw; omega
  refine c_intro (by decide) rfl (Nat.le_of_ble_eq_true rfl) (by simp [m_dv, Value.category]) (wp_X8_lack_0 hq ⟨⟨by omega, by omega⟩, ?_⟩)
  have prices : ∀ (m l : Nat), l + m = σ 0 0 → X_ kk_X8_lack 33 [v_P q0, v_U, v_I (-(n_dw σ : Int) + k_fs σ pr (σ 5 0) + q_sum pr l), v_I (l : Int)] [] M (fun r M' => M' = M ∧ r = k_mis σ pr) := by
    intro m
    induction m with
    | zero =>
      intro l hl
      refine wp_X8_lack_33 hq ⟨fun _ => ⟨rfl, ?_⟩, fun y => absurd y (by rw [hh.1.1]; omega)⟩
      rw [show l = σ 0 0 by omega]
      unfold k_mis k_ps
      omega
    | succ m ih =>
      intro l hl
      have nx := ih (l + 1) (by omega)
      have hs : q_sum pr (l + 1) = q_sum pr l + pr l := rfl
      have hm := q_sum_mono (f := pr) (n := l + 1) (m := σ 0 0) (by omega)
      have hfs := k_fs_le hw (pr := pr) (σ 5 0) hnb
      unfold k_ps at hpb
      refine wp_X8_lack_33 hq ⟨fun y => absurd y (by rw [hh.1.1]; omega), fun _ => ?_⟩
      rw [Int.toNat_natCast, hp l (by omega)]
      rw [hs, Int.natCast_add] at nx
      rw [show -(n_dw σ : Int) + k_fs σ pr (σ 5 0) + (q_sum pr l : Int) + (pr l : Int) = -(n_dw σ : Int) + k_fs σ pr (σ 5 0) + ((q_sum pr l : Int) + (pr l : Int)) by omega]
      exact ⟨by omega, ⟨by omega, by omega⟩, ⟨by omega, by omega⟩, nx⟩
  have gains : ∀ (m b : Nat), b + m = σ 5 0 → X_ kk_X8_lack 5 [v_P q0, v_U, v_I (-(n_dw σ : Int) + k_fs σ pr b), v_I (b : Int)] [] M (fun r M' => M' = M ∧ r = k_mis σ pr) := by
    intro m
    induction m with
    | zero =>
      intro b hb
      have eb : b = σ 5 0 := by omega
      subst eb
      refine wp_X8_lack_5 hq ⟨fun _ => ?_, fun y => absurd y (by rw [hh.2.1]; omega)⟩
      have p0 := prices (σ 0 0) 0 (by omega)
      have e0 : ((q_sum pr 0 : Nat) : Int) = 0 := rfl
      rw [e0, Int.add_zero] at p0
      exact p0
    | succ m ih =>
      intro b hb
      have nx := ih (b + 1) (by omega)
      have hfs := k_fs_le hw (pr := pr) b (by omega)
      have hgb := k_g_le hw (pr := pr) (b := b) (by omega)
      have hs : k_fs σ pr (b + 1) = k_fs σ pr b + k_g σ pr b := rfl
      refine wp_X8_lack_5 hq ⟨fun y => absurd y (by rw [hh.2.1]; omega), fun _ => ?_⟩
      rw [Int.toNat_natCast, hg b (by omega)]
      rw [hs, ← Int.add_assoc] at nx
      exact ⟨by omega, ⟨by omega, by omega⟩, ⟨by omega, by omega⟩, nx⟩
  have g0 := gains (σ 5 0) 0 (by omega)
  have e0 : k_fs σ pr 0 = 0 := rfl
  rw [e0, Int.add_zero] at g0
  exact g0
/-- by how many a lot is liked -/
def k_ct (σ : St) (pr : Nat → Nat) (l b : Nat) : Nat := q_sum (fun b => if (k_h σ pr b).testBit l = true then 1 else 0) b
theorem kc_wantedTwice {σ : St} {M : mM} {q0 : Nat} {pr : Nat → Nat} (hw : Wf σ) (hq : m_isP q0) (h16 : M 1 6 = σ 5 0) (hg : ∀ b, b < σ 5 0 → M (q0 + 2) b = k_h σ pr b) : C_ kk_X8_wantedTwice [v_P q0] M (fun r M' => M' = M ∧ ∃ t : Nat, r = t ∧ t < 2 ^ σ 0 0 ∧ ∀ l, t.testBit l = true ↔ 2 ≤ k_ct σ pr l (σ 5 0)) := by
  have hnb := hw.2.2.2.1
  have p8 := pow8 hw
  refine c_intro (by decide) rfl (Nat.le_of_ble_eq_true rfl) (by simp [m_dv, Value.category]) (wp_X8_wantedTwice_0 hq ?_)
  have loop : ∀ (m b o t : Nat), b + m = σ 5 0 → o < 2 ^ σ 0 0 → t < 2 ^ σ 0 0 → (∀ l, o.testBit l = true ↔ 1 ≤ k_ct σ pr l b) → (∀ l, t.testBit l = true ↔ 2 ≤ k_ct σ pr l b) → X_ kk_X8_wantedTwice 6 [v_P q0, v_I (o : Int), v_I (t : Int), v_I (b : Int)] [] M (fun r M' => M' = M ∧ ∃ t : Nat, r = t ∧ t < 2 ^ σ 0 0 ∧ ∀ l, t.testBit l = true ↔ 2 ≤ k_ct σ pr l (σ 5 0)) := by
    intro m
    induction m with
    | zero =>
      intro b o t hb ho ht h1 h2
      have eb : b = σ 5 0 := by omega
      subst eb
      exact wp_X8_wantedTwice_6 hq ⟨fun _ => ⟨rfl, t, rfl, ht, h2⟩, fun y => absurd y (by rw [h16]; omega)⟩
    | succ m ih =>
      intro b o t hb ho ht h1 h2
      have hkl := (k_hg (σ := σ) (pr := pr) (b := b)).1
      refine wp_X8_wantedTwice_6 hq ⟨fun y => absurd y (by rw [h16]; omega), fun _ => ?_⟩
      have hand : o &&& k_h σ pr b < 2 ^ σ 0 0 := Nat.lt_of_le_of_lt Nat.and_le_left ho
      rw [Int.toNat_natCast, hg b (by omega), b_or (by omega) (by omega), b_and (by omega), b_or (by omega) (by omega)]
      refine ⟨by omega, by omega, ⟨by omega, by omega⟩, ih (b + 1) _ _ (by omega) (Nat.or_lt_two_pow ho hkl) (Nat.or_lt_two_pow ht hand) (fun l => ?_) (fun l => ?_)⟩
      · have e : k_ct σ pr l (b + 1) = k_ct σ pr l b + (if (k_h σ pr b).testBit l = true then 1 else 0) := rfl
        rw [Nat.testBit_or, Bool.or_eq_true, h1 l, e]
        cases (k_h σ pr b).testBit l <;> simp <;> omega
      · have e : k_ct σ pr l (b + 1) = k_ct σ pr l b + (if (k_h σ pr b).testBit l = true then 1 else 0) := rfl
        rw [Nat.testBit_or, Bool.or_eq_true, Nat.testBit_and, Bool.and_eq_true, h1 l, h2 l, e]
        cases (k_h σ pr b).testBit l <;> simp <;> omega
  have pp : 0 < 2 ^ σ 0 0 := Nat.pow_pos (by decide)
  refine loop (σ 5 0) 0 0 0 (by omega) pp pp (fun l => ?_) (fun l => ?_)
  · rw [Nat.zero_testBit]
    have e : k_ct σ pr l 0 = 0 := rfl
    rw [e]
    simp
  · rw [Nat.zero_testBit]
    have e : k_ct σ pr l 0 = 0 := rfl
    rw [e]
    simp
def sp_likes (σ : St) (b w : Int) : Int × St := (if ¬ (0 ≤ b ∧ b < σ 5 0) then -1 else if w < 0 ∨ 1 < w then -2 else if w = 0 then (k_h σ (σ 14) b.toNat : Int) else k_g σ (σ 14) b.toNat, σ)
def sp_missing (σ : St) : Int × St := (k_mis σ (σ 14), σ)
theorem ps_14 {σ : St} (hw : Wf σ) : k_ps σ (σ 14) ≤ 20000 := by
  have hn8 := hw.1
  have h := k_sum_le (f := σ 14) (K := 1000) (n := σ 0 0) (fun l hl => hw.2.2.2.2.2.2.2.1 l (by omega))
  unfold k_ps
  omega
theorem kc_likes {σ : St} {M : mM} {b w : Int} (hw : Wf σ) (hw2 : Wf2 σ) (h : CR σ M) : C_ kk_X10_likes [v_P 0, v_I b, v_I w] M (PC (sp_likes σ b w) M) := by
  have hnb := hw.2.2.2.1
  have hn8 := hw.1
  have hh : HH σ M := ⟨h.1, h.2.1⟩
  refine c_intro (by decide) rfl (Nat.le_of_ble_eq_true rfl) (by simp [m_dv, Value.category]) (wp_X10_likes_0 ?_)
  rw [h.2.1.1]
  unfold sp_likes
  refine ⟨fun q => ?_, fun q => ?_⟩
  · rw [if_neg (fun z => z q)]
    refine ⟨fun q2 => ?_, fun q2 => ⟨_, kc_look (pr := σ 14) hw hw2 isP_60 hh (fun l hl => h.2.2.2.2.2.1 l (by omega)) (ps_14 hw), fun r2 M3 _ _ e3 => ?_⟩⟩
    · rw [if_pos q2]; exact PC_same h
    · rw [if_neg q2]
      obtain ⟨g1, f3⟩ := e3
      obtain ⟨b', rfl⟩ := nat_of q.1
      rw [Int.toNat_natCast]
      have fr : ∀ x : Int, PC (x, σ) M x M3 := fun x => ⟨rfl, CR_fr h (fun p hp => f3 p (by omega) (by omega) (by omega)) (by rw [f3 75 (by omega) (by omega) (by omega)]), fun p hp => f3 p (by omega) (by omega) (by omega), Or.inr fun p _ _ => f3 p (by omega) (by omega) (by omega)⟩
      obtain ⟨g2, g3⟩ := g1 b' (by omega)
      refine ⟨fun q3 => ⟨by omega, ?_⟩, fun q3 => ⟨by omega, ?_⟩⟩
      · rw [if_neg q3, show (63 : Nat) = 60 + 3 from rfl, g3]; exact fr _
      · rw [if_pos q3, show (62 : Nat) = 60 + 2 from rfl, g2]; exact fr _
  · rw [if_pos q]; exact PC_same h
theorem kc_missing {σ : St} {M : mM} (hw : Wf σ) (hw2 : Wf2 σ) (h : CR σ M) : C_ kk_X10_missing [v_P 0] M (PC (sp_missing σ) M) := by
  have hnb := hw.2.2.2.1
  have hn8 := hw.1
  have hh : HH σ M := ⟨h.1, h.2.1⟩
  refine c_intro (by decide) rfl (Nat.le_of_ble_eq_true rfl) (by simp [m_dv, Value.category]) (wp_X10_missing_0 ⟨_, kc_look (pr := σ 14) hw hw2 isP_60 hh (fun l hl => h.2.2.2.2.2.1 l (by omega)) (ps_14 hw), fun r2 M3 _ _ e3 => ?_⟩)
  obtain ⟨g1, f3⟩ := e3
  have hh3 : HH σ M3 := HH_of hh (fun p hp => f3 p (by omega) (by omega) (by omega))
  refine ⟨_, kc_mostWorth hw hh3, fun r9 M10 _ _ e10 => ?_⟩
  obtain ⟨rfl, -, f10⟩ := e10
  have hh10 : HH σ M10 := HH_of hh3 (fun p hp => f10 p (by omega))
  refine ⟨_, kc_lack (pr := σ 14) hw isP_60 hh10 (fun l hl => by rw [f10 (60 + 1) (by omega), f3 (60 + 1) (by omega) (by omega) (by omega)]; exact h.2.2.2.2.2.1 l (by omega)) (ps_14 hw) (fun b hb => by rw [f10 (60 + 3) (by omega)]; exact (g1 b hb).2), fun r16 M17 _ _ e17 => ?_⟩
  obtain ⟨e17a, rfl⟩ := e17
  subst e17a
  have f : ∀ p, p < 48 ∨ p = 49 ∨ 60 ≤ p → p ≠ 62 → p ≠ 63 → p ≠ 64 → M17 p = M p := fun p hp p1 p2 p3 => by rw [f10 p hp, f3 p (by omega) (by omega) (by omega)]
  exact ⟨rfl, CR_fr h (fun p hp => f p (by omega) (by omega) (by omega) (by omega)) (by rw [f 75 (by omega) (by omega) (by omega) (by omega)]), fun p hp => f p (by omega) (by omega) (by omega) (by omega), Or.inr fun p _ _ => f p (by omega) (by omega) (by omega) (by omega)⟩
