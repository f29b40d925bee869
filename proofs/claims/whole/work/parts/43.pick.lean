/-! picking lots along a row: the greedy heap and its weight -/
def q_sum (f : Nat → Nat) : Nat → Nat
  | 0 => 0
  | k + 1 => q_sum f k + f k
theorem q_sum_of {f g : Nat → Nat} : ∀ {n}, (∀ j, j < n → f j = g j) → q_sum f n = q_sum g n
  | 0, _ => rfl
  | n + 1, h => by
    unfold q_sum
    rw [q_sum_of (fun j hj => h j (by omega)), h n (by omega)]
theorem q_sum_le {f g : Nat → Nat} : ∀ {n}, (∀ j, j < n → f j ≤ g j) → q_sum f n ≤ q_sum g n
  | 0, _ => Nat.le_refl _
  | n + 1, h => by
    have h1 := q_sum_le (n := n) (fun j hj => h j (by omega))
    have h2 := h n (by omega)
    unfold q_sum
    omega
theorem q_sum_mono {f : Nat → Nat} : ∀ {n m}, n ≤ m → q_sum f n ≤ q_sum f m := by
  intro n m h
  obtain ⟨d, rfl⟩ : ∃ d, m = n + d := ⟨m - n, by omega⟩
  clear h
  induction d with
  | zero => exact Nat.le_refl _
  | succ d ih =>
    rw [show n + (d + 1) = (n + d) + 1 by omega, q_sum]
    omega
theorem q_sum_add {f g : Nat → Nat} : ∀ n, q_sum (fun j => f j + g j) n = q_sum f n + q_sum g n
  | 0 => rfl
  | n + 1 => by
    unfold q_sum
    rw [q_sum_add n]
    omega
/-- of the lots of the heap h and the sort s, ahead in the row -/
def q_ws (σ : St) (r w : Nat → Nat) (h s k : Nat) : Nat := q_sum (fun j => if h.testBit (r j) = true ∧ σ 1 (r j) = s then w (r j) else 0) k
def q_cr (σ : St) (r : Nat → Nat) (h s k : Nat) : Nat := q_ws σ r (fun _ => 1) h s k
theorem q_ws_s {σ : St} {r w : Nat → Nat} {h s k : Nat} : q_ws σ r w h s (k + 1) = q_ws σ r w h s k + (if h.testBit (r k) = true ∧ σ 1 (r k) = s then w (r k) else 0) := rfl
theorem q_cr_s {σ : St} {r : Nat → Nat} {h s k : Nat} : q_cr σ r h s (k + 1) = q_cr σ r h s k + (if h.testBit (r k) = true ∧ σ 1 (r k) = s then 1 else 0) := rfl
theorem q_cr_id {σ : St} {h s : Nat} : ∀ k, q_cr σ (fun j => j) h s k = n_ct σ h s k
  | 0 => rfl
  | k + 1 => by
    rw [q_cr_s, n_ct, q_cr_id k]
theorem q_cr_le {σ : St} {r : Nat → Nat} {h s : Nat} : ∀ k, q_cr σ r h s k ≤ k
  | 0 => Nat.le_refl _
  | k + 1 => by
    have := q_cr_le (σ := σ) (r := r) (h := h) (s := s) k
    rw [q_cr_s]
    split <;> omega
theorem q_cr_mono {σ : St} {r : Nat → Nat} {h s n m : Nat} (hm : n ≤ m) : q_cr σ r h s n ≤ q_cr σ r h s m := q_sum_mono hm
theorem q_cr_sub {σ : St} {r : Nat → Nat} {h g s : Nat} (hs : ∀ l, g.testBit l = true → h.testBit l = true) (k : Nat) : q_cr σ r g s k ≤ q_cr σ r h s k := by
  refine q_sum_le (fun j _ => ?_)
  by_cases e : g.testBit (r j) = true ∧ σ 1 (r j) = s
  · rw [if_pos e, if_pos ⟨hs _ e.1, e.2⟩]
    exact Nat.le_refl _
  · rw [if_neg e]
    exact Nat.zero_le _
/-- is the lot at the place k taken -/
def q_tk (σ : St) (r : Nat → Nat) (rest : Nat) (nd : Nat → Nat) (k : Nat) : Prop := rest.testBit (r k) = true ∧ q_cr σ r rest (σ 1 (r k)) k < nd (σ 1 (r k))
def q_hp (σ : St) (r : Nat → Nat) (rest : Nat) (nd : Nat → Nat) : Nat → Nat
  | 0 => 0
  | k + 1 => if rest.testBit (r k) = true ∧ q_cr σ r rest (σ 1 (r k)) k < nd (σ 1 (r k)) then q_hp σ r rest nd k ||| 2 ^ r k else q_hp σ r rest nd k
def q_tw (σ : St) (r w : Nat → Nat) (rest : Nat) (nd : Nat → Nat) (s : Nat) : Nat → Nat
  | 0 => 0
  | k + 1 => q_tw σ r w rest nd s k + (if (rest.testBit (r k) = true ∧ q_cr σ r rest (σ 1 (r k)) k < nd (σ 1 (r k))) ∧ σ 1 (r k) = s then w (r k) else 0)
theorem q_tc {σ : St} {r : Nat → Nat} {rest : Nat} {nd : Nat → Nat} {s : Nat} : ∀ k, q_tw σ r (fun _ => 1) rest nd s k = min (nd s) (q_cr σ r rest s k)
  | 0 => by
    have e1 : q_cr σ r rest s 0 = 0 := rfl
    rw [e1]
    show 0 = _
    omega
  | k + 1 => by
    have ih := q_tc (σ := σ) (r := r) (rest := rest) (nd := nd) (s := s) k
    rw [q_tw, q_cr_s, ih]
    by_cases e : σ 1 (r k) = s
    · subst e
      by_cases e2 : rest.testBit (r k) = true
      · by_cases e3 : q_cr σ r rest (σ 1 (r k)) k < nd (σ 1 (r k))
        · rw [if_pos ⟨⟨e2, e3⟩, rfl⟩, if_pos ⟨e2, rfl⟩]
          omega
        · rw [if_neg (fun z => e3 z.1.2), if_pos ⟨e2, rfl⟩]
          omega
      · rw [if_neg (fun z => e2 z.1.1), if_neg (fun z => e2 z.1)]
        omega
    · rw [if_neg (fun z => e z.2), if_neg (fun z => e z.2)]
      omega
theorem q_hp_bit {σ : St} {r : Nat → Nat} {rest : Nat} {nd : Nat → Nat} {l : Nat} : ∀ k, (q_hp σ r rest nd k).testBit l = true ↔ ∃ j, j < k ∧ r j = l ∧ q_tk σ r rest nd j
  | 0 => by
    constructor
    · intro h
      have e : q_hp σ r rest nd 0 = 0 := rfl
      rw [e, Nat.zero_testBit] at h
      cases h
    · rintro ⟨j, hj, _⟩
      exact absurd hj (Nat.not_lt_zero j)
  | k + 1 => by
    have ih := q_hp_bit (σ := σ) (r := r) (rest := rest) (nd := nd) (l := l) k
    rw [q_hp]
    by_cases e : rest.testBit (r k) = true ∧ q_cr σ r rest (σ 1 (r k)) k < nd (σ 1 (r k))
    · rw [if_pos e, or_bit, Bool.or_eq_true, ih, decide_eq_true_eq]
      constructor
      · rintro (⟨j, hj, a, b⟩ | h)
        · exact ⟨j, by omega, a, b⟩
        · exact ⟨k, by omega, h, e⟩
      · rintro ⟨j, hj, a, b⟩
        by_cases z : j = k
        · subst z; exact Or.inr a
        · exact Or.inl ⟨j, by omega, a, b⟩
    · rw [if_neg e, ih]
      constructor
      · rintro ⟨j, hj, a, b⟩
        exact ⟨j, by omega, a, b⟩
      · rintro ⟨j, hj, a, b⟩
        by_cases z : j = k
        · subst z; exact absurd b e
        · exact ⟨j, by omega, a, b⟩
theorem q_hp_sub {σ : St} {r : Nat → Nat} {rest : Nat} {nd : Nat → Nat} {l k : Nat} (h : (q_hp σ r rest nd k).testBit l = true) : rest.testBit l = true := by
  obtain ⟨j, _, a, b⟩ := (q_hp_bit k).1 h
  rw [← a]
  exact b.1
/-- what is taken, by its bits -/
theorem q_hp_ws {σ : St} {r w : Nat → Nat} {rest : Nat} {nd : Nat → Nat} {s n : Nat} (hr : ∀ i j, i < n → j < n → r i = r j → i = j) : ∀ k, k ≤ n → q_ws σ r w (q_hp σ r rest nd n) s k = q_tw σ r w rest nd s k
  | 0, _ => rfl
  | k + 1, hk => by
    have ih := q_hp_ws (σ := σ) (w := w) (rest := rest) (nd := nd) (s := s) hr k (by omega)
    rw [q_ws_s, q_tw, ih]
    congr 1
    have hb : (q_hp σ r rest nd n).testBit (r k) = true ↔ q_tk σ r rest nd k := by
      rw [q_hp_bit]
      constructor
      · rintro ⟨j, hj, a, b⟩
        have := hr j k hj (by omega) a
        subst this
        exact b
      · intro h
        exact ⟨k, by omega, rfl, h⟩
    by_cases e : (rest.testBit (r k) = true ∧ q_cr σ r rest (σ 1 (r k)) k < nd (σ 1 (r k))) ∧ σ 1 (r k) = s
    · rw [if_pos ⟨hb.2 e.1, e.2⟩, if_pos e]
    · rw [if_neg (fun z => e ⟨hb.1 z.1, z.2⟩), if_neg e]
/-- no heap that has as many weighs less -/
theorem q_greedy {σ : St} {r w : Nat → Nat} {rest h : Nat} {nd : Nat → Nat} {s n : Nat} (hw : ∀ i j, i < j → j < n → w (r i) ≤ w (r j)) (hh : ∀ l, h.testBit l = true → rest.testBit l = true) : ∀ k, k ≤ n → ∀ v, (∀ j, j < k → w (r j) ≤ v) → q_tw σ r w rest nd s k ≤ q_ws σ r w h s k + (min (nd s) (q_cr σ r rest s k) - min (nd s) (q_cr σ r h s k)) * v
  | 0, _, v, _ => Nat.zero_le _
  | k + 1, hk, v, hv => by
    have ih := q_greedy (σ := σ) (nd := nd) (s := s) hw hh k (by omega) (w (r k)) (fun j hj => hw j k hj (by omega))
    have hs := q_cr_sub (σ := σ) (r := r) (s := s) hh k
    have hvk := hv k (by omega)
    rw [q_tw, q_ws_s, q_cr_s, q_cr_s]
    generalize q_tw σ r w rest nd s k = P at ih ⊢
    generalize q_ws σ r w h s k = H at ih ⊢
    by_cases e : σ 1 (r k) = s
    · subst e
      have hx := hh (r k)
      generalize q_cr σ r rest (σ 1 (r k)) k = x at ih hs ⊢
      generalize q_cr σ r h (σ 1 (r k)) k = y at ih hs ⊢
      generalize nd (σ 1 (r k)) = N at ih ⊢
      have mm : ∀ a b : Nat, a ≤ b → a * w (r k) ≤ b * v := fun a b hab => Nat.mul_le_mul hab hvk
      by_cases e2 : rest.testBit (r k) = true
      · by_cases e4 : h.testBit (r k) = true
        · by_cases e3 : x < N
          · rw [if_pos ⟨⟨e2, e3⟩, rfl⟩, if_pos ⟨e4, rfl⟩, if_pos ⟨e2, rfl⟩, if_pos ⟨e4, rfl⟩]
            have := mm (min N x - min N y) (min N (x + 1) - min N (y + 1)) (by omega)
            omega
          · rw [if_neg (fun z => e3 z.1.2), if_pos ⟨e4, rfl⟩, if_pos ⟨e2, rfl⟩, if_pos ⟨e4, rfl⟩]
            have h1 : min N x - min N y ≤ (min N (x + 1) - min N (y + 1)) + 1 := by omega
            have h2 : (min N x - min N y) * w (r k) ≤ ((min N (x + 1) - min N (y + 1)) + 1) * w (r k) := Nat.mul_le_mul_right _ h1
            rw [Nat.add_mul, Nat.one_mul] at h2
            have := mm (min N (x + 1) - min N (y + 1)) (min N (x + 1) - min N (y + 1)) (Nat.le_refl _)
            omega
        · by_cases e3 : x < N
          · rw [if_pos ⟨⟨e2, e3⟩, rfl⟩, if_neg (fun z => e4 z.1), if_pos ⟨e2, rfl⟩, if_neg (fun z => e4 z.1)]
            have := mm ((min N x - min N y) + 1) (min N (x + 1) - min N (y + 0)) (by omega)
            rw [Nat.add_mul, Nat.one_mul] at this
            omega
          · rw [if_neg (fun z => e3 z.1.2), if_neg (fun z => e4 z.1), if_pos ⟨e2, rfl⟩, if_neg (fun z => e4 z.1)]
            have := mm (min N x - min N y) (min N (x + 1) - min N (y + 0)) (by omega)
            omega
      · have e4 : ¬ h.testBit (r k) = true := fun z => e2 (hx z)
        rw [if_neg (fun z => e2 z.1.1), if_neg (fun z => e4 z.1), if_neg (fun z => e2 z.1), if_neg (fun z => e4 z.1)]
        have := mm (min N x - min N y) (min N (x + 0) - min N (y + 0)) (by omega)
        omega
    · rw [if_neg (fun z => e z.2), if_neg (fun z => e z.2), if_neg (fun z => e z.2), if_neg (fun z => e z.2)]
      have := Nat.mul_le_mul_left (min (nd s) (q_cr σ r rest s k) - min (nd s) (q_cr σ r h s k)) hvk
      simp only [Nat.add_zero]
      omega
/-- the row has every lot once -/
def q_pm (n : Nat) (r : Nat → Nat) : Prop := (∀ j, j < n → r j < n) ∧ (∀ i j, i < n → j < n → r i = r j → i = j) ∧ ∀ f : Nat → Nat, q_sum (fun j => f (r j)) n = q_sum f n
theorem q_pm_id (n : Nat) : q_pm n (fun j => j) := ⟨fun j hj => hj, fun i j _ _ e => e, fun f => rfl⟩
theorem q_ws_pm {σ : St} {r w : Nat → Nat} {n h s : Nat} (hr : q_pm n r) : q_ws σ r w h s n = q_ws σ (fun j => j) w h s n := hr.2.2 (fun l => if h.testBit l = true ∧ σ 1 l = s then w l else 0)
theorem q_cr_pm {σ : St} {r : Nat → Nat} {h s : Nat} (hr : q_pm (σ 0 0) r) : q_cr σ r h s (σ 0 0) = n_cnt σ h s := by
  have e : q_cr σ r h s (σ 0 0) = q_cr σ (fun j => j) h s (σ 0 0) := q_ws_pm hr
  rw [e]
  exact q_cr_id _
/-- weight of a heap -/
def q_wt (σ : St) (w : Nat → Nat) (h : Nat) : Nat := q_sum (fun l => if h.testBit l = true then w l else 0) (σ 0 0)
theorem q_wt_s {σ : St} (hw : Wf σ) {w : Nat → Nat} {h : Nat} : q_wt σ w h = q_ws σ (fun j => j) w h 0 (σ 0 0) + q_ws σ (fun j => j) w h 1 (σ 0 0) + q_ws σ (fun j => j) w h 2 (σ 0 0) + q_ws σ (fun j => j) w h 3 (σ 0 0) + q_ws σ (fun j => j) w h 4 (σ 0 0) := by
  have key : ∀ n, n ≤ σ 0 0 → q_sum (fun l => if h.testBit l = true then w l else 0) n = q_ws σ (fun j => j) w h 0 n + q_ws σ (fun j => j) w h 1 n + q_ws σ (fun j => j) w h 2 n + q_ws σ (fun j => j) w h 3 n + q_ws σ (fun j => j) w h 4 n := by
    intro n
    induction n with
    | zero => intro _; rfl
    | succ n ih =>
      intro hn
      have hs := (hw.2.1 n (by omega)).1
      rw [q_sum, ih (by omega), q_ws_s, q_ws_s, q_ws_s, q_ws_s, q_ws_s]
      by_cases e : h.testBit n = true
      · rcases (show σ 1 n = 0 ∨ σ 1 n = 1 ∨ σ 1 n = 2 ∨ σ 1 n = 3 ∨ σ 1 n = 4 by omega) with z | z | z | z | z <;> simp [e, z] <;> omega
      · simp [e]
  exact key _ (Nat.le_refl _)
/-- what is picked -/
def q_pk (σ : St) (r : Nat → Nat) (rest : Nat) (nd : Nat → Nat) : Nat := q_hp σ r rest nd (σ 0 0)
theorem q_pk_cnt {σ : St} {r : Nat → Nat} {rest : Nat} {nd : Nat → Nat} {s : Nat} (hr : q_pm (σ 0 0) r) (h : nd s ≤ n_cnt σ rest s) : n_cnt σ (q_pk σ r rest nd) s = nd s := by
  have e1 := q_hp_ws (σ := σ) (w := fun _ => 1) (rest := rest) (nd := nd) (s := s) hr.2.1 (σ 0 0) (Nat.le_refl _)
  rw [q_tc, q_cr_pm hr] at e1
  have e2 : q_ws σ r (fun _ => 1) (q_hp σ r rest nd (σ 0 0)) s (σ 0 0) = n_cnt σ (q_pk σ r rest nd) s := q_cr_pm hr
  omega
theorem q_pk_min {σ : St} (hwf : Wf σ) {r w : Nat → Nat} {rest h : Nat} {nd : Nat → Nat} (hr : q_pm (σ 0 0) r) (hw : ∀ i j, i < j → j < σ 0 0 → w (r i) ≤ w (r j)) (hh : ∀ l, h.testBit l = true → rest.testBit l = true) (hc : ∀ s, s < 5 → nd s ≤ n_cnt σ h s) : q_wt σ w (q_pk σ r rest nd) ≤ q_wt σ w h := by
  have one : ∀ s, s < 5 → q_ws σ (fun j => j) w (q_pk σ r rest nd) s (σ 0 0) ≤ q_ws σ (fun j => j) w h s (σ 0 0) := by
    intro s hs
    have e1 := q_hp_ws (σ := σ) (w := w) (rest := rest) (nd := nd) (s := s) hr.2.1 (σ 0 0) (Nat.le_refl _)
    have e2 := q_ws_pm (σ := σ) (w := w) (h := q_pk σ r rest nd) (s := s) hr
    have e3 := q_ws_pm (σ := σ) (w := w) (h := h) (s := s) hr
    have g := q_greedy (σ := σ) (nd := nd) (s := s) hw hh (σ 0 0) (Nat.le_refl _) (q_sum (fun j => w (r j)) (σ 0 0)) (fun j hj => by
      have h1 := q_sum_mono (f := fun j => w (r j)) (n := j + 1) (m := σ 0 0) (by omega)
      rw [q_sum] at h1
      omega)
    rw [q_cr_pm hr, q_cr_pm hr] at g
    have h1 := hc s hs
    have h2 : n_cnt σ h s ≤ n_cnt σ rest s := by
      have := q_cr_sub (σ := σ) (r := fun j => j) (s := s) hh (σ 0 0)
      rw [q_cr_id, q_cr_id] at this
      exact this
    rw [show min (nd s) (n_cnt σ rest s) - min (nd s) (n_cnt σ h s) = 0 by omega, Nat.zero_mul, Nat.add_zero] at g
    rw [← e2, ← e3]
    have e4 : q_ws σ r w (q_pk σ r rest nd) s (σ 0 0) = q_tw σ r w rest nd s (σ 0 0) := e1
    rw [e4]
    exact g
  rw [q_wt_s hwf, q_wt_s hwf]
  have a0 := one 0 (by omega)
  have a1 := one 1 (by omega)
  have a2 := one 2 (by omega)
  have a3 := one 3 (by omega)
  have a4 := one 4 (by omega)
  omega
/-- a heap as the sum of its bits -/
theorem q_bits {h : Nat} : ∀ n, q_sum (fun l => if h.testBit l = true then 2 ^ l else 0) n = h % 2 ^ n
  | 0 => by
    rw [Nat.pow_zero, Nat.mod_one]
    rfl
  | n + 1 => by
    rw [q_sum, q_bits n, Nat.testBit_eq_decide_div_mod_eq, Nat.pow_succ]
    have e : h % (2 ^ n * 2) = h % 2 ^ n + 2 ^ n * (h / 2 ^ n % 2) := Nat.mod_mul
    rw [e]
    have h2 : h / 2 ^ n % 2 < 2 := Nat.mod_lt _ (by decide)
    rcases (show h / 2 ^ n % 2 = 0 ∨ h / 2 ^ n % 2 = 1 by omega) with q | q <;> simp [q]
theorem q_wt_bits {σ : St} {h : Nat} (hh : h < 2 ^ σ 0 0) : q_wt σ (fun l => 2 ^ l) h = h := by
  have := q_bits (h := h) (σ 0 0)
  rw [Nat.mod_eq_of_lt hh] at this
  exact this
theorem q_hp_lt {σ : St} {r : Nat → Nat} {rest : Nat} {nd : Nat → Nat} {n : Nat} (hr : ∀ j, j < n → r j < n) : ∀ k, k ≤ n → q_hp σ r rest nd k < 2 ^ n
  | 0, _ => Nat.pow_pos (by decide)
  | k + 1, hk => by
    have ih := q_hp_lt (σ := σ) (rest := rest) (nd := nd) hr k (by omega)
    rw [q_hp]
    split
    · exact Nat.or_lt_two_pow ih (Nat.pow_lt_pow_right (by decide) (hr k (by omega)))
    · exact ih
/-- behind the last that is open nothing is taken -/
theorem q_hp_end {σ : St} {r : Nat → Nat} {rest : Nat} {nd : Nat → Nat} {n k : Nat} (hr : ∀ j, j < n → r j < n ∧ σ 1 (r j) < 5) (h : ∀ s, s < 5 → nd s ≤ q_cr σ r rest s k) : ∀ d, k + d ≤ n → q_hp σ r rest nd (k + d) = q_hp σ r rest nd k
  | 0, _ => rfl
  | d + 1, hd => by
    have ih := q_hp_end hr h d (by omega)
    rw [show k + (d + 1) = (k + d) + 1 by omega, q_hp, if_neg, ih]
    rintro ⟨_, z⟩
    have h1 := h _ (hr (k + d) (by omega)).2
    have h2 := q_cr_mono (σ := σ) (r := r) (h := rest) (s := σ 1 (r (k + d))) (n := k) (m := k + d) (by omega)
    omega
theorem b_f15 {x t : Nat} : x &&& 15 * 2 ^ t = 0 ↔ x / 2 ^ t % 16 = 0 := by
  have hp : 0 < 2 ^ t := Nat.pow_pos (by decide)
  have e1 : (x &&& 15 * 2 ^ t) / 2 ^ t = x / 2 ^ t % 16 := by
    rw [Nat.and_div_two_pow, Nat.mul_div_cancel _ hp]
    exact Nat.and_two_pow_sub_one_eq_mod (x / 2 ^ t) 4
  have e2 : (x &&& 15 * 2 ^ t) % 2 ^ t = 0 := by
    rw [Nat.and_mod_two_pow, Nat.mul_mod_left, Nat.and_zero]
  constructor
  · intro h
    rw [h, Nat.zero_div] at e1
    exact e1.symm
  · intro h
    rw [h] at e1
    have := Nat.div_add_mod (x &&& 15 * 2 ^ t) (2 ^ t)
    rw [e1, e2, Nat.mul_zero] at this
    exact this.symm
theorem pack_0 {c : Nat → Nat} : n_pack c = 0 ↔ ∀ s, s < 5 → c s = 0 := by
  unfold n_pack
  constructor
  · intro h s hs
    rcases (show s = 0 ∨ s = 1 ∨ s = 2 ∨ s = 3 ∨ s = 4 by omega) with e | e | e | e | e <;> subst e <;> omega
  · intro h
    rw [h 0 (by omega), h 1 (by omega), h 2 (by omega), h 3 (by omega), h 4 (by omega)]
theorem pack_sub {c d : Nat → Nat} {s0 : Nat} (h0 : s0 < 5) (h : c s0 = d s0 + 1) (hs : ∀ s, s < 5 → s ≠ s0 → c s = d s) : n_pack c = n_pack d + 2 ^ (5 * s0) := by
  unfold n_pack
  rcases (show s0 = 0 ∨ s0 = 1 ∨ s0 = 2 ∨ s0 = 3 ∨ s0 = 4 by omega) with e | e | e | e | e <;> subst e
  · have a1 := hs 1 (by omega) (by omega); have a2 := hs 2 (by omega) (by omega); have a3 := hs 3 (by omega) (by omega); have a4 := hs 4 (by omega) (by omega); omega
  · have a1 := hs 0 (by omega) (by omega); have a2 := hs 2 (by omega) (by omega); have a3 := hs 3 (by omega) (by omega); have a4 := hs 4 (by omega) (by omega); omega
  · have a1 := hs 0 (by omega) (by omega); have a2 := hs 1 (by omega) (by omega); have a3 := hs 3 (by omega) (by omega); have a4 := hs 4 (by omega) (by omega); omega
  · have a1 := hs 0 (by omega) (by omega); have a2 := hs 1 (by omega) (by omega); have a3 := hs 2 (by omega) (by omega); have a4 := hs 4 (by omega) (by omega); omega
  · have a1 := hs 0 (by omega) (by omega); have a2 := hs 1 (by omega) (by omega); have a3 := hs 2 (by omega) (by omega); have a4 := hs 3 (by omega) (by omega); omega
/-- enough of each sort in the row -/
def q_en (σ : St) (c nd : Nat → Nat) : Prop := nd 0 ≤ c 0 ∧ nd 1 ≤ c 1 ∧ nd 2 ≤ c 2 ∧ nd 3 ≤ c 3 ∧ nd 4 ≤ c 4
theorem q_en_all {σ : St} {c nd : Nat → Nat} : q_en σ c nd ↔ ∀ s, s < 5 → nd s ≤ c s := by
  unfold q_en
  constructor
  · intro h s hs
    rcases (show s = 0 ∨ s = 1 ∨ s = 2 ∨ s = 3 ∨ s = 4 by omega) with e | e | e | e | e <;> subst e <;> omega
  · intro h
    exact ⟨h 0 (by omega), h 1 (by omega), h 2 (by omega), h 3 (by omega), h 4 (by omega)⟩
theorem kc_pick {σ : St} {M : mM} {q2 rest : Nat} {r nd : Nat → Nat} (hwf : Wf σ) (hL : HL σ M) (hq : m_sh q2 = (20, 8)) (hr : q_pm (σ 0 0) r) (hM : ∀ j, j < σ 0 0 → M q2 j = r j) (hn : ∀ s, s < 5 → nd s < 16) (hrest : rest < 2 ^ 31) : C_ kk_X6_pick [v_P 1, v_I (n_pack nd : Int), v_P q2, v_I (rest : Int)] M (fun x M' => M' = M ∧ (q_en σ (n_cnt σ rest) nd → x = q_pk σ r rest nd) ∧ (¬ q_en σ (n_cnt σ rest) nd → x = -6)) := by
  have hn8 := hwf.1
  have hr5 : ∀ j, j < σ 0 0 → r j < σ 0 0 ∧ σ 1 (r j) < 5 := fun j hj => ⟨hr.1 j hj, (hwf.2.1 _ (hr.1 j hj)).1⟩
  refine c_intro (by decide) rfl (Nat.le_of_ble_eq_true rfl) (by simp [m_dv, Value.category]) (wp_X6_pick_0 hq ?_)
  have stop : ∀ k, k ≤ σ 0 0 → n_pack (fun s => nd s - q_cr σ r rest s k) = 0 → q_en σ (n_cnt σ rest) nd ∧ q_hp σ r rest nd k = q_pk σ r rest nd := by
    intro k hk h0
    have h1 : ∀ s, s < 5 → nd s ≤ q_cr σ r rest s k := fun s hs => by
      have := (pack_0.1 h0) s hs
      omega
    refine ⟨q_en_all.2 (fun s hs => ?_), ?_⟩
    · have a := h1 s hs
      have b := q_cr_mono (σ := σ) (r := r) (h := rest) (s := s) hk
      rw [q_cr_pm hr] at b
      omega
    · have := q_hp_end (n := σ 0 0) hr5 h1 (σ 0 0 - k) (by omega)
      rw [show k + (σ 0 0 - k) = σ 0 0 by omega] at this
      exact this.symm
  have loop : ∀ (m k : Nat), k + m = σ 0 0 → X_ kk_X6_pick 9 [v_P 1, v_U, v_P q2, v_I (rest : Int), v_I (q_hp σ r rest nd k : Int), v_I (n_pack (fun s => nd s - q_cr σ r rest s k) : Int), v_I (k : Int), v_U] [] M (fun x M' => M' = M ∧ (q_en σ (n_cnt σ rest) nd → x = q_pk σ r rest nd) ∧ (¬ q_en σ (n_cnt σ rest) nd → x = -6)) := by
    intro m
    induction m with
    | zero =>
      intro k hk
      have ek : k = σ 0 0 := by omega
      refine wp_X6_pick_9 hq ?_
      rw [hL.1]
      refine ⟨fun _ => ⟨fun y => ⟨rfl, fun z => absurd ?_ y, fun _ => rfl⟩, fun y => ?_⟩, fun y => absurd y (by omega)⟩
      · have : n_pack (fun s => nd s - q_cr σ r rest s k) = 0 := pack_0.2 (fun s hs => by
          have := q_en_all.1 z s hs
          rw [ek, q_cr_pm hr]
          omega)
        rw [this]
        rfl
      · obtain ⟨a, b⟩ := stop k (by omega) (by omega)
        rw [b]
        exact ⟨rfl, fun _ => rfl, fun z => absurd a z⟩
    | succ m ih =>
      intro k hk
      have hkn : k < σ 0 0 := by omega
      obtain ⟨r1, r2⟩ := hr5 k hkn
      have nx := ih (k + 1) (by omega)
      have ho : ∀ s, s < 5 → nd s - q_cr σ r rest s k < 16 := fun s hs => by have := hn s hs; omega
      have hpk := g_lt ho
      have hhp := q_hp_lt (σ := σ) (rest := rest) (nd := nd) hr.1 k (by omega)
      have p8 := pow8 hwf
      have hp2 : 2 ^ (5 * σ 1 (r k)) ≤ 2 ^ 20 := Nat.pow_le_pow_right (by decide) (by omega)
      refine wp_X6_pick_9 hq ?_
      rw [hL.1, Int.toNat_natCast, hM k hkn, Int.toNat_natCast, (hL.2 (r k) r1).1]
      refine ⟨fun y => absurd y (by omega), fun _ => ⟨fun y => ⟨fun z => absurd y z, fun _ => ?_⟩, fun y => ⟨by omega, fun q => ⟨⟨by omega, by omega⟩, ?_⟩, fun q => ?_⟩⟩⟩
      · obtain ⟨a, b⟩ := stop k (by omega) (by omega)
        rw [b]
        exact ⟨rfl, fun _ => rfl, fun z => absurd a z⟩
      · have hb := (b_bit0 (by omega) hrest).1 q
        have e1 : q_hp σ r rest nd (k + 1) = q_hp σ r rest nd k := by rw [q_hp, if_neg (fun z => by rw [hb] at z; cases z.1)]
        have e2 : (fun s => nd s - q_cr σ r rest s (k + 1)) = (fun s => nd s - q_cr σ r rest s k) := by
          funext s
          rw [q_cr_s, if_neg (fun z => by rw [hb] at z; cases z.1)]
          rfl
        rw [e1, e2] at nx
        exact nx
      · have hb : rest.testBit (r k) = true := by
          cases hz : rest.testBit (r k)
          · exact absurd ((b_bit0 (by omega) hrest).2 hz) q
          · rfl
        have ei : (15 : Int) * ((2 ^ (5 * σ 1 (r k)) : Nat) : Int) = ((15 * 2 ^ (5 * σ 1 (r k)) : Nat) : Int) := by omega
        rw [ei, b_and (by omega)]
        have hdig := pk_digit ho r2
        have hz : ((n_pack (fun s => nd s - q_cr σ r rest s k) &&& 15 * 2 ^ (5 * σ 1 (r k)) : Nat) : Int) = 0 ↔ nd (σ 1 (r k)) - q_cr σ r rest (σ 1 (r k)) k = 0 := by
          rw [← hdig, ← b_f15]
          omega
        refine ⟨by omega, ⟨by omega, by omega⟩, fun q2 => ⟨⟨by omega, by omega⟩, ?_⟩, fun q2 => ?_⟩
        · have h0 := hz.1 q2
          have e1 : q_hp σ r rest nd (k + 1) = q_hp σ r rest nd k := by rw [q_hp, if_neg (fun z => by omega)]
          have e2 : n_pack (fun s => nd s - q_cr σ r rest s (k + 1)) = n_pack (fun s => nd s - q_cr σ r rest s k) := by
            congr 1
            funext s
            rw [q_cr_s]
            by_cases e : σ 1 (r k) = s
            · subst e
              rw [if_pos ⟨hb, rfl⟩]
              omega
            · rw [if_neg (fun z => e z.2)]
              rfl
          rw [e1, e2] at nx
          exact nx
        · have h0 : nd (σ 1 (r k)) - q_cr σ r rest (σ 1 (r k)) k ≠ 0 := fun z => q2 (hz.2 z)
          have e1 : q_hp σ r rest nd (k + 1) = q_hp σ r rest nd k ||| 2 ^ r k := by rw [q_hp, if_pos ⟨hb, by omega⟩]
          have e2 : n_pack (fun s => nd s - q_cr σ r rest s k) = n_pack (fun s => nd s - q_cr σ r rest s (k + 1)) + 2 ^ (5 * σ 1 (r k)) := by
            refine pack_sub r2 ?_ (fun s hs hne => ?_)
            · rw [q_cr_s, if_pos ⟨hb, rfl⟩]
              omega
            · rw [q_cr_s, if_neg (fun z => hne z.2.symm)]
              rfl
          have e3 : m_or (q_hp σ r rest nd k : Int) (m_shl 1 (r k : Int)) = ((q_hp σ r rest nd k ||| 2 ^ r k : Nat) : Int) := by
            rw [b_shl1 (by omega), b_or (by omega) (Nat.pow_lt_pow_right (by decide) (by omega))]
          rw [e1] at nx
          have e4 : (n_pack (fun s => nd s - q_cr σ r rest s k) : Int) - ((2 ^ (5 * σ 1 (r k)) : Nat) : Int) = (n_pack (fun s => nd s - q_cr σ r rest s (k + 1)) : Nat) := by omega
          rw [e3, e4]
          exact ⟨by omega, ⟨by omega, by omega⟩, ⟨by omega, by omega⟩, nx⟩
  have s0 := loop (σ 0 0) 0 (by omega)
  have e0 : (fun s => nd s - q_cr σ r rest s 0) = nd := by
    funext s
    show nd s - 0 = nd s
    omega
  rw [e0] at s0
  exact s0
