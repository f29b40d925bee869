/-! THE DAY, event by event. D: 0 place of a clock in the order, 1 since when, 2 from when on it is to be looked at, 3 heaps, 4 coin left, 5 to whom a lot went, 6 for how much, 7 when -/
abbrev dD : Type := Nat → Nat → Int
def dp (σ : St) (o : Nat → Nat) (c : Nat) : Nat → Nat → Nat
  | 0, p => p
  | m + 1, p => if σ 2 (o p) = c then p else dp σ o c m (p + 1)
/-- the next place of a clock, from p on -/
def d_np (σ : St) (o : Nat → Nat) (c p : Nat) : Nat := dp σ o c (σ 0 0 - p) p
def d_bid (σ : St) (k : Nat → Int) (D : dD) (b l : Nat) : Int := Int.tdiv (((n_worth σ b ((D 3 b).toNat ||| 2 ^ l) : Int) - n_worth σ b (D 3 b).toNat) * k b) 100
def d_re (σ : St) (o : Nat → Nat) (k : Nat → Int) (D : dD) (c b : Nat) : Int := if d_bid σ k D b (o (D 0 c).toNat) < 1 then -1 else min (d_bid σ k D b (o (D 0 c).toNat)) (D 4 b)
def d_hi (σ : St) (o : Nat → Nat) (k : Nat → Int) (D : dD) (c : Nat) : Nat → Int
  | 0 => σ 3 (o (D 0 c).toNat)
  | b + 1 => max (d_hi σ o k D c b) (d_re σ o k D c b)
def d_en (σ : St) (o : Nat → Nat) (T : Int) (k : Nat → Int) (D : dD) (c : Nat) : Int := min (T - (D 2 c - D 1 c)) (d_hi σ o k D c (σ 5 0))
def d_et (σ : St) (o : Nat → Nat) (T : Int) (k : Nat → Int) (D : dD) (c : Nat) : Int := D 1 c + T - d_en σ o T k D c
def d_nx (σ : St) (o : Nat → Nat) (T : Int) (k : Nat → Int) (D : dD) : Nat → Int
  | 0 => -6
  | c + 1 => if D 0 c < σ 0 0 ∧ (d_nx σ o T k D c < 0 ∨ d_et σ o T k D c < d_et σ o T k D (d_nx σ o T k D c).toNat) then c else d_nx σ o T k D c
def d_pr (σ : St) (o : Nat → Nat) (T : Int) (k : Nat → Int) (D : dD) (c : Nat) : Nat → Int
  | 0 => -6
  | b + 1 => if (σ 3 (o (D 0 c).toNat) : Int) ≤ d_en σ o T k D c ∧ (d_pr σ o T k D c b < 0 ∨ σ 8 b < σ 8 (d_pr σ o T k D c b).toNat) ∧ d_en σ o T k D c ≤ d_re σ o k D c b then b else d_pr σ o T k D c b
/-- the event on the clock c -/
def d_ev (σ : St) (o : Nat → Nat) (T : Int) (k : Nat → Int) (D : dD) (c : Nat) : dD := fun f i =>
  if f = 0 then (if i = c then (d_np σ o c ((D 0 c).toNat + 1) : Int) else D 0 i)
  else if f = 1 then (if i = c then d_et σ o T k D c + 1 else D 1 i)
  else if f = 2 then (if i = c then d_et σ o T k D c + 1 else max (D 2 i) (if i < c then d_et σ o T k D c + 1 else d_et σ o T k D c))
  else if f = 3 then (if (i : Int) = d_pr σ o T k D c (σ 5 0) then (((D 3 i).toNat ||| 2 ^ o (D 0 c).toNat : Nat) : Int) else D 3 i)
  else if f = 4 then (if (i : Int) = d_pr σ o T k D c (σ 5 0) then D 4 i - d_en σ o T k D c else D 4 i)
  else if f = 5 then (if i = o (D 0 c).toNat then d_pr σ o T k D c (σ 5 0) else D 5 i)
  else if f = 6 then (if i = o (D 0 c).toNat then (if d_pr σ o T k D c (σ 5 0) < 0 then -6 else d_en σ o T k D c) else D 6 i)
  else if f = 7 then (if i = o (D 0 c).toNat then d_et σ o T k D c else D 7 i) else D f i
def d_0 (σ : St) (o : Nat → Nat) : dD := fun f i => if f = 0 then (d_np σ o i 0 : Int) else if f = 4 then (σ 6 i : Int) else 0
def d_go (σ : St) (o : Nat → Nat) (T : Int) (k : Nat → Int) : Nat → dD
  | 0 => d_0 σ o
  | m + 1 => if d_nx σ o T k (d_go σ o T k m) 3 < 0 then d_go σ o T k m else d_ev σ o T k (d_go σ o T k m) (d_nx σ o T k (d_go σ o T k m) 3).toNat
/-- the DAY's end -/
def d_end (σ : St) (o : Nat → Nat) (T : Int) (k : Nat → Int) : dD := d_go σ o T k (σ 0 0)
theorem dp_spec {σ : St} {o : Nat → Nat} {c : Nat} : ∀ {m p : Nat}, p + m = σ 0 0 → p ≤ dp σ o c m p ∧ dp σ o c m p ≤ σ 0 0 ∧ (dp σ o c m p < σ 0 0 → σ 2 (o (dp σ o c m p)) = c) ∧ ∀ j, p ≤ j → j < dp σ o c m p → σ 2 (o j) ≠ c
  | 0, p, h => ⟨Nat.le_refl _, by show p ≤ _; omega, fun z => absurd z (by show ¬ p < _; omega), fun j h1 h2 => absurd h2 (by show ¬ j < p; omega)⟩
  | m + 1, p, h => by
    have ih := dp_spec (σ := σ) (o := o) (c := c) (m := m) (p := p + 1) (by omega)
    unfold dp
    by_cases e : σ 2 (o p) = c
    · rw [if_pos e]
      exact ⟨Nat.le_refl _, by omega, fun _ => e, fun j h1 h2 => by omega⟩
    · rw [if_neg e]
      refine ⟨by omega, ih.2.1, ih.2.2.1, fun j h1 h2 => ?_⟩
      by_cases z : j = p
      · subst z; exact e
      · exact ih.2.2.2 j (by omega) h2
theorem d_np_spec {σ : St} {o : Nat → Nat} {c p : Nat} (h : p ≤ σ 0 0) : p ≤ d_np σ o c p ∧ d_np σ o c p ≤ σ 0 0 ∧ (d_np σ o c p < σ 0 0 → σ 2 (o (d_np σ o c p)) = c) ∧ ∀ j, p ≤ j → j < d_np σ o c p → σ 2 (o j) ≠ c := dp_spec (by omega)
/-- what an order is -/
def d_or (σ : St) (o : Nat → Nat) : Prop := (∀ p, p < σ 0 0 → o p < σ 0 0) ∧ ∀ i j, i < σ 0 0 → j < σ 0 0 → o i = o j → i = j
/-- what holds of D at every event -/
def d_ok (σ : St) (o : Nat → Nat) (D : dD) (B : Int) : Prop :=
  (∀ c, c < 3 → 0 ≤ D 0 c ∧ D 0 c ≤ σ 0 0 ∧ (D 0 c < σ 0 0 → σ 2 (o (D 0 c).toNat) = c) ∧ 0 ≤ D 1 c ∧ D 1 c ≤ D 2 c ∧ D 2 c ≤ B) ∧
  (∀ b, b < 6 → 0 ≤ D 3 b ∧ D 3 b < ((2 ^ σ 0 0 : Nat) : Int) ∧ 0 ≤ D 4 b ∧ D 4 b ≤ σ 6 b) ∧
  (∀ b l, b < 6 → l < σ 0 0 → (D 3 b).toNat.testBit l = true → ∃ p, p < σ 0 0 ∧ o p = l ∧ (p : Int) < D 0 (σ 2 l))
theorem n_worth_le {σ : St} (hw : Wf σ) {b h : Nat} (hb : b < 6) : n_worth σ b h ≤ 999 := n_wc_le hw hb _
theorem d_re_le {σ : St} {o : Nat → Nat} {k : Nat → Int} {D : dD} {c b : Nat} (h : 0 ≤ D 4 b) : -1 ≤ d_re σ o k D c b ∧ d_re σ o k D c b ≤ max (-1) (D 4 b) := by
  unfold d_re
  split
  · omega
  · omega
theorem d_hi_ge {σ : St} {o : Nat → Nat} {k : Nat → Int} {D : dD} {c : Nat} : ∀ n, (σ 3 (o (D 0 c).toNat) : Int) ≤ d_hi σ o k D c n
  | 0 => Int.le_refl _
  | n + 1 => by
    have := d_hi_ge (σ := σ) (o := o) (k := k) (D := D) (c := c) n
    unfold d_hi
    omega
theorem d_hi_le {σ : St} {o : Nat → Nat} {k : Nat → Int} {D : dD} {c : Nat} (h3 : σ 3 (o (D 0 c).toNat) ≤ 1000) (h : ∀ b, b < 6 → 0 ≤ D 4 b ∧ D 4 b ≤ 1000) : ∀ n, n ≤ 6 → d_hi σ o k D c n ≤ 1000
  | 0, _ => by show (σ 3 (o (D 0 c).toNat) : Int) ≤ 1000; omega
  | n + 1, hn => by
    have ih := d_hi_le (k := k) h3 h n (by omega)
    have hb := h n (by omega)
    have hr := (d_re_le (σ := σ) (o := o) (k := k) (c := c) hb.1).2
    unfold d_hi
    omega
theorem d_nx_spec {σ : St} {o : Nat → Nat} {T : Int} {k : Nat → Int} {D : dD} : ∀ {n : Nat}, (d_nx σ o T k D n < 0 ∧ ∀ c, c < n → ¬ D 0 c < σ 0 0) ∨ (0 ≤ d_nx σ o T k D n ∧ d_nx σ o T k D n < n ∧ D 0 (d_nx σ o T k D n).toNat < σ 0 0 ∧ ∀ c, c < n → D 0 c < σ 0 0 → d_et σ o T k D (d_nx σ o T k D n).toNat < d_et σ o T k D c ∨ (d_et σ o T k D (d_nx σ o T k D n).toNat = d_et σ o T k D c ∧ d_nx σ o T k D n ≤ c))
  | 0 => Or.inl ⟨by show (-6 : Int) < 0; decide, fun c hc => absurd hc (Nat.not_lt_zero c)⟩
  | n + 1 => by
    have ih := d_nx_spec (σ := σ) (o := o) (T := T) (k := k) (D := D) (n := n)
    unfold d_nx
    by_cases e : D 0 n < σ 0 0 ∧ (d_nx σ o T k D n < 0 ∨ d_et σ o T k D n < d_et σ o T k D (d_nx σ o T k D n).toNat)
    · rw [if_pos e]
      refine Or.inr ⟨by omega, by omega, by rw [Int.toNat_natCast]; exact e.1, fun c hc h => ?_⟩
      rw [Int.toNat_natCast]
      by_cases z : c = n
      · subst z
        exact Or.inr ⟨rfl, by omega⟩
      · rcases ih with ⟨a1, a2⟩ | ⟨a1, a2, a3, a4⟩
        · exact absurd h (a2 c (by omega))
        · rcases e.2 with q | q
          · omega
          · rcases a4 c (by omega) h with y | y
            · exact Or.inl (by omega)
            · exact Or.inl (by omega)
    · rw [if_neg e]
      rcases ih with ⟨a1, a2⟩ | ⟨a1, a2, a3, a4⟩
      · refine Or.inl ⟨a1, fun c hc => ?_⟩
        by_cases z : c = n
        · subst z
          exact fun y => e ⟨y, Or.inl a1⟩
        · exact a2 c (by omega)
      · refine Or.inr ⟨a1, by omega, a3, fun c hc h => ?_⟩
        by_cases z : c = n
        · subst z
          by_cases y : d_et σ o T k D c < d_et σ o T k D (d_nx σ o T k D c).toNat
          · exact absurd ⟨h, Or.inr y⟩ e
          · by_cases w : d_et σ o T k D (d_nx σ o T k D c).toNat = d_et σ o T k D c
            · exact Or.inr ⟨w, by omega⟩
            · exact Or.inl (by omega)
        · exact a4 c (by omega) h
theorem d_pr_spec {σ : St} {o : Nat → Nat} {T : Int} {k : Nat → Int} {D : dD} {c : Nat} : ∀ n, d_pr σ o T k D c n = -6 ∨ (0 ≤ d_pr σ o T k D c n ∧ d_pr σ o T k D c n < n ∧ d_en σ o T k D c ≤ d_re σ o k D c (d_pr σ o T k D c n).toNat ∧ (σ 3 (o (D 0 c).toNat) : Int) ≤ d_en σ o T k D c)
  | 0 => Or.inl rfl
  | n + 1 => by
    have ih := d_pr_spec (σ := σ) (o := o) (T := T) (k := k) (D := D) (c := c) n
    unfold d_pr
    split
    · rename_i e
      refine Or.inr ⟨by omega, by omega, ?_, e.1⟩
      rw [Int.toNat_natCast]
      exact e.2.2
    · rcases ih with a | ⟨a1, a2, a3, a4⟩
      · exact Or.inl a
      · exact Or.inr ⟨a1, by omega, a3, a4⟩
