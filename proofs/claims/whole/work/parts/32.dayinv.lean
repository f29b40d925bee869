/-! what holds of D from event to event -/
theorem d_en_le {σ : St} {o : Nat → Nat} {T : Int} {k : Nat → Int} {D : dD} {c : Nat} (hT : 0 ≤ T) (h1 : D 1 c ≤ D 2 c) : d_en σ o T k D c ≤ T - (D 2 c - D 1 c) ∧ d_en σ o T k D c ≤ d_hi σ o k D c (σ 5 0) ∧ D 2 c ≤ d_et σ o T k D c ∧ d_et σ o T k D c ≤ D 2 c + T := by
  have h2 := d_hi_ge (σ := σ) (o := o) (k := k) (D := D) (c := c) (σ 5 0)
  have h3 : (0 : Int) ≤ σ 3 (o (D 0 c).toNat) := Int.natCast_nonneg _
  unfold d_et d_en
  refine ⟨by omega, by omega, by omega, by omega⟩
theorem ev_0 {σ : St} {o : Nat → Nat} {T : Int} {k : Nat → Int} {D : dD} {c i : Nat} : d_ev σ o T k D c 0 i = if i = c then (d_np σ o c ((D 0 c).toNat + 1) : Int) else D 0 i := rfl
theorem ev_1 {σ : St} {o : Nat → Nat} {T : Int} {k : Nat → Int} {D : dD} {c i : Nat} : d_ev σ o T k D c 1 i = if i = c then d_et σ o T k D c + 1 else D 1 i := rfl
theorem ev_2 {σ : St} {o : Nat → Nat} {T : Int} {k : Nat → Int} {D : dD} {c i : Nat} : d_ev σ o T k D c 2 i = if i = c then d_et σ o T k D c + 1 else max (D 2 i) (if i < c then d_et σ o T k D c + 1 else d_et σ o T k D c) := rfl
theorem ev_3 {σ : St} {o : Nat → Nat} {T : Int} {k : Nat → Int} {D : dD} {c i : Nat} : d_ev σ o T k D c 3 i = if (i : Int) = d_pr σ o T k D c (σ 5 0) then (((D 3 i).toNat ||| 2 ^ o (D 0 c).toNat : Nat) : Int) else D 3 i := rfl
theorem ev_4 {σ : St} {o : Nat → Nat} {T : Int} {k : Nat → Int} {D : dD} {c i : Nat} : d_ev σ o T k D c 4 i = if (i : Int) = d_pr σ o T k D c (σ 5 0) then D 4 i - d_en σ o T k D c else D 4 i := rfl
theorem ev_5 {σ : St} {o : Nat → Nat} {T : Int} {k : Nat → Int} {D : dD} {c i : Nat} : d_ev σ o T k D c 5 i = if i = o (D 0 c).toNat then d_pr σ o T k D c (σ 5 0) else D 5 i := rfl
theorem ev_6 {σ : St} {o : Nat → Nat} {T : Int} {k : Nat → Int} {D : dD} {c i : Nat} : d_ev σ o T k D c 6 i = if i = o (D 0 c).toNat then (if d_pr σ o T k D c (σ 5 0) < 0 then -6 else d_en σ o T k D c) else D 6 i := rfl
theorem ev_7 {σ : St} {o : Nat → Nat} {T : Int} {k : Nat → Int} {D : dD} {c i : Nat} : d_ev σ o T k D c 7 i = if i = o (D 0 c).toNat then d_et σ o T k D c else D 7 i := rfl
theorem d_ok_ev {σ : St} {o : Nat → Nat} {T : Int} {k : Nat → Int} {D : dD} {B : Int} {c : Nat} (hw : Wf σ) (ho : d_or σ o) (hT : 0 ≤ T) (hc : c < 3) (ha : D 0 c < σ 0 0) (h : d_ok σ o D B) (hmin : ∀ c', c' < 3 → D 0 c' < σ 0 0 → d_et σ o T k D c ≤ d_et σ o T k D c') : d_ok σ o (d_ev σ o T k D c) (B + T + 1) := by
  obtain ⟨h1, h2, h3⟩ := h
  have hn8 := hw.1
  obtain ⟨c1, c2, c3, c4, c5, c6⟩ := h1 c hc
  have het := d_en_le (σ := σ) (o := o) (k := k) (D := D) hT c5
  have hp : (D 0 c).toNat < σ 0 0 := by omega
  have hnp := d_np_spec (σ := σ) (o := o) (c := c) (p := (D 0 c).toNat + 1) (by omega)
  have hl := ho.1 _ hp
  have hcl := c3 ha
  have hpow : 2 ^ o (D 0 c).toNat < 2 ^ σ 0 0 := Nat.pow_lt_pow_right (by decide) hl
  have mono : ∀ c', D 0 c' ≤ d_ev σ o T k D c 0 c' := by
    intro c'
    rw [ev_0]
    split
    · rename_i e; subst e; omega
    · exact Int.le_refl _
  refine ⟨fun c' hc' => ?_, fun b hb => ?_, fun b l hb hl2 hbit => ?_⟩
  · rw [ev_0, ev_1, ev_2]
    by_cases e : c' = c
    · subst e
      simp only [if_true]
      refine ⟨by omega, by omega, fun z => ?_, by omega, by omega, by omega⟩
      rw [Int.toNat_natCast]
      exact hnp.2.2.1 (by omega)
    · rw [if_neg e, if_neg e, if_neg e]
      obtain ⟨d1, d2, d3, d4, d5, d6⟩ := h1 c' hc'
      refine ⟨d1, d2, d3, d4, by omega, ?_⟩
      split <;> omega
  · obtain ⟨e1, e2, e3, e4⟩ := h2 b hb
    rw [ev_3, ev_4]
    by_cases z : (b : Int) = d_pr σ o T k D c (σ 5 0)
    · rw [if_pos z, if_pos z]
      have hpr := d_pr_spec (σ := σ) (o := o) (T := T) (k := k) (D := D) (c := c) (σ 5 0)
      rcases hpr with a | ⟨a1, a2, a3, a4⟩
      · omega
      · rw [← z, Int.toNat_natCast] at a3
        have hre := (d_re_le (σ := σ) (o := o) (k := k) (c := c) e3).2
        have h0 : (0 : Int) ≤ σ 3 (o (D 0 c).toNat) := Int.natCast_nonneg _
        have hor : (D 3 b).toNat ||| 2 ^ o (D 0 c).toNat < 2 ^ σ 0 0 := Nat.or_lt_two_pow (by omega) hpow
        exact ⟨by omega, by omega, by omega, by omega⟩
    · rw [if_neg z, if_neg z]
      exact ⟨e1, e2, e3, e4⟩
  · rw [ev_3] at hbit
    have old : (D 3 b).toNat.testBit l = true → ∃ p, p < σ 0 0 ∧ o p = l ∧ (p : Int) < d_ev σ o T k D c 0 (σ 2 l) := by
      intro z
      obtain ⟨p, p1, p2, p3⟩ := h3 b l hb hl2 z
      exact ⟨p, p1, p2, by have := mono (σ 2 l); omega⟩
    by_cases z : (b : Int) = d_pr σ o T k D c (σ 5 0)
    · rw [if_pos z, Int.toNat_natCast, or_bit] at hbit
      by_cases y : o (D 0 c).toNat = l
      · refine ⟨(D 0 c).toNat, hp, y, ?_⟩
        rw [← y, hcl, ev_0, if_pos rfl]
        omega
      · rw [decide_eq_false y, Bool.or_false] at hbit
        exact old hbit
    · rw [if_neg z] at hbit
      exact old hbit
theorem d_free {σ : St} {o : Nat → Nat} {D : dD} {B : Int} {c b : Nat} (ho : d_or σ o) (h : d_ok σ o D B) (hc : c < 3) (hb : b < 6) (ha : D 0 c < σ 0 0) : (D 3 b).toNat.testBit (o (D 0 c).toNat) = false := by
  obtain ⟨c1, c2, c3, -⟩ := h.1 c hc
  cases hz : (D 3 b).toNat.testBit (o (D 0 c).toNat)
  · rfl
  · obtain ⟨p, p1, p2, p3⟩ := h.2.2 b _ hb (ho.1 _ (by omega)) hz
    rw [c3 ha] at p3
    have := ho.2 p (D 0 c).toNat p1 (by omega) p2
    omega
theorem d_ok_0 {σ : St} {o : Nat → Nat} : d_ok σ o (d_0 σ o) 0 := by
  have hp : 0 < 2 ^ σ 0 0 := Nat.pow_pos (by decide)
  refine ⟨fun c hc => ?_, fun b hb => ?_, fun b l hb hl hbit => ?_⟩
  · have hnp := d_np_spec (σ := σ) (o := o) (c := c) (p := 0) (Nat.zero_le _)
    have e0 : d_0 σ o 0 c = d_np σ o c 0 := rfl
    have e1 : d_0 σ o 1 c = 0 := rfl
    have e2 : d_0 σ o 2 c = 0 := rfl
    rw [e0, e1, e2, Int.toNat_natCast]
    exact ⟨by omega, by omega, fun z => hnp.2.2.1 (by omega), by omega, by omega, by omega⟩
  · have e3 : d_0 σ o 3 b = 0 := rfl
    have e4 : d_0 σ o 4 b = σ 6 b := rfl
    rw [e3, e4]
    exact ⟨by omega, by omega, by omega, by omega⟩
  · have e3 : d_0 σ o 3 b = 0 := rfl
    rw [e3] at hbit
    simp at hbit
theorem d_ok_go {σ : St} {o : Nat → Nat} {T : Int} {k : Nat → Int} (hw : Wf σ) (ho : d_or σ o) (hT : 0 ≤ T) : ∀ m : Nat, d_ok σ o (d_go σ o T k m) (m * (T + 1))
  | 0 => by
    have := d_ok_0 (σ := σ) (o := o)
    rw [show ((0 : Nat) : Int) * (T + 1) = 0 by simp]
    exact this
  | m + 1 => by
    have ih := d_ok_go (k := k) hw ho hT m
    have hB : ((m + 1 : Nat) : Int) * (T + 1) = (m : Int) * (T + 1) + T + 1 := by
      rw [Int.natCast_add, Int.add_mul]
      omega
    unfold d_go
    split
    · rw [hB]
      obtain ⟨h1, h2, h3⟩ := ih
      exact ⟨fun c hc => ⟨(h1 c hc).1, (h1 c hc).2.1, (h1 c hc).2.2.1, (h1 c hc).2.2.2.1, (h1 c hc).2.2.2.2.1, by have := (h1 c hc).2.2.2.2.2; omega⟩, h2, h3⟩
    · rename_i hz
      rw [hB]
      rcases d_nx_spec (σ := σ) (o := o) (T := T) (k := k) (D := d_go σ o T k m) (n := 3) with ⟨a1, a2⟩ | ⟨a1, a2, a3, a4⟩
      · exact absurd a1 hz
      · exact d_ok_ev hw ho hT (by omega) a3 ih (fun c' hc' hx => by rcases a4 c' hc' hx with y | y <;> omega)
/-- how many lots are still to come on a clock's or behind -/
def d_rm (σ : St) (o : Nat → Nat) (D : dD) : Nat → Nat
  | 0 => 0
  | p + 1 => d_rm σ o D p + (if D 0 (σ 2 (o p)) ≤ (p : Int) then 1 else 0)
theorem d_rm_le {σ : St} {o : Nat → Nat} {D : dD} : ∀ n, d_rm σ o D n ≤ n
  | 0 => Nat.le_refl _
  | n + 1 => by
    have := d_rm_le (σ := σ) (o := o) (D := D) n
    unfold d_rm
    split <;> omega
theorem d_rm_ev {σ : St} {o : Nat → Nat} {T : Int} {k : Nat → Int} {D : dD} {B : Int} {c : Nat} (hc : c < 3) (ha : D 0 c < σ 0 0) (h : d_ok σ o D B) : ∀ n, n ≤ σ 0 0 → d_rm σ o (d_ev σ o T k D c) n + (if D 0 c < (n : Int) then 1 else 0) = d_rm σ o D n
  | 0, _ => by
    have := (h.1 c hc).1
    rw [if_neg (by omega)]
    rfl
  | n + 1, hn => by
    have ih := d_rm_ev (T := T) (k := k) hc ha h n (by omega)
    obtain ⟨c1, c2, c3, -⟩ := h.1 c hc
    have hnp := d_np_spec (σ := σ) (o := o) (c := c) (p := (D 0 c).toNat + 1) (by omega)
    unfold d_rm
    rw [ev_0]
    by_cases e : σ 2 (o n) = c
    · rw [if_pos e, e]
      by_cases z : (n : Int) = D 0 c
      · rw [if_neg (by omega), if_pos (by omega), if_pos (by omega)]
        rw [if_neg (by omega)] at ih
        omega
      · by_cases y : (n : Int) < D 0 c
        · rw [if_neg (by omega), if_neg (by omega), if_neg (by omega)]
          rw [if_neg (by omega)] at ih
          omega
        · have hge : d_np σ o c ((D 0 c).toNat + 1) ≤ n := by
            rcases Nat.lt_or_ge n (d_np σ o c ((D 0 c).toNat + 1)) with w | w
            · exact absurd e (hnp.2.2.2 n (by omega) w)
            · exact w
          rw [if_pos (by omega), if_pos (by omega), if_pos (by omega)]
          rw [if_pos (by omega)] at ih
          omega
    · rw [if_neg e]
      have : ¬ (n : Int) = D 0 c := fun z => e (by
        have := c3 ha
        rw [← z, Int.toNat_natCast] at this
        exact this)
      by_cases y : D 0 c < (n : Int)
      · rw [if_pos y] at ih
        rw [if_pos (show D 0 c < ((n + 1 : Nat) : Int) by omega)]
        omega
      · rw [if_neg y] at ih
        rw [if_neg (show ¬ D 0 c < ((n + 1 : Nat) : Int) by omega)]
        omega
theorem d_rm_go {σ : St} {o : Nat → Nat} {T : Int} {k : Nat → Int} (hw : Wf σ) (ho : d_or σ o) (hT : 0 ≤ T) : ∀ m, m ≤ σ 0 0 → d_rm σ o (d_go σ o T k m) (σ 0 0) ≤ σ 0 0 - m
  | 0, _ => by
    have := d_rm_le (σ := σ) (o := o) (D := d_go σ o T k 0) (σ 0 0)
    omega
  | m + 1, hm => by
    have ih := d_rm_go (k := k) hw ho hT m (by omega)
    have hok := d_ok_go (k := k) hw ho hT m
    unfold d_go
    rcases d_nx_spec (σ := σ) (o := o) (T := T) (k := k) (D := d_go σ o T k m) (n := 3) with ⟨a1, a2⟩ | ⟨a1, a2, a3, a4⟩
    · rw [if_pos a1]
      have z : d_rm σ o (d_go σ o T k m) (σ 0 0) = 0 := by
        have key : ∀ n, n ≤ σ 0 0 → d_rm σ o (d_go σ o T k m) n = 0 := by
          intro n
          induction n with
          | zero => intro _; rfl
          | succ n ihn =>
            intro hn
            have h2 := (hw.2.1 (o n) (ho.1 n (by omega))).2.1
            have h3 := a2 _ h2
            unfold d_rm
            rw [ihn (by omega), if_neg (by omega)]
        exact key _ (Nat.le_refl _)
      omega
    · rw [if_neg (by omega)]
      have e := d_rm_ev (T := T) (k := k) (c := (d_nx σ o T k (d_go σ o T k m) 3).toNat) (by omega) a3 hok (σ 0 0) (Nat.le_refl _)
      rw [if_pos a3] at e
      omega
/-- at the DAY's end no lot is left -/
theorem d_done {σ : St} {o : Nat → Nat} {T : Int} {k : Nat → Int} (hw : Wf σ) (ho : d_or σ o) (hT : 0 ≤ T) : ∀ p, p < σ 0 0 → (p : Int) < d_end σ o T k 0 (σ 2 (o p)) := by
  have h := d_rm_go (k := k) hw ho hT (σ 0 0) (Nat.le_refl _)
  have h0 : d_rm σ o (d_end σ o T k) (σ 0 0) = 0 := by unfold d_end; omega
  have key : ∀ n, d_rm σ o (d_end σ o T k) n = 0 → ∀ p, p < n → (p : Int) < d_end σ o T k 0 (σ 2 (o p)) := by
    intro n
    induction n with
    | zero => intro _ p hp; omega
    | succ n ih =>
      intro hn p hp
      unfold d_rm at hn
      by_cases e : p = n
      · subst e
        by_cases z : d_end σ o T k 0 (σ 2 (o p)) ≤ (p : Int)
        · rw [if_pos z] at hn; omega
        · omega
      · exact ih (by omega) p (by omega)
  exact key _ h0
