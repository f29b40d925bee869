/-! BREAK, the pure part -/
def br_off (σ : St) (b : Nat) : Nat := q_sum (σ 9) b
def br_pt (σ : St) (s b : Nat) : Nat := s / 2 ^ br_off σ b % 2 ^ σ 9 b
/-- the state with the alternatives of s left out too -/
def br_sv (σ : St) (s : Nat) : St := fun f => if f = 12 then (fun b => σ 12 b ||| br_pt σ s b) else σ f
theorem br_pt_lt {σ : St} {s b : Nat} : br_pt σ s b < 2 ^ σ 9 b := Nat.mod_lt _ (Nat.pow_pos (by decide))
theorem br_wf {σ : St} {s : Nat} (h : Wf σ) : Wf (br_sv σ s) := by
  obtain ⟨g1, g2, g3, g4, g5, g6, g7, g8, g9, g10, g11, g12⟩ := h
  exact ⟨g1, g2, g3, g4, fun b hb => ⟨(g5 b hb).1, (g5 b hb).2.1, (g5 b hb).2.2.1, (g5 b hb).2.2.2.1, Nat.or_lt_two_pow (g5 b hb).2.2.2.2.1 br_pt_lt, (g5 b hb).2.2.2.2.2⟩, g6, g7, g8, g9, g10, g11, g12⟩
theorem br_wf2 {σ : St} {s : Nat} (h : Wf2 σ) : Wf2 (br_sv σ s) := h
theorem br_nz {σ : St} {s : Nat} : nz (br_sv σ s) = br_sv (nz σ) s := by
  funext f
  by_cases e : f = 12
  · subst e; rfl
  · have e1 : br_sv (nz σ) s f = nz σ f := by unfold br_sv; rw [if_neg e]
    have e2 : br_sv σ s f = σ f := by unfold br_sv; rw [if_neg e]
    rw [e1]
    unfold nz
    rw [e2]
def br_free (σ : St) (s : Nat) : Prop := ∀ b, b < σ 5 0 → br_pt σ s b &&& σ 12 b = 0
def br_fb (σ : St) (s : Nat) : Bool := decide ((∀ b, b < σ 5 0 → br_pt σ s b &&& σ 12 b = 0) ∧ k_mis (br_sv σ s) (k_rp (br_sv σ s) 300) = 0)
theorem br_fb_iff {σ : St} {s : Nat} : br_fb σ s = true ↔ br_free σ s ∧ k_mis (br_sv σ s) (k_rp (br_sv σ s) 300) = 0 := by
  unfold br_fb br_free
  exact decide_eq_true_iff
def br_on (s : Nat) : Nat := q_sum (fun i => if s.testBit i = true then 1 else 0) 8
def br_st (σ : St) : Nat → Int
  | 0 => -6
  | s + 1 => if br_fb σ s = true ∧ (br_st σ s < 0 ∨ br_on s < br_on (br_st σ s).toNat) then (s : Int) else br_st σ s
theorem br_st_sp {σ : St} : ∀ n, (br_st σ n = -6 ∧ ∀ s, s < n → ¬ br_fb σ s = true) ∨ (0 ≤ br_st σ n ∧ br_st σ n < n ∧ br_fb σ (br_st σ n).toNat = true ∧ ∀ s, s < n → br_fb σ s = true → br_on (br_st σ n).toNat < br_on s ∨ (br_on (br_st σ n).toNat = br_on s ∧ (br_st σ n).toNat ≤ s))
  | 0 => Or.inl ⟨rfl, fun s hs => absurd hs (Nat.not_lt_zero s)⟩
  | n + 1 => by
    have ih := br_st_sp (σ := σ) n
    have e : br_st σ (n + 1) = if br_fb σ n = true ∧ (br_st σ n < 0 ∨ br_on n < br_on (br_st σ n).toNat) then (n : Int) else br_st σ n := rfl
    rw [e]
    by_cases hf : br_fb σ n = true
    · rcases ih with ⟨a1, a2⟩ | ⟨a1, a2, a3, a4⟩
      · rw [if_pos ⟨hf, Or.inl (by omega)⟩]
        refine Or.inr ⟨by omega, by omega, by rw [Int.toNat_natCast]; exact hf, fun s hs hs2 => ?_⟩
        rw [Int.toNat_natCast]
        have : s = n := by
          by_cases q : s = n
          · exact q
          · exact absurd hs2 (a2 s (by omega))
        subst this
        exact Or.inr ⟨rfl, Nat.le_refl _⟩
      · by_cases ho : br_on n < br_on (br_st σ n).toNat
        · rw [if_pos ⟨hf, Or.inr ho⟩]
          refine Or.inr ⟨by omega, by omega, by rw [Int.toNat_natCast]; exact hf, fun s hs hs2 => ?_⟩
          rw [Int.toNat_natCast]
          by_cases q : s = n
          · subst q; exact Or.inr ⟨rfl, Nat.le_refl _⟩
          · have := a4 s (by omega) hs2
            omega
        · rw [if_neg (by omega)]
          refine Or.inr ⟨a1, by omega, a3, fun s hs hs2 => ?_⟩
          by_cases q : s = n
          · subst q; omega
          · exact a4 s (by omega) hs2
    · rw [if_neg (fun z => hf z.1)]
      rcases ih with ⟨a1, a2⟩ | ⟨a1, a2, a3, a4⟩
      · refine Or.inl ⟨a1, fun s hs => ?_⟩
        by_cases q : s = n
        · subst q; exact hf
        · exact a2 s (by omega)
      · refine Or.inr ⟨a1, by omega, a3, fun s hs hs2 => ?_⟩
        by_cases q : s = n
        · subst q; exact absurd hs2 hf
        · exact a4 s (by omega) hs2
theorem br_uni {σ : St} {n x : Nat} (hx : x < n) (hf : br_fb σ x = true) (hm : ∀ s, s < n → br_fb σ s = true → br_on x < br_on s ∨ (br_on x = br_on s ∧ x ≤ s)) : br_st σ n = x := by
  rcases br_st_sp (σ := σ) n with ⟨a1, a2⟩ | ⟨a1, a2, a3, a4⟩
  · exact absurd hf (a2 x hx)
  · have h1 := a4 x hx hf
    have h2 := hm (br_st σ n).toNat (by omega) a3
    omega
theorem br_on_le : ∀ a, a < 9 → ∀ s, s < 256 → s < 2 ^ a → br_on s ≤ a := by decide +kernel
theorem br_on_8 {s a : Nat} (ha : a ≤ 8) (h : s < 2 ^ a) : br_on s ≤ a := br_on_le a (by omega) s (Nat.lt_of_lt_of_le h (Nat.pow_le_pow_right (n := 2) (j := 8) (by decide) ha)) h
theorem br_and {s L o n : Nat} (hL : L < 2 ^ n) : s &&& (L * 2 ^ o) = 0 ↔ (s / 2 ^ o % 2 ^ n) &&& L = 0 := by
  rw [← Nat.shiftLeft_eq]
  constructor
  · intro h
    apply Nat.eq_of_testBit_eq
    intro i
    have := congrArg (fun x => x.testBit (i + o)) h
    simp only [Nat.testBit_and, Nat.zero_testBit, Nat.testBit_shiftLeft, Nat.add_sub_cancel] at this
    rw [decide_eq_true (by omega : i + o ≥ o), Bool.true_and] at this
    rw [Nat.testBit_and, Nat.zero_testBit, Nat.testBit_mod_two_pow, Nat.testBit_div_two_pow]
    rw [Bool.and_assoc, this, Bool.and_false]
  · intro h
    apply Nat.eq_of_testBit_eq
    intro j
    rw [Nat.testBit_and, Nat.zero_testBit, Nat.testBit_shiftLeft]
    by_cases hj : o ≤ j
    · have := congrArg (fun x => x.testBit (j - o)) h
      simp only [Nat.testBit_and, Nat.zero_testBit, Nat.testBit_mod_two_pow, Nat.testBit_div_two_pow] at this
      rw [show j - o + o = j by omega] at this
      rw [decide_eq_true (by omega : j ≥ o), Bool.true_and]
      by_cases hn : j - o < n
      · rw [decide_eq_true hn, Bool.true_and] at this
        exact this
      · have z : L.testBit (j - o) = false := Nat.testBit_lt_two_pow (Nat.lt_of_lt_of_le hL (Nat.pow_le_pow_right (by decide) (by omega)))
        rw [z, Bool.and_false]
    · rw [decide_eq_false (by omega : ¬ j ≥ o), Bool.false_and, Bool.and_false]
/-- what is left out already -/
def br_gn (σ : St) : Nat → Nat
  | 0 => 0
  | b + 1 => br_gn σ b ||| (σ 12 b * 2 ^ br_off σ b)
theorem br_off_s {σ : St} {b : Nat} : br_off σ (b + 1) = br_off σ b + σ 9 b := rfl
theorem br_off_mono {σ : St} {a b : Nat} (h : a ≤ b) : br_off σ a ≤ br_off σ b := q_sum_mono h
theorem br_l_lt {σ : St} (hw : Wf σ) {b : Nat} (hb : b < 6) : σ 12 b * 2 ^ br_off σ b < 2 ^ br_off σ (b + 1) := by
  rw [br_off_s, Nat.pow_add, Nat.mul_comm (2 ^ br_off σ b)]
  exact Nat.mul_lt_mul_of_pos_right (hw.2.2.2.2.1 b hb).2.2.2.2.1 (Nat.pow_pos (by decide))
theorem br_gn_lt {σ : St} (hw : Wf σ) : ∀ b, b ≤ 6 → br_gn σ b < 2 ^ br_off σ b
  | 0, _ => Nat.pow_pos (by decide)
  | b + 1, hb => by
    have ih := br_gn_lt hw b (by omega)
    have : 2 ^ br_off σ b ≤ 2 ^ br_off σ (b + 1) := Nat.pow_le_pow_right (by decide) (br_off_mono (by omega))
    exact Nat.or_lt_two_pow (Nat.lt_of_lt_of_le ih this) (br_l_lt hw (by omega))
theorem br_gn_free {σ : St} (hw : Wf σ) {s : Nat} : ∀ k, k ≤ 6 → (s &&& br_gn σ k = 0 ↔ ∀ b, b < k → br_pt σ s b &&& σ 12 b = 0)
  | 0, _ => ⟨fun _ b hb => absurd hb (Nat.not_lt_zero b), fun _ => Nat.and_zero s⟩
  | k + 1, hk => by
    have ih := br_gn_free hw (s := s) k (by omega)
    have e : br_gn σ (k + 1) = br_gn σ k ||| (σ 12 k * 2 ^ br_off σ k) := rfl
    have h1 : s &&& br_gn σ (k + 1) = 0 ↔ s &&& br_gn σ k = 0 ∧ s &&& (σ 12 k * 2 ^ br_off σ k) = 0 := by
      rw [e, Nat.and_or_distrib_left, Nat.or_eq_zero_iff]
    rw [h1, ih, br_and (hw.2.2.2.2.1 k (by omega)).2.2.2.2.1]
    constructor
    · intro ⟨a, b⟩ b' hb'
      by_cases q : b' = k
      · subst q; exact b
      · exact a b' (by omega)
    · intro a
      exact ⟨fun b hb => a b (by omega), a k (by omega)⟩
/-- a set can be made of its parts -/
theorem br_mk {σ : St} {p : Nat → Nat} (hp : ∀ b, p b < 2 ^ σ 9 b) : ∀ k, ∃ s, s < 2 ^ br_off σ k ∧ ∀ b, b < k → br_pt σ s b = p b
  | 0 => ⟨0, Nat.pow_pos (by decide), fun b hb => absurd hb (Nat.not_lt_zero b)⟩
  | k + 1 => by
    obtain ⟨s, hs, hb⟩ := br_mk hp k
    have pk := hp k
    have p0 : 0 < 2 ^ br_off σ k := Nat.pow_pos (by decide)
    refine ⟨s + p k * 2 ^ br_off σ k, ?_, fun b hb' => ?_⟩
    · rw [br_off_s, Nat.pow_add]
      have h1 : (p k + 1) * 2 ^ br_off σ k ≤ 2 ^ σ 9 k * 2 ^ br_off σ k := Nat.mul_le_mul_right _ pk
      rw [Nat.add_mul, Nat.one_mul, Nat.mul_comm (2 ^ σ 9 k)] at h1
      omega
    · unfold br_pt
      by_cases q : b = k
      · subst q
        rw [Nat.add_mul_div_right _ _ p0, Nat.div_eq_of_lt hs, Nat.zero_add, Nat.mod_eq_of_lt pk]
      · have hbk : b < k := by omega
        have hm : br_off σ b + σ 9 b ≤ br_off σ k := by
          rw [← br_off_s]
          exact br_off_mono hbk
        obtain ⟨d, hd⟩ : ∃ d, br_off σ k = d + σ 9 b + br_off σ b := ⟨br_off σ k - (br_off σ b + σ 9 b), by omega⟩
        have e : p k * 2 ^ br_off σ k = (p k * 2 ^ d * 2 ^ σ 9 b) * 2 ^ br_off σ b := by
          rw [hd, Nat.pow_add, Nat.pow_add, ← Nat.mul_assoc, ← Nat.mul_assoc]
        rw [e, Nat.add_mul_div_right _ _ (Nat.pow_pos (by decide)), Nat.add_mul_mod_self_right]
        exact hb b hbk
theorem br_wo {σ : St} {b : Nat} {c : Nat → Nat} : ∀ n, (∀ i, i < n → (σ 12 b).testBit i = true) → n_wo σ b c n = 0
  | 0, _ => rfl
  | n + 1, h => by
    have ih := br_wo (c := c) n (fun i hi => h i (by omega))
    have e : n_wo σ b c (n + 1) = if n_is σ b c n = true ∧ n_wo σ b c n < σ 10 (6 * b + n) then σ 10 (6 * b + n) else n_wo σ b c n := rfl
    have hn : ¬ n_is σ b c n = true := by
      unfold n_is
      rw [h n (by omega), Bool.not_true, Bool.false_and]
      exact Bool.false_ne_true
    rw [e, if_neg (fun z => hn z.1)]
    exact ih
theorem br_fs0 {σ : St} (hw : Wf σ) {pr : Nat → Nat} (h : ∀ b, b < σ 5 0 → ∀ f, n_worth σ b f = 0) : ∀ k, k ≤ σ 5 0 → k_fs σ pr k = 0
  | 0, _ => rfl
  | k + 1, hk => by
    have hnb := hw.2.2.2.1
    have ih := br_fs0 hw (pr := pr) h k (by omega)
    have e : k_fs σ pr (k + 1) = k_fs σ pr k + k_g σ pr k := rfl
    have g := (k_g_le hw (pr := pr) (b := k) (by omega)).1
    have a := (k_hg (σ := σ) (pr := pr) (b := k)).2.1
    unfold k_val at a
    rw [h k (by omega)] at a
    omega
theorem br_ex {σ : St} (hw : Wf σ) : ∃ s, s < 2 ^ br_off σ (σ 5 0) ∧ br_fb σ s = true := by
  have p1 : ∀ b, 0 < 2 ^ σ 9 b := fun b => Nat.pow_pos (by decide)
  obtain ⟨s, hs, hp⟩ := br_mk (σ := σ) (p := fun b => b_nd (2 ^ σ 9 b - 1) (σ 12 b)) (fun b => by
    have := b_nd_le (2 ^ σ 9 b - 1) (σ 12 b)
    have := p1 b
    show b_nd (2 ^ σ 9 b - 1) (σ 12 b) < _
    omega) (σ 5 0)
  refine ⟨s, hs, br_fb_iff.2 ⟨fun b hb => ?_, ?_⟩⟩
  · rw [hp b hb]
    apply Nat.eq_of_testBit_eq
    intro i
    show (b_nd (2 ^ σ 9 b - 1) (σ 12 b) &&& σ 12 b).testBit i = _
    rw [Nat.testBit_and, b_nd_bit, Nat.zero_testBit, Bool.and_assoc, Bool.not_and_self, Bool.and_false]
  · have hw' := br_wf (s := s) hw
    have h0 : ∀ b, b < br_sv σ s 5 0 → ∀ f, n_worth (br_sv σ s) b f = 0 := fun b hb f => by
      unfold n_worth n_wc
      refine br_wo _ (fun i hi => ?_)
      show (σ 12 b ||| br_pt σ s b).testBit i = true
      rw [hp b hb]
      show (σ 12 b ||| b_nd (2 ^ σ 9 b - 1) (σ 12 b)).testBit i = true
      rw [Nat.testBit_or, b_nd_bit, b_full, decide_eq_true (show i < σ 9 b from hi), Bool.true_and]
      cases (σ 12 b).testBit i <;> rfl
    generalize br_sv σ s = τ at hw' h0 ⊢
    have e1 := br_fs0 hw' (pr := k_rp τ 0) h0 (τ 5 0) (Nat.le_refl _)
    have e2 : k_ps τ (k_rp τ 0) ≤ τ 0 0 * 0 := k_sum_le (fun l _ => Nat.le_refl _)
    have e3 := k_mis_0 hw' (pr := k_rp τ 0)
    have e4 : k_mis τ (k_rp τ 0) = k_fs τ (k_rp τ 0) (τ 5 0) + k_ps τ (k_rp τ 0) - n_dw τ := rfl
    have e5 : k_mis τ (k_rp τ 0) = 0 := by omega
    have := (k_end (σ := τ) (m := 0) (by omega) (Or.inl (by omega))).1
    rw [this]
    exact e5
theorem br_st_0 {σ : St} (hw : Wf σ) : 0 ≤ br_st σ (2 ^ br_off σ (σ 5 0)) ∧ br_st σ (2 ^ br_off σ (σ 5 0)) < (2 ^ br_off σ (σ 5 0) : Nat) := by
  obtain ⟨s, h1, h2⟩ := br_ex hw
  rcases br_st_sp (σ := σ) (2 ^ br_off σ (σ 5 0)) with ⟨_, a⟩ | ⟨a, b, _⟩
  · exact absurd h2 (a s h1)
  · exact ⟨a, b⟩
def sp_broken (σ : St) (w : Int) : Int × St := (if w < 0 ∨ 1 < w then -2 else if 8 < br_off σ (σ 5 0) then -3 else if w = 0 then br_st (nz σ) (2 ^ br_off σ (σ 5 0)) else (br_on (br_st (nz σ) (2 ^ br_off σ (σ 5 0))).toNat : Int), σ)
/-- what the class keeps of BREAK -/
def KB (σ : St) (M : mM) : Prop := M 74 4 ≠ 0 → M 74 3 = br_st (nz σ) (2 ^ br_off σ (σ 5 0))
