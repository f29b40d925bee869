/-! PRICES: what is liked, what is missing -/
def k_co (σ : St) (pr : Nat → Nat) (h : Nat) : Nat := q_wt σ pr h
def k_val (σ : St) (pr : Nat → Nat) (b h : Nat) : Int := (n_worth σ b h : Int) - k_co σ pr h
def k_lk (σ : St) (pr : Nat → Nat) (b : Nat) : Nat → Nat × Int
  | 0 => (0, (n_worth σ b 0 : Int))
  | m + 1 => if (k_lk σ pr b m).2 < k_val σ pr b (m + 1) then (m + 1, k_val σ pr b (m + 1)) else k_lk σ pr b m
/-- what he likes best, and what is over -/
def k_h (σ : St) (pr : Nat → Nat) (b : Nat) : Nat := (k_lk σ pr b (2 ^ σ 0 0 - 1)).1
def k_g (σ : St) (pr : Nat → Nat) (b : Nat) : Int := (k_lk σ pr b (2 ^ σ 0 0 - 1)).2
theorem q_wt_0 {σ : St} {w : Nat → Nat} : q_wt σ w 0 = 0 := by
  have key : ∀ n, q_sum (fun l => if (0 : Nat).testBit l = true then w l else 0) n = 0 := by
    intro n
    induction n with
    | zero => rfl
    | succ n ih => rw [q_sum, ih, Nat.zero_testBit]; rfl
  exact key _
theorem q_wt_nd {σ : St} {w : Nat → Nat} {h f : Nat} (hs : b_sub h f) : q_wt σ w (b_nd f h) + q_wt σ w h = q_wt σ w f := by
  have key : ∀ n, q_sum (fun l => if (b_nd f h).testBit l = true then w l else 0) n + q_sum (fun l => if h.testBit l = true then w l else 0) n = q_sum (fun l => if f.testBit l = true then w l else 0) n := by
    intro n
    induction n with
    | zero => rfl
    | succ n ih =>
      unfold q_sum
      rw [b_nd_bit]
      have := hs n
      cases h1 : f.testBit n <;> cases h2 : h.testBit n
      · simp; omega
      · rw [this h2] at h1; cases h1
      · simp; omega
      · simp; omega
  exact key _
theorem k_val_0 {σ : St} {pr : Nat → Nat} {b : Nat} : k_val σ pr b 0 = n_worth σ b 0 := by
  have : k_co σ pr 0 = 0 := q_wt_0
  unfold k_val
  omega
theorem k_lk_spec {σ : St} {pr : Nat → Nat} {b : Nat} : ∀ m, (k_lk σ pr b m).1 ≤ m ∧ k_val σ pr b (k_lk σ pr b m).1 = (k_lk σ pr b m).2 ∧ (∀ h, h ≤ m → k_val σ pr b h ≤ (k_lk σ pr b m).2) ∧ ∀ h, h < (k_lk σ pr b m).1 → k_val σ pr b h < (k_lk σ pr b m).2
  | 0 => ⟨Nat.le_refl _, k_val_0, fun h hh => by
      have : h = 0 := by omega
      subst this
      exact Int.le_of_eq k_val_0, fun h hh => absurd hh (Nat.not_lt_zero h)⟩
  | m + 1 => by
    obtain ⟨a1, a2, a3, a4⟩ := k_lk_spec (σ := σ) (pr := pr) (b := b) m
    unfold k_lk
    by_cases e : (k_lk σ pr b m).2 < k_val σ pr b (m + 1)
    · rw [if_pos e]
      refine ⟨Nat.le_refl _, rfl, fun h hh => ?_, fun h hh => ?_⟩
      · by_cases z : h = m + 1
        · subst z; exact Int.le_refl _
        · have := a3 h (by omega)
          show k_val σ pr b h ≤ k_val σ pr b (m + 1)
          omega
      · have hh' : h < m + 1 := hh
        have := a3 h (by omega)
        show k_val σ pr b h < k_val σ pr b (m + 1)
        omega
    · rw [if_neg e]
      refine ⟨by omega, a2, fun h hh => ?_, a4⟩
      by_cases z : h = m + 1
      · subst z; omega
      · exact a3 h (by omega)
theorem k_hg {σ : St} {pr : Nat → Nat} {b : Nat} : k_h σ pr b < 2 ^ σ 0 0 ∧ k_val σ pr b (k_h σ pr b) = k_g σ pr b ∧ (∀ h, h < 2 ^ σ 0 0 → k_val σ pr b h ≤ k_g σ pr b) ∧ ∀ h, h < k_h σ pr b → k_val σ pr b h < k_g σ pr b := by
  have pp : 0 < 2 ^ σ 0 0 := Nat.pow_pos (by decide)
  obtain ⟨a1, a2, a3, a4⟩ := k_lk_spec (σ := σ) (pr := pr) (b := b) (2 ^ σ 0 0 - 1)
  unfold k_h k_g
  exact ⟨by omega, a2, fun h hh => a3 h (by omega), a4⟩
/-- there is only one such -/
theorem k_uni {σ : St} {pr : Nat → Nat} {b x : Nat} {y : Int} (hx : x < 2 ^ σ 0 0) (h1 : k_val σ pr b x = y) (h2 : ∀ h, h < 2 ^ σ 0 0 → k_val σ pr b h ≤ y) (h3 : ∀ h, h < x → k_val σ pr b h < y) : x = k_h σ pr b ∧ y = k_g σ pr b := by
  obtain ⟨a1, a2, a3, a4⟩ := k_hg (σ := σ) (pr := pr) (b := b)
  have e1 := a3 x hx
  have e2 := h2 _ a1
  have ey : y = k_g σ pr b := by omega
  refine ⟨?_, ey⟩
  rcases Nat.lt_trichotomy x (k_h σ pr b) with z | z | z
  · have := a4 x z; omega
  · exact z
  · have := h3 _ z; omega
/-- a row by PRICE, then by number -/
def k_so (σ : St) (pr r : Nat → Nat) : Prop := q_pm (σ 0 0) r ∧ ∀ i j, i < j → j < σ 0 0 → pr (r i) < pr (r j) ∨ (pr (r i) = pr (r j) ∧ r i < r j)
theorem q_wt_mix {σ : St} {pr : Nat → Nat} {h : Nat} (hh : h < 2 ^ σ 0 0) : q_wt σ (fun l => pr l * 256 + 2 ^ l) h = k_co σ pr h * 256 + h := by
  have key : ∀ n, q_sum (fun l => if h.testBit l = true then pr l * 256 + 2 ^ l else 0) n = q_sum (fun l => if h.testBit l = true then pr l else 0) n * 256 + q_sum (fun l => if h.testBit l = true then 2 ^ l else 0) n := by
    intro n
    induction n with
    | zero => simp [q_sum]
    | succ n ih =>
      rw [q_sum, q_sum, q_sum, ih]
      cases h.testBit n <;> simp <;> omega
  have e := key (σ 0 0)
  have e2 : q_wt σ (fun l => 2 ^ l) h = h := q_wt_bits hh
  unfold q_wt at e2
  rw [e2] at e
  exact e
theorem q_pk_lt {σ : St} {r : Nat → Nat} {rest : Nat} {nd : Nat → Nat} (hr : q_pm (σ 0 0) r) : q_pk σ r rest nd < 2 ^ σ 0 0 := q_hp_lt hr.1 _ (Nat.le_refl _)
/-- the cheapest heap of an ALTERNATIVE -/
theorem k_pk_min {σ : St} (hw : Wf σ) {pr r : Nat → Nat} (hr : k_so σ pr r) {nd : Nat → Nat} {h : Nat} (hh : h < 2 ^ σ 0 0) (hc : ∀ s, s < 5 → nd s ≤ n_cnt σ h s) : k_co σ pr (q_pk σ r (2 ^ σ 0 0 - 1) nd) ≤ k_co σ pr h ∧ (k_co σ pr (q_pk σ r (2 ^ σ 0 0 - 1) nd) = k_co σ pr h → q_pk σ r (2 ^ σ 0 0 - 1) nd ≤ h) := by
  have hn8 := hw.1
  have p8 := pow8 hw
  have h1 := q_pk_min hw (r := r) (w := fun l => pr l * 256 + 2 ^ l) (rest := 2 ^ σ 0 0 - 1) (h := h) (nd := nd) hr.1 (fun i j hij hj => by
    have a := hr.2 i j hij hj
    have b1 : 2 ^ r i < 256 := Nat.pow_lt_pow_right (n := 8) (by decide) (by have := hr.1.1 i (by omega); omega)
    have b2 : 0 < 2 ^ r j := Nat.pow_pos (by decide)
    have hm : r i < r j → 2 ^ r i ≤ 2 ^ r j := fun z => Nat.pow_le_pow_right (by decide) (by omega)
    show pr (r i) * 256 + 2 ^ r i ≤ pr (r j) * 256 + 2 ^ r j
    rcases a with a | ⟨a, a'⟩
    · omega
    · have := hm a'
      omega) (b_sub_full hh) hc
  have hl := q_pk_lt (σ := σ) (rest := 2 ^ σ 0 0 - 1) (nd := nd) hr.1
  rw [q_wt_mix hl, q_wt_mix hh] at h1
  omega
/-- what the class does -/
def k_cr (σ : St) (pr r : Nat → Nat) (b i : Nat) : Int := (σ 10 (6 * b + i) : Int) - k_co σ pr (q_pk σ r (2 ^ σ 0 0 - 1) (n_nd σ b i))
def k_cl (σ : St) (pr r : Nat → Nat) (b : Nat) : Nat → Nat × Int
  | 0 => (0, 0)
  | i + 1 => if n_is σ b (n_A σ) i = true ∧ ((k_cl σ pr r b i).2 < k_cr σ pr r b i ∨ (k_cr σ pr r b i = (k_cl σ pr r b i).2 ∧ q_pk σ r (2 ^ σ 0 0 - 1) (n_nd σ b i) < (k_cl σ pr r b i).1)) then (q_pk σ r (2 ^ σ 0 0 - 1) (n_nd σ b i), k_cr σ pr r b i) else k_cl σ pr r b i
theorem k_cl_spec {σ : St} {pr r : Nat → Nat} {b : Nat} : ∀ m, 0 ≤ (k_cl σ pr r b m).2 ∧ ((k_cl σ pr r b m).2 = 0 → (k_cl σ pr r b m).1 = 0) ∧ (((k_cl σ pr r b m).1 = 0 ∧ (k_cl σ pr r b m).2 = 0) ∨ ∃ i, i < m ∧ n_is σ b (n_A σ) i = true ∧ (k_cl σ pr r b m).1 = q_pk σ r (2 ^ σ 0 0 - 1) (n_nd σ b i) ∧ (k_cl σ pr r b m).2 = k_cr σ pr r b i) ∧ ∀ i, i < m → n_is σ b (n_A σ) i = true → k_cr σ pr r b i ≤ (k_cl σ pr r b m).2 ∧ (k_cr σ pr r b i = (k_cl σ pr r b m).2 → (k_cl σ pr r b m).1 ≤ q_pk σ r (2 ^ σ 0 0 - 1) (n_nd σ b i))
  | 0 => ⟨Int.le_refl _, fun _ => rfl, Or.inl ⟨rfl, rfl⟩, fun i hi => absurd hi (Nat.not_lt_zero i)⟩
  | m + 1 => by
    obtain ⟨a1, a2, a3, a4⟩ := k_cl_spec (σ := σ) (pr := pr) (r := r) (b := b) m
    unfold k_cl
    by_cases e : n_is σ b (n_A σ) m = true ∧ ((k_cl σ pr r b m).2 < k_cr σ pr r b m ∨ (k_cr σ pr r b m = (k_cl σ pr r b m).2 ∧ q_pk σ r (2 ^ σ 0 0 - 1) (n_nd σ b m) < (k_cl σ pr r b m).1))
    · rw [if_pos e]
      refine ⟨?_, fun z => ?_, Or.inr ⟨m, by omega, e.1, rfl, rfl⟩, fun i hi hs => ?_⟩
      · show 0 ≤ k_cr σ pr r b m
        omega
      · have z' : k_cr σ pr r b m = 0 := z
        rcases e.2 with y | ⟨y1, y2⟩
        · omega
        · have := a2 (by omega)
          omega
      · show k_cr σ pr r b i ≤ k_cr σ pr r b m ∧ (k_cr σ pr r b i = k_cr σ pr r b m → q_pk σ r (2 ^ σ 0 0 - 1) (n_nd σ b m) ≤ q_pk σ r (2 ^ σ 0 0 - 1) (n_nd σ b i))
        by_cases z : i = m
        · subst z; exact ⟨Int.le_refl _, fun _ => Nat.le_refl _⟩
        · obtain ⟨b1, b2⟩ := a4 i (by omega) hs
          refine ⟨by omega, fun y => ?_⟩
          rcases e.2 with w | ⟨w1, w2⟩
          · omega
          · have := b2 (by omega)
            omega
    · rw [if_neg e]
      refine ⟨a1, a2, ?_, fun i hi hs => ?_⟩
      · rcases a3 with z | ⟨i, hi, z⟩
        · exact Or.inl z
        · exact Or.inr ⟨i, by omega, z⟩
      · by_cases z : i = m
        · subst z
          refine ⟨?_, fun y => ?_⟩
          · rcases Int.lt_or_le (k_cl σ pr r b i).2 (k_cr σ pr r b i) with w | w
            · exact absurd ⟨hs, Or.inl w⟩ e
            · exact w
          · rcases Nat.lt_or_ge (q_pk σ r (2 ^ σ 0 0 - 1) (n_nd σ b i)) (k_cl σ pr r b i).1 with w | w
            · exact absurd ⟨hs, Or.inr ⟨y, w⟩⟩ e
            · exact w
        · exact a4 i (by omega) hs
theorem k_cl_eq {σ : St} (hw : Wf σ) (hw2 : Wf2 σ) {pr r : Nat → Nat} {b : Nat} (hb : b < 6) (hr : k_so σ pr r) : (k_cl σ pr r b (σ 9 b)).1 = k_h σ pr b ∧ (k_cl σ pr r b (σ 9 b)).2 = k_g σ pr b := by
  have pp : 0 < 2 ^ σ 0 0 := Nat.pow_pos (by decide)
  obtain ⟨a1, a2, a3, a4⟩ := k_cl_spec (σ := σ) (pr := pr) (r := r) (b := b) (σ 9 b)
  have w0 : k_val σ pr b 0 = 0 := by rw [k_val_0, n_worth_0 hw2 hb]; rfl
  have hx : (k_cl σ pr r b (σ 9 b)).1 < 2 ^ σ 0 0 := by
    rcases a3 with ⟨z, _⟩ | ⟨i, _, _, z, _⟩
    · omega
    · rw [z]; exact q_pk_lt hr.1
  -- any heap, by the ALTERNATIVE that it meets
  have any : ∀ h, h < 2 ^ σ 0 0 → n_worth σ b h = 0 ∨ ∃ i, i < σ 9 b ∧ n_is σ b (n_A σ) i = true ∧ n_worth σ b h = σ 10 (6 * b + i) ∧ k_co σ pr (q_pk σ r (2 ^ σ 0 0 - 1) (n_nd σ b i)) ≤ k_co σ pr h ∧ (k_co σ pr (q_pk σ r (2 ^ σ 0 0 - 1) (n_nd σ b i)) = k_co σ pr h → q_pk σ r (2 ^ σ 0 0 - 1) (n_nd σ b i) ≤ h) := by
    intro h hh
    rcases n_wx (σ := σ) (b := b) (c := n_cnt σ h) with z | ⟨i, hi, z1, z2⟩
    · exact Or.inl z
    · have m := (n_is_iff.1 z1).2
      obtain ⟨c1, c2⟩ := k_pk_min hw hr hh m
      exact Or.inr ⟨i, hi, n_is_mono (fun s _ => n_cnt_A hh s) z1, z2, c1, c2⟩
  have le : ∀ h, h < 2 ^ σ 0 0 → k_val σ pr b h ≤ (k_cl σ pr r b (σ 9 b)).2 := by
    intro h hh
    rcases any h hh with z | ⟨i, hi, z1, z2, z3, z4⟩
    · unfold k_val
      rw [z]
      omega
    · have := (a4 i hi z1).1
      unfold k_cr at this
      unfold k_val
      rw [z2]
      omega
  refine k_uni hx ?_ le (fun h hh => ?_)
  · rcases a3 with ⟨z1, z2⟩ | ⟨i, hi, z1, z2, z3⟩
    · rw [z1, z2, w0]
    · have l1 := le _ hx
      have hc : ∀ s, s < 5 → n_cnt σ (q_pk σ r (2 ^ σ 0 0 - 1) (n_nd σ b i)) s = n_nd σ b i s := fun s hs => q_pk_cnt hr.1 ((n_is_iff.1 z1).2 s hs)
      have h1 : n_is σ b (n_cnt σ (q_pk σ r (2 ^ σ 0 0 - 1) (n_nd σ b i))) i = true := n_is_iff.2 ⟨(n_is_iff.1 z1).1, fun s hs => by rw [hc s hs]; exact Nat.le_refl _⟩
      have h2 : σ 10 (6 * b + i) ≤ n_worth σ b (q_pk σ r (2 ^ σ 0 0 - 1) (n_nd σ b i)) := n_wg hi h1
      rw [z2] at l1 ⊢
      rw [z3] at l1 ⊢
      unfold k_val k_cr at l1 ⊢
      omega
  · have hh2 : h < 2 ^ σ 0 0 := by omega
    have l1 := le h hh2
    rcases any h hh2 with z | ⟨i, hi, z1, z2, z3, z4⟩
    · rcases Int.lt_or_eq_of_le l1 with w | w
      · exact w
      · have hv : k_val σ pr b h ≤ 0 := by
          unfold k_val
          rw [z]
          omega
        have := a2 (by omega)
        omega
    · rcases Int.lt_or_eq_of_le l1 with w | w
      · exact w
      · obtain ⟨b1, b2⟩ := a4 i hi z1
        have e1 : k_val σ pr b h = (σ 10 (6 * b + i) : Int) - k_co σ pr h := by unfold k_val; rw [z2]
        have e2 : k_cr σ pr r b i = (σ 10 (6 * b + i) : Int) - k_co σ pr (q_pk σ r (2 ^ σ 0 0 - 1) (n_nd σ b i)) := rfl
        have := z4 (by omega)
        have := b2 (by omega)
        omega
theorem k_g_le {σ : St} (hw : Wf σ) {pr : Nat → Nat} {b : Nat} (hb : b < 6) : 0 ≤ k_g σ pr b ∧ k_g σ pr b ≤ 999 := by
  have pp : 0 < 2 ^ σ 0 0 := Nat.pow_pos (by decide)
  obtain ⟨a1, a2, a3, a4⟩ := k_hg (σ := σ) (pr := pr) (b := b)
  have h0 := a3 0 pp
  rw [k_val_0] at h0
  have h1 := n_worth_le hw (b := b) (h := k_h σ pr b) hb
  unfold k_val at a2
  omega
/-- what is missing -/
def k_fs (σ : St) (pr : Nat → Nat) : Nat → Int
  | 0 => 0
  | b + 1 => k_fs σ pr b + k_g σ pr b
def k_gs (σ : St) (pr : Nat → Nat) : Nat → Int
  | 0 => 0
  | j + 1 => k_gs σ pr j + k_g σ pr (σ 5 0 - (j + 1))
def k_ps (σ : St) (pr : Nat → Nat) : Nat := q_sum pr (σ 0 0)
def k_mis (σ : St) (pr : Nat → Nat) : Int := k_fs σ pr (σ 5 0) + k_ps σ pr - n_dw σ
theorem k_fs_gs {σ : St} {pr : Nat → Nat} : ∀ j, j ≤ σ 5 0 → k_fs σ pr (σ 5 0 - j) + k_gs σ pr j = k_fs σ pr (σ 5 0)
  | 0, _ => by
    show k_fs σ pr (σ 5 0 - 0) + 0 = _
    rw [Nat.sub_zero]
    omega
  | j + 1, h => by
    have ih := k_fs_gs (σ := σ) (pr := pr) j (by omega)
    have e : k_fs σ pr (σ 5 0 - j) = k_fs σ pr (σ 5 0 - (j + 1)) + k_g σ pr (σ 5 0 - (j + 1)) := by
      rw [show σ 5 0 - j = (σ 5 0 - (j + 1)) + 1 by omega]
      rfl
    show k_fs σ pr (σ 5 0 - (j + 1)) + (k_gs σ pr j + k_g σ pr (σ 5 0 - (j + 1))) = _
    omega
theorem k_dual {σ : St} (hw : Wf σ) {pr : Nat → Nat} : ∀ j, j ≤ σ 5 0 → ∀ f, f < 2 ^ σ 0 0 → (nV σ j (n_cnt σ f) : Int) ≤ k_gs σ pr j + k_co σ pr f
  | 0, _, f, _ => by
    show ((0 : Nat) : Int) ≤ 0 + (k_co σ pr f : Int)
    omega
  | j + 1, hj, f, hf => by
    have h5 := hw.2.2.2.1
    have ih := k_dual hw (pr := pr) j (by omega)
    have hb6 : σ 5 0 - (j + 1) < 6 := by omega
    have hg := k_g_le hw (pr := pr) hb6
    show (nVi σ (σ 5 0 - (j + 1)) (nV σ j) (n_cnt σ f) (σ 9 (σ 5 0 - (j + 1))) : Int) ≤ (k_gs σ pr j + k_g σ pr (σ 5 0 - (j + 1))) + k_co σ pr f
    generalize σ 5 0 - (j + 1) = b at hb6 hg ⊢
    rcases nVi_at (σ := σ) (b := b) (W := nV σ j) (c := n_cnt σ f) (σ 9 b) with a | ⟨i, hi, a1, a2⟩
    · have := ih f hf
      omega
    · have hv := n_gi_val (nV_mono (σ := σ) j) hi a1
      have hsub := n_gi_sub (σ := σ) (b := b) (f := f) (i := i)
      have hgl : n_gi σ b f i < 2 ^ σ 0 0 := Nat.lt_of_le_of_lt (b_sub_le hsub) hf
      have h1 := (k_hg (σ := σ) (pr := pr) (b := b)).2.2.1 _ hgl
      have h2 := ih (b_nd f (n_gi σ b f i)) (Nat.lt_of_le_of_lt (b_nd_le _ _) hf)
      have h3 : k_co σ pr (b_nd f (n_gi σ b f i)) + k_co σ pr (n_gi σ b f i) = k_co σ pr f := q_wt_nd hsub
      unfold k_val at h1
      omega
theorem k_co_full {σ : St} {pr : Nat → Nat} : k_co σ pr (2 ^ σ 0 0 - 1) = k_ps σ pr := q_sum_of (fun j hj => by rw [b_full, if_pos (by simpa using hj)])
theorem k_mis_0 {σ : St} (hw : Wf σ) {pr : Nat → Nat} : 0 ≤ k_mis σ pr := by
  have pp : 0 < 2 ^ σ 0 0 := Nat.pow_pos (by decide)
  have h1 := k_dual hw (pr := pr) (σ 5 0) (Nat.le_refl _) (2 ^ σ 0 0 - 1) (by omega)
  have h2 := k_fs_gs (σ := σ) (pr := pr) (σ 5 0) (Nat.le_refl _)
  rw [Nat.sub_self] at h2
  have e0 : k_fs σ pr 0 = 0 := rfl
  rw [k_co_full] at h1
  unfold k_mis n_dw
  omega
theorem k_fs_le {σ : St} (hw : Wf σ) {pr : Nat → Nat} : ∀ b, b ≤ 6 → 0 ≤ k_fs σ pr b ∧ k_fs σ pr b ≤ 999 * (b : Int)
  | 0, _ => ⟨Int.le_refl _, Int.le_refl _⟩
  | b + 1, hb => by
    have ih := k_fs_le hw (pr := pr) b (by omega)
    have h := k_g_le hw (pr := pr) (b := b) (by omega)
    unfold k_fs
    omega
theorem k_sum_le {f : Nat → Nat} {K : Nat} : ∀ {n}, (∀ l, l < n → f l ≤ K) → q_sum f n ≤ n * K
  | 0, _ => Nat.zero_le _
  | n + 1, h => by
    have ih := k_sum_le (f := f) (K := K) (n := n) (fun l hl => h l (by omega))
    have := h n (by omega)
    unfold q_sum
    rw [Nat.add_mul, Nat.one_mul]
    omega
theorem k_co_ps {σ : St} {pr : Nat → Nat} {h : Nat} : k_co σ pr h ≤ k_ps σ pr := q_sum_le (fun j _ => by
  show (if h.testBit j = true then pr j else 0) ≤ pr j
  split <;> omega)
