/-! DEALT: the most worth together of the last j buyers, by counts -/
def n_nd (σ : St) (b i : Nat) : Nat → Nat := fun s => σ 11 (5 * (6 * b + i) + s)
theorem n_need_nd (σ : St) (b i : Nat) : n_need σ (6 * b + i) = n_pack (n_nd σ b i) := rfl
def nVi (σ : St) (b : Nat) (W : (Nat → Nat) → Nat) (c : Nat → Nat) : Nat → Nat
  | 0 => W c
  | i + 1 => if n_is σ b c i = true then max (nVi σ b W c i) (σ 10 (6 * b + i) + W (fun s => c s - n_nd σ b i s)) else nVi σ b W c i
def nV (σ : St) : Nat → (Nat → Nat) → Nat
  | 0 => fun _ => 0
  | j + 1 => fun c => nVi σ (σ 5 0 - (j + 1)) (nV σ j) c (σ 9 (σ 5 0 - (j + 1)))
/-- what is more for more -/
def W_mono (W : (Nat → Nat) → Nat) : Prop := ∀ c d : Nat → Nat, (∀ s, s < 5 → c s ≤ d s) → W c ≤ W d
theorem W_eq {W : (Nat → Nat) → Nat} (h : W_mono W) {c d : Nat → Nat} (e : ∀ s, s < 5 → c s = d s) : W c = W d := Nat.le_antisymm (h c d (fun s hs => Nat.le_of_eq (e s hs))) (h d c (fun s hs => Nat.le_of_eq (e s hs).symm))
theorem n_metc_iff {σ : St} {b i : Nat} {c : Nat → Nat} : n_metc σ (6 * b + i) c = true ↔ ∀ s, s < 5 → n_nd σ b i s ≤ c s := by
  unfold n_metc
  rw [decide_eq_true_eq]
  exact q_en_all (σ := σ) (c := c) (nd := n_nd σ b i)
theorem n_is_iff {σ : St} {b i : Nat} {c : Nat → Nat} : n_is σ b c i = true ↔ (σ 12 b).testBit i = false ∧ ∀ s, s < 5 → n_nd σ b i s ≤ c s := by
  unfold n_is
  rw [Bool.and_eq_true, n_metc_iff]
  cases (σ 12 b).testBit i <;> simp
theorem n_is_mono {σ : St} {b i : Nat} {c d : Nat → Nat} (hcd : ∀ s, s < 5 → c s ≤ d s) (h : n_is σ b c i = true) : n_is σ b d i = true := by
  rw [n_is_iff] at h ⊢
  exact ⟨h.1, fun s hs => Nat.le_trans (h.2 s hs) (hcd s hs)⟩
theorem nVi_mono {σ : St} {b : Nat} {W : (Nat → Nat) → Nat} (hW : W_mono W) {c d : Nat → Nat} (hcd : ∀ s, s < 5 → c s ≤ d s) : ∀ i, nVi σ b W c i ≤ nVi σ b W d i
  | 0 => hW c d hcd
  | i + 1 => by
    have ih := nVi_mono (σ := σ) (b := b) hW hcd i
    have hw := hW (fun s => c s - n_nd σ b i s) (fun s => d s - n_nd σ b i s) (fun s hs => by have := hcd s hs; show c s - _ ≤ d s - _; omega)
    unfold nVi
    by_cases e : n_is σ b c i = true
    · rw [if_pos e, if_pos (n_is_mono hcd e)]
      omega
    · rw [if_neg e]
      split <;> omega
theorem nV_mono {σ : St} : ∀ j, W_mono (nV σ j)
  | 0 => fun _ _ _ => Nat.le_refl _
  | j + 1 => fun _ _ h => nVi_mono (nV_mono j) h _
theorem nVi_ge {σ : St} {b : Nat} {W : (Nat → Nat) → Nat} {c : Nat → Nat} : ∀ m, W c ≤ nVi σ b W c m ∧ ∀ i, i < m → n_is σ b c i = true → σ 10 (6 * b + i) + W (fun s => c s - n_nd σ b i s) ≤ nVi σ b W c m
  | 0 => ⟨Nat.le_refl _, fun i hi => absurd hi (Nat.not_lt_zero i)⟩
  | m + 1 => by
    obtain ⟨h1, h2⟩ := nVi_ge (σ := σ) (b := b) (W := W) (c := c) m
    unfold nVi
    by_cases e : n_is σ b c m = true
    · rw [if_pos e]
      refine ⟨by omega, fun i hi hs => ?_⟩
      by_cases z : i = m
      · subst z; omega
      · have := h2 i (by omega) hs; omega
    · rw [if_neg e]
      refine ⟨h1, fun i hi hs => ?_⟩
      by_cases z : i = m
      · subst z; exact absurd hs e
      · exact h2 i (by omega) hs
theorem nVi_at {σ : St} {b : Nat} {W : (Nat → Nat) → Nat} {c : Nat → Nat} : ∀ m, nVi σ b W c m = W c ∨ ∃ i, i < m ∧ n_is σ b c i = true ∧ σ 10 (6 * b + i) + W (fun s => c s - n_nd σ b i s) = nVi σ b W c m
  | 0 => Or.inl rfl
  | m + 1 => by
    have ih := nVi_at (σ := σ) (b := b) (W := W) (c := c) m
    have old : nVi σ b W c (m + 1) = nVi σ b W c m → nVi σ b W c (m + 1) = W c ∨ ∃ i, i < m + 1 ∧ n_is σ b c i = true ∧ σ 10 (6 * b + i) + W (fun s => c s - n_nd σ b i s) = nVi σ b W c (m + 1) := by
      intro e
      rw [e]
      rcases ih with a | ⟨i, hi, a, b'⟩
      · exact Or.inl a
      · exact Or.inr ⟨i, by omega, a, b'⟩
    by_cases e : n_is σ b c m = true
    · have e1 : nVi σ b W c (m + 1) = max (nVi σ b W c m) (σ 10 (6 * b + m) + W (fun s => c s - n_nd σ b m s)) := by rw [nVi, if_pos e]
      rcases Nat.le_total (σ 10 (6 * b + m) + W (fun s => c s - n_nd σ b m s)) (nVi σ b W c m) with q | q
      · exact old (by omega)
      · exact Or.inr ⟨m, by omega, e, by omega⟩
    · exact old (by rw [nVi, if_neg e])
theorem nVi_le {σ : St} (hw : Wf σ) {b : Nat} (hb : b < 6) {W : (Nat → Nat) → Nat} {K : Nat} (hW : ∀ c, W c ≤ K) (c : Nat → Nat) : ∀ m, m ≤ σ 9 b → nVi σ b W c m ≤ 999 + K
  | 0, _ => by have := hW c; show W c ≤ _; omega
  | m + 1, hm => by
    have ih := nVi_le hw hb hW c m (by omega)
    have h10 := ((hw.2.2.2.2.1 b hb).2.2.2.2.2 m (by omega)).1
    have h1 := hW (fun s => c s - n_nd σ b m s)
    unfold nVi
    split <;> omega
theorem nV_le {σ : St} (hw : Wf σ) : ∀ j, j ≤ σ 5 0 → ∀ c, nV σ j c ≤ 999 * j
  | 0, _, c => Nat.le_refl _
  | j + 1, hj, c => by
    have h5 := hw.2.2.2.1
    have ih := nV_le hw j (by omega)
    have := nVi_le hw (b := σ 5 0 - (j + 1)) (by omega) ih c _ (Nat.le_refl _)
    show nVi σ (σ 5 0 - (j + 1)) (nV σ j) c (σ 9 (σ 5 0 - (j + 1))) ≤ _
    omega
/-! worth, by its ALTERNATIVE -/
theorem n_wg {σ : St} {b i : Nat} {c : Nat → Nat} (hi : i < σ 9 b) (h : n_is σ b c i = true) : σ 10 (6 * b + i) ≤ n_wc σ b c := by
  rcases n_be_inv σ b c (σ 9 b) with ⟨a1, a2, a3, a4⟩ | ⟨a1, a2, a3, a4, a5, a6⟩
  · rw [a4 i hi] at h; cases h
  · exact a6 i hi h
theorem n_wx {σ : St} {b : Nat} {c : Nat → Nat} : n_wc σ b c = 0 ∨ ∃ i, i < σ 9 b ∧ n_is σ b c i = true ∧ n_wc σ b c = σ 10 (6 * b + i) := by
  rcases n_be_inv σ b c (σ 9 b) with ⟨a1, a2, a3, a4⟩ | ⟨a1, a2, a3, a4, a5, a6⟩
  · exact Or.inl a3
  · exact Or.inr ⟨(n_be σ b c (σ 9 b)).toNat, by omega, a4, a3.symm⟩
/-- h is of f -/
def b_sub (h f : Nat) : Prop := ∀ l, h.testBit l = true → f.testBit l = true
theorem b_sub_le {h f : Nat} (s : b_sub h f) : h ≤ f := Nat.le_of_testBit s
theorem n_ct_nd {σ : St} {h f s : Nat} (hs : b_sub h f) : ∀ l, n_ct σ (b_nd f h) s l + n_ct σ h s l = n_ct σ f s l
  | 0 => rfl
  | l + 1 => by
    have ih := n_ct_nd (σ := σ) (s := s) hs l
    unfold n_ct
    rw [b_nd_bit]
    have := hs l
    by_cases e : σ 1 l = s
    · cases h1 : f.testBit l <;> cases h2 : h.testBit l
      · simp [e]; omega
      · rw [this h2] at h1; cases h1
      · simp [e]; omega
      · simp [e]; omega
    · simp [e]; omega
theorem n_cnt_nd {σ : St} {h f : Nat} (hs : b_sub h f) (s : Nat) : n_cnt σ (b_nd f h) s + n_cnt σ h s = n_cnt σ f s := n_ct_nd hs _
theorem b_nd_0 (f : Nat) : b_nd f 0 = f := by
  apply Nat.eq_of_testBit_eq
  intro i
  rw [b_nd_bit, Nat.zero_testBit]
  simp
theorem b_sub_0 (f : Nat) : b_sub 0 f := fun l h => by rw [Nat.zero_testBit] at h; cases h
/-- no heap brings more -/
theorem n_val_le {σ : St} {b : Nat} {W : (Nat → Nat) → Nat} (hW : W_mono W) {h f : Nat} (hs : b_sub h f) : n_worth σ b h + W (n_cnt σ (b_nd f h)) ≤ nVi σ b W (n_cnt σ f) (σ 9 b) := by
  have hc := n_cnt_nd (σ := σ) hs
  obtain ⟨g1, g2⟩ := nVi_ge (σ := σ) (b := b) (W := W) (c := n_cnt σ f) (σ 9 b)
  rcases n_wx (σ := σ) (b := b) (c := n_cnt σ h) with e | ⟨i, hi, e1, e2⟩
  · have e' : n_worth σ b h = 0 := e
    have := hW (n_cnt σ (b_nd f h)) (n_cnt σ f) (fun s _ => by have := hc s; omega)
    omega
  · have e' : n_worth σ b h = σ 10 (6 * b + i) := e2
    have a := g2 i hi (n_is_mono (fun s _ => by have := hc s; omega) e1)
    have m := (n_is_iff.1 e1).2
    have := hW (n_cnt σ (b_nd f h)) (fun s => n_cnt σ f s - n_nd σ b i s) (fun s hs' => by
      have h1 := hc s
      have h2 := m s hs'
      show _ ≤ n_cnt σ f s - n_nd σ b i s
      omega)
    omega
/-- the heap of an ALTERNATIVE -/
def n_gi (σ : St) (b f i : Nat) : Nat := q_pk σ (fun j => j) f (n_nd σ b i)
theorem n_gi_sub {σ : St} {b f i : Nat} : b_sub (n_gi σ b f i) f := fun _ h => q_hp_sub h
theorem n_gi_cnt {σ : St} {b f i : Nat} (h : n_is σ b (n_cnt σ f) i = true) : ∀ s, s < 5 → n_cnt σ (n_gi σ b f i) s = n_nd σ b i s := fun s hs => q_pk_cnt (q_pm_id _) ((n_is_iff.1 h).2 s hs)
theorem n_gi_val {σ : St} {b : Nat} {W : (Nat → Nat) → Nat} (hW : W_mono W) {f i : Nat} (hi : i < σ 9 b) (h : n_is σ b (n_cnt σ f) i = true) : σ 10 (6 * b + i) + W (fun s => n_cnt σ f s - n_nd σ b i s) ≤ n_worth σ b (n_gi σ b f i) + W (n_cnt σ (b_nd f (n_gi σ b f i))) := by
  have hc := n_gi_cnt h
  have h1 : n_is σ b (n_cnt σ (n_gi σ b f i)) i = true := n_is_iff.2 ⟨(n_is_iff.1 h).1, fun s hs => by rw [hc s hs]; exact Nat.le_refl _⟩
  have h2 : σ 10 (6 * b + i) ≤ n_worth σ b (n_gi σ b f i) := n_wg hi h1
  have h3 := hW (fun s => n_cnt σ f s - n_nd σ b i s) (n_cnt σ (b_nd f (n_gi σ b f i))) (fun s hs => by
    have a := n_cnt_nd (σ := σ) (n_gi_sub (σ := σ) (b := b) (f := f) (i := i)) s
    have b' := hc s hs
    show n_cnt σ f s - n_nd σ b i s ≤ _
    omega)
  omega
/-- the least heap that leaves enough -/
def n_lm (σ : St) (b : Nat) (W : (Nat → Nat) → Nat) (f : Nat) : Nat → Nat
  | 0 => f
  | i + 1 => if n_is σ b (n_cnt σ f) i = true ∧ σ 10 (6 * b + i) + W (fun s => n_cnt σ f s - n_nd σ b i s) = nVi σ b W (n_cnt σ f) (σ 9 b) then min (n_lm σ b W f i) (n_gi σ b f i) else n_lm σ b W f i
def n_lh (σ : St) (b : Nat) (W : (Nat → Nat) → Nat) (f : Nat) : Nat := if W (n_cnt σ f) = nVi σ b W (n_cnt σ f) (σ 9 b) then 0 else n_lm σ b W f (σ 9 b)
theorem n_lm_spec {σ : St} {b : Nat} {W : (Nat → Nat) → Nat} {f : Nat} : ∀ m, (n_lm σ b W f m = f ∨ ∃ i, i < m ∧ n_is σ b (n_cnt σ f) i = true ∧ σ 10 (6 * b + i) + W (fun s => n_cnt σ f s - n_nd σ b i s) = nVi σ b W (n_cnt σ f) (σ 9 b) ∧ n_lm σ b W f m = n_gi σ b f i) ∧ ∀ i, i < m → n_is σ b (n_cnt σ f) i = true → σ 10 (6 * b + i) + W (fun s => n_cnt σ f s - n_nd σ b i s) = nVi σ b W (n_cnt σ f) (σ 9 b) → n_lm σ b W f m ≤ n_gi σ b f i ∧ (n_lm σ b W f m = f → n_gi σ b f i = f)
  | 0 => ⟨Or.inl rfl, fun i hi => absurd hi (Nat.not_lt_zero i)⟩
  | m + 1 => by
    obtain ⟨h1, h2⟩ := n_lm_spec (σ := σ) (b := b) (W := W) (f := f) m
    have hle := b_sub_le (n_gi_sub (σ := σ) (b := b) (f := f) (i := m))
    have hlm : n_lm σ b W f m ≤ f := by
      rcases h1 with e | ⟨i, hi, a, a2, e⟩
      · omega
      · rw [e]; exact b_sub_le n_gi_sub
    by_cases e : n_is σ b (n_cnt σ f) m = true ∧ σ 10 (6 * b + m) + W (fun s => n_cnt σ f s - n_nd σ b m s) = nVi σ b W (n_cnt σ f) (σ 9 b)
    · have e1 : n_lm σ b W f (m + 1) = min (n_lm σ b W f m) (n_gi σ b f m) := by rw [n_lm, if_pos e]
      rw [e1]
      refine ⟨?_, fun i hi a a2 => ?_⟩
      · rcases Nat.le_total (n_gi σ b f m) (n_lm σ b W f m) with q | q
        · exact Or.inr ⟨m, by omega, e.1, e.2, by omega⟩
        · rcases h1 with z | ⟨i, hi, a, a2, z⟩
          · exact Or.inl (by omega)
          · exact Or.inr ⟨i, by omega, a, a2, by omega⟩
      · by_cases z : i = m
        · subst z
          exact ⟨by omega, fun y => by omega⟩
        · have := h2 i (by omega) a a2
          exact ⟨by omega, fun y => this.2 (by omega)⟩
    · have e1 : n_lm σ b W f (m + 1) = n_lm σ b W f m := by rw [n_lm, if_neg e]
      rw [e1]
      refine ⟨?_, fun i hi a a2 => ?_⟩
      · rcases h1 with z | ⟨i, hi, a, a2, z⟩
        · exact Or.inl z
        · exact Or.inr ⟨i, by omega, a, a2, z⟩
      · by_cases z : i = m
        · subst z
          exact absurd ⟨a, a2⟩ e
        · exact h2 i (by omega) a a2
/-- it is the least heap of all that do -/
theorem n_lh_spec {σ : St} (hw : Wf σ) (hw2 : Wf2 σ) {b : Nat} (hb : b < 6) {W : (Nat → Nat) → Nat} (hW : W_mono W) {f : Nat} (hf : f < 2 ^ σ 0 0) : b_sub (n_lh σ b W f) f ∧ n_worth σ b (n_lh σ b W f) + W (n_cnt σ (b_nd f (n_lh σ b W f))) = nVi σ b W (n_cnt σ f) (σ 9 b) ∧ ∀ h, b_sub h f → n_worth σ b h + W (n_cnt σ (b_nd f h)) = nVi σ b W (n_cnt σ f) (σ 9 b) → n_lh σ b W f ≤ h := by
  unfold n_lh
  by_cases e : W (n_cnt σ f) = nVi σ b W (n_cnt σ f) (σ 9 b)
  · rw [if_pos e]
    refine ⟨b_sub_0 f, ?_, fun h _ _ => Nat.zero_le _⟩
    rw [b_nd_0, n_worth_0 hw2 hb, e]
    omega
  · rw [if_neg e]
    obtain ⟨s1, s2⟩ := n_lm_spec (σ := σ) (b := b) (W := W) (f := f) (σ 9 b)
    have ex : ∃ i, i < σ 9 b ∧ n_is σ b (n_cnt σ f) i = true ∧ σ 10 (6 * b + i) + W (fun s => n_cnt σ f s - n_nd σ b i s) = nVi σ b W (n_cnt σ f) (σ 9 b) := by
      rcases nVi_at (σ := σ) (b := b) (W := W) (c := n_cnt σ f) (σ 9 b) with a | a
      · exact absurd a.symm e
      · exact a
    have pk : ∃ i, i < σ 9 b ∧ n_is σ b (n_cnt σ f) i = true ∧ σ 10 (6 * b + i) + W (fun s => n_cnt σ f s - n_nd σ b i s) = nVi σ b W (n_cnt σ f) (σ 9 b) ∧ n_lm σ b W f (σ 9 b) = n_gi σ b f i := by
      rcases s1 with z | z
      · obtain ⟨i, hi, a, a2⟩ := ex
        exact ⟨i, hi, a, a2, by rw [z, (s2 i hi a a2).2 z]⟩
      · exact z
    obtain ⟨i, hi, a, a2, a3⟩ := pk
    refine ⟨by rw [a3]; exact n_gi_sub, ?_, fun h hs hv => ?_⟩
    · have h1 := n_gi_val hW hi a
      have h2 := n_val_le (σ := σ) (b := b) hW (n_gi_sub (σ := σ) (b := b) (f := f) (i := i))
      rw [a3]
      omega
    · have hc := n_cnt_nd (σ := σ) hs
      obtain ⟨g1, g2⟩ := nVi_ge (σ := σ) (b := b) (W := W) (c := n_cnt σ f) (σ 9 b)
      rcases n_wx (σ := σ) (b := b) (c := n_cnt σ h) with z | ⟨i', hi', e1, e2⟩
      · have z' : n_worth σ b h = 0 := z
        have := hW (n_cnt σ (b_nd f h)) (n_cnt σ f) (fun s _ => by have := hc s; omega)
        omega
      · have e' : n_worth σ b h = σ 10 (6 * b + i') := e2
        have his : n_is σ b (n_cnt σ f) i' = true := n_is_mono (fun s _ => by have := hc s; omega) e1
        have m := (n_is_iff.1 e1).2
        have hq := g2 i' hi' his
        have hm := hW (n_cnt σ (b_nd f h)) (fun s => n_cnt σ f s - n_nd σ b i' s) (fun s hs' => by
          have h1 := hc s
          have h2 := m s hs'
          show _ ≤ n_cnt σ f s - n_nd σ b i' s
          omega)
        have l1 := (s2 i' hi' his (by omega)).1
        have l2 := q_pk_min hw (r := fun j => j) (w := fun l => 2 ^ l) (rest := f) (h := h) (nd := n_nd σ b i') (q_pm_id _) (fun i j hij _ => Nat.pow_le_pow_right (by decide) (by omega)) hs (fun s hs' => m s hs')
        have hhl := b_sub_le hs
        have hgl : n_gi σ b f i' < 2 ^ σ 0 0 := Nat.lt_of_le_of_lt (b_sub_le n_gi_sub) hf
        have l2b : q_wt σ (fun l => 2 ^ l) h = h := q_wt_bits (by omega)
        have l3 : q_wt σ (fun l => 2 ^ l) (n_gi σ b f i') = n_gi σ b f i' := q_wt_bits hgl
        have l4 : q_wt σ (fun l => 2 ^ l) (q_pk σ (fun j => j) f (n_nd σ b i')) = q_wt σ (fun l => 2 ^ l) (n_gi σ b f i') := rfl
        rw [l4, l3, l2b] at l2
        omega
/-- what is left ahead of the buyer b; his heap -/
def n_fr (σ : St) : Nat → Nat
  | 0 => 2 ^ σ 0 0 - 1
  | b + 1 => b_nd (n_fr σ b) (n_lh σ b (nV σ (σ 5 0 - (b + 1))) (n_fr σ b))
theorem n_fr_lt {σ : St} : ∀ b, n_fr σ b < 2 ^ σ 0 0
  | 0 => by
    have : 0 < 2 ^ σ 0 0 := Nat.pow_pos (by decide)
    show 2 ^ σ 0 0 - 1 < _
    omega
  | b + 1 => Nat.lt_of_le_of_lt (b_nd_le _ _) (n_fr_lt b)
def n_dh (σ : St) (b : Nat) : Nat := n_lh σ b (nV σ (σ 5 0 - (b + 1))) (n_fr σ b)
def n_dw (σ : St) : Nat := nV σ (σ 5 0) (n_cnt σ (2 ^ σ 0 0 - 1))
def sp_dealt (σ : St) (b : Int) : Int × St := (if b = -1 then (n_dw σ : Int) else if ¬ (0 ≤ b ∧ b < σ 5 0) then -1 else (n_dh σ b.toNat : Int), σ)
theorem nV_b {σ : St} {b : Nat} (hb : b < σ 5 0) : nV σ (σ 5 0 - b) = fun c => nVi σ b (nV σ (σ 5 0 - (b + 1))) c (σ 9 b) := by
  rw [show σ 5 0 - b = (σ 5 0 - (b + 1)) + 1 by omega, nV, show σ 5 0 - (σ 5 0 - (b + 1) + 1) = b by omega]
