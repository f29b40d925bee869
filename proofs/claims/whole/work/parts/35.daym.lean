/-! the DAY of the reference -/
/-- the worths are laid -/
def WL (σ : St) (M : mM) : Prop := ∀ b h, b < σ 5 0 → h < 2 ^ σ 0 0 → M 92 (256 * b + h) = n_worth σ b h
theorem km_layWorths {σ : St} {M : mM} (hw : Wf σ) (hR : MR σ M) : C_ kk_X11_layWorths [v_P 79] M (fun _ M' => WL σ M' ∧ ∀ p, p ≠ 92 → M' p = M p) := by
  have hnb := hw.2.2.2.1
  have hn8 := hw.1
  have p8 := pow8 hw
  refine c_intro (by decide) rfl (Nat.le_of_ble_eq_true rfl) (by simp [m_dv, Value.category]) (wp_X11_layWorths_0 ?_)
  have loop2 : ∀ (b : Nat), b < σ 5 0 → ∀ (Q : Int → mM → Prop) (N0 : mM), MR σ N0 → (∀ N : mM, (∀ h, h < 2 ^ σ 0 0 → N 92 (256 * b + h) = n_worth σ b h) → (∀ i, i < 256 * b ∨ 256 * b + 256 ≤ i → N 92 i = N0 92 i) → (∀ p, p ≠ 92 → N p = N0 p) → X_ kk_X11_layWorths 2 [v_P 79, v_I ((b : Int) + 1), v_U, v_U] [] N Q) → ∀ (m h : Nat) (N : mM), h + m = 2 ^ σ 0 0 → (∀ h', h' < h → N 92 (256 * b + h') = n_worth σ b h') → (∀ i, i < 256 * b ∨ 256 * b + 256 ≤ i → N 92 i = N0 92 i) → (∀ p, p ≠ 92 → N p = N0 p) → X_ kk_X11_layWorths 12 [v_P 79, v_I (b : Int), v_I (h : Int), v_U] [] N Q := by
    intro b hb Q N0 hR0 hQ m
    induction m with
    | zero =>
      intro h N hm h1 h2 h3
      refine wp_X11_layWorths_12 ?_
      rw [h3 79 (by decide), hR0.1, b_shl1 (by omega)]
      exact ⟨fun _ => ⟨⟨by omega, by omega⟩, hQ N (fun h' hh' => h1 h' (by omega)) h2 h3⟩, fun y => absurd y (by omega)⟩
    | succ m ih =>
      intro h N hm h1 h2 h3
      have hRN : MR σ N := by
        unfold MR at hR0 ⊢
        simp only [h3 79 (by decide), h3 80 (by decide), h3 81 (by decide), h3 82 (by decide), h3 83 (by decide), h3 84 (by decide), h3 85 (by decide), h3 86 (by decide), h3 87 (by decide), h3 88 (by decide), h3 89 (by decide), h3 90 (by decide), h3 91 (by decide), h3 101 (by decide), h3 108 (by decide)]
        exact hR0
      have nx : ∀ v : Int, v = n_worth σ b h → X_ kk_X11_layWorths 12 [v_P 79, v_I (b : Int), v_I ((h : Int) + 1), v_U] [] (m_up N 92 (256 * b + h) v) Q := by
        intro v hv
        refine ih (h + 1) _ (by omega) (fun h' hh' => ?_) (fun i hi => by rw [up_slot (by omega)]; exact h2 i hi) (fun p hp => by rw [up_row hp]; exact h3 p hp)
        by_cases e : h' = h
        · subst e; rw [up_hit]; exact hv
        · rw [up_slot (by omega)]; exact h1 h' (by omega)
      refine wp_X11_layWorths_12 ?_
      rw [h3 79 (by decide), hR0.1, b_shl1 (by omega)]
      refine ⟨fun y => absurd y (by omega), fun _ => ⟨_, km_bestOf hw hRN (by omega) (by omega), fun r3 M4 _ _ e4 => ?_⟩⟩
      obtain ⟨e4a, rfl⟩ := e4
      subst e4a
      rw [show (256 * (b : Int) + (h : Int)).toNat = 256 * b + h by omega]
      have hb9 := (hw.2.2.2.2.1 b (by omega)).2.2.2.1
      rcases n_worth_why (σ := σ) (b := b) (h := h) with ⟨a1, a2⟩ | ⟨a1, a2, a3⟩
      · exact ⟨⟨by omega, by omega⟩, ⟨by omega, by omega⟩, fun z => absurd a1 (by omega), fun _ => ⟨by omega, ⟨by omega, by omega⟩, nx 0 (by rw [a2]; rfl)⟩⟩
      · refine ⟨⟨by omega, by omega⟩, ⟨by omega, by omega⟩, fun _ => ⟨⟨by omega, by omega⟩, ⟨by omega, by omega⟩, by omega, by omega, ⟨by omega, by omega⟩, nx _ ?_⟩, fun z => absurd a1 z⟩
        rw [show (6 * (b : Int) + n_why σ b h).toNat = 6 * b + (n_why σ b h).toNat by omega, ((hRN.2.2.2.2.2.1 b (by omega)).2.2 (n_why σ b h).toNat (by omega)).1, a3]
  have loop : ∀ (m b : Nat) (N : mM), b + m = σ 5 0 → (∀ b' h, b' < b → h < 2 ^ σ 0 0 → N 92 (256 * b' + h) = n_worth σ b' h) → (∀ p, p ≠ 92 → N p = M p) → X_ kk_X11_layWorths 2 [v_P 79, v_I (b : Int), v_U, v_U] [] N (fun _ M' => WL σ M' ∧ ∀ p, p ≠ 92 → M' p = M p) := by
    intro m
    induction m with
    | zero =>
      intro b N hm h1 h2
      refine wp_X11_layWorths_2 ?_
      rw [h2 79 (by decide), hR.2.2.1]
      exact ⟨fun _ => ⟨fun b' h hb' hh => h1 b' h (by omega) hh, h2⟩, fun y => absurd y (by omega)⟩
    | succ m ih =>
      intro b N hm h1 h2
      refine wp_X11_layWorths_2 ?_
      rw [h2 79 (by decide), hR.2.2.1]
      refine ⟨fun y => absurd y (by omega), fun _ => ?_⟩
      have hRN : MR σ N := by
        unfold MR at hR ⊢
        simp only [h2 79 (by decide), h2 80 (by decide), h2 81 (by decide), h2 82 (by decide), h2 83 (by decide), h2 84 (by decide), h2 85 (by decide), h2 86 (by decide), h2 87 (by decide), h2 88 (by decide), h2 89 (by decide), h2 90 (by decide), h2 91 (by decide), h2 101 (by decide), h2 108 (by decide)]
        exact hR
      refine loop2 b (by omega) _ N hRN (fun N' g1 g2 g3 => ?_) (2 ^ σ 0 0) 0 N (by omega) (fun h' hh' => by omega) (fun _ _ => rfl) (fun _ _ => rfl)
      refine ih (b + 1) N' (by omega) (fun b' h hb' hh => ?_) (fun p hp => by rw [g3 p hp]; exact h2 p hp)
      by_cases e : b' = b
      · subst e; exact g1 h hh
      · rw [g2 _ (by omega)]; exact h1 b' h (by omega) hh
  exact loop (σ 5 0) 0 M (by omega) (fun b' h hb' => by omega) (fun _ _ => rfl)
/-- what the reference's DAY goes by -/
def MD (σ : St) (o : Nat → Nat) (k : Nat → Int) (M : mM) : Prop :=
  M 79 4 = σ 0 0 ∧ (∀ j, j < σ 0 0 → M 81 j = σ 2 j ∧ M 82 j = σ 3 j ∧ M 83 j = o j) ∧ M 79 8 = σ 5 0 ∧ (∀ b, b < σ 5 0 → M 84 b = σ 6 b ∧ 100 - M 85 b = k b ∧ M 86 b = σ 8 b) ∧ WL σ M
theorem MD_of {σ : St} {o : Nat → Nat} {k : Nat → Int} {M M' : mM} (h : MD σ o k M) (hf : ∀ p, p < 93 ∨ 100 ≤ p → M' p = M p) : MD σ o k M' := by
  unfold MD WL at h ⊢
  simp only [hf 79 (by decide), hf 81 (by decide), hf 82 (by decide), hf 83 (by decide), hf 84 (by decide), hf 85 (by decide), hf 86 (by decide), hf 92 (by decide)]
  exact h
theorem km_nextPlace {σ : St} {o : Nat → Nat} {k : Nat → Int} {M : mM} {c f : Nat} (hw : Wf σ) (ho : d_or σ o) (hM : MD σ o k M) (hf : f ≤ σ 0 0) : C_ kk_X11_nextPlace [v_P 79, v_I (c : Int), v_I (f : Int)] M (fun r M' => M' = M ∧ r = d_np σ o c f) := by
  have hn8 := hw.1
  refine c_intro (by decide) rfl (Nat.le_of_ble_eq_true rfl) (by simp [m_dv, Value.category]) (wp_X11_nextPlace_0 ?_)
  have loop : ∀ m p, p + m = σ 0 0 → d_np σ o c f = dp σ o c m p → X_ kk_X11_nextPlace 2 [v_P 79, v_I (c : Int), v_U, v_I (p : Int)] [] M (fun r M' => M' = M ∧ r = d_np σ o c f) := by
    intro m
    induction m with
    | zero =>
      intro p hp e
      refine wp_X11_nextPlace_2 ?_
      rw [hM.1]
      exact ⟨fun _ => ⟨rfl, by rw [e]; rfl⟩, fun y => absurd y (by omega)⟩
    | succ m ih =>
      intro p hp e
      have hop := ho.1 p (by omega)
      have h83 := (hM.2.1 p (by omega)).2.2
      have h81 := (hM.2.1 (o p) hop).1
      refine wp_X11_nextPlace_2 ?_
      rw [hM.1, Int.toNat_natCast, h83, Int.toNat_natCast, h81]
      unfold dp at e
      refine ⟨fun y => absurd y (by omega), fun _ => ⟨by omega, by omega, fun y => ⟨rfl, ?_⟩, fun y => ⟨⟨by omega, by omega⟩, ?_⟩⟩⟩
      · rw [if_pos (by omega)] at e
        rw [e]
      · rw [if_neg (by omega)] at e
        exact ih (p + 1) (by omega) e
  exact loop (σ 0 0 - f) f (by omega) rfl
/-- who presses at the needle v -/
def m_pr (σ : St) (o : Nat → Nat) (k : Nat → Int) (D : dD) (c : Nat) (v : Int) : Nat → Int
  | 0 => -6
  | b + 1 => if (σ 3 (o (D 0 c).toNat) : Int) ≤ v ∧ (m_pr σ o k D c v b < 0 ∨ σ 8 b < σ 8 (m_pr σ o k D c v b).toNat) ∧ v ≤ d_re σ o k D c b then b else m_pr σ o k D c v b
theorem m_pr_en {σ : St} {o : Nat → Nat} {T : Int} {k : Nat → Int} {D : dD} {c : Nat} : ∀ n, m_pr σ o k D c (d_en σ o T k D c) n = d_pr σ o T k D c n
  | 0 => rfl
  | n + 1 => by
    unfold m_pr d_pr
    rw [m_pr_en n]
theorem m_pr_spec {σ : St} {o : Nat → Nat} {k : Nat → Int} {D : dD} {c : Nat} {v : Int} : ∀ n, (m_pr σ o k D c v n = -6 ∧ ∀ b, b < n → ¬ ((σ 3 (o (D 0 c).toNat) : Int) ≤ v ∧ v ≤ d_re σ o k D c b)) ∨ (0 ≤ m_pr σ o k D c v n ∧ m_pr σ o k D c v n < n ∧ v ≤ d_re σ o k D c (m_pr σ o k D c v n).toNat)
  | 0 => Or.inl ⟨rfl, fun b hb => by omega⟩
  | n + 1 => by
    have ih := m_pr_spec (σ := σ) (o := o) (k := k) (D := D) (c := c) (v := v) n
    unfold m_pr
    split
    · rename_i e
      refine Or.inr ⟨by omega, by omega, ?_⟩
      rw [Int.toNat_natCast]
      exact e.2.2
    · rename_i e
      rcases ih with ⟨a1, a2⟩ | ⟨a1, a2, a3⟩
      · refine Or.inl ⟨a1, fun b hb z => ?_⟩
        by_cases y : b = n
        · subst y
          exact e ⟨z.1, Or.inl (by omega), z.2⟩
        · exact a2 b (by omega) z
      · exact Or.inr ⟨a1, by omega, a3⟩
theorem d_hi_iff {σ : St} {o : Nat → Nat} {k : Nat → Int} {D : dD} {c : Nat} {v : Int} : ∀ n, v ≤ d_hi σ o k D c n ↔ v ≤ (σ 3 (o (D 0 c).toNat) : Int) ∨ ∃ b, b < n ∧ v ≤ d_re σ o k D c b
  | 0 => ⟨fun h => Or.inl h, fun h => by
    rcases h with h | ⟨b, hb, _⟩
    · exact h
    · omega⟩
  | n + 1 => by
    have ih := d_hi_iff (σ := σ) (o := o) (k := k) (D := D) (c := c) (v := v) n
    unfold d_hi
    constructor
    · intro h
      by_cases y : v ≤ d_hi σ o k D c n
      · rcases ih.1 y with w | ⟨b, hb, w⟩
        · exact Or.inl w
        · exact Or.inr ⟨b, by omega, w⟩
      · exact Or.inr ⟨n, by omega, by omega⟩
    · intro h
      have h' : v ≤ d_hi σ o k D c n ∨ v ≤ d_re σ o k D c n := by
        rcases h with w | ⟨b, hb, w⟩
        · exact Or.inl (ih.2 (Or.inl w))
        · by_cases y : b = n
          · subst y; exact Or.inr w
          · exact Or.inl (ih.2 (Or.inr ⟨b, by omega, w⟩))
      omega
theorem km_presser {σ : St} {o : Nat → Nat} {k : Nat → Int} {D : dD} {M : mM} {c : Nat} {v : Int} (hw : Wf σ) (ho : d_or σ o) (hM : MD σ o k M) (hk : ∀ b, b < σ 5 0 → 0 ≤ k b ∧ k b ≤ 100) (ha : 0 ≤ D 0 c ∧ D 0 c < σ 0 0) (h96 : ∀ b, b < σ 5 0 → M 96 b = D 3 b ∧ M 97 b = D 4 b ∧ 0 ≤ D 3 b ∧ D 3 b < ((2 ^ σ 0 0 : Nat) : Int)) : C_ kk_X11_presser [v_P 79, v_I (o (D 0 c).toNat : Int), v_I v] M (fun r M' => M' = M ∧ r = m_pr σ o k D c v (σ 5 0)) := by
  have hnb := hw.2.2.2.1
  have hn8 := hw.1
  have p8 := pow8 hw
  have hl := ho.1 (D 0 c).toNat (by omega)
  have h82 := (hM.2.1 _ hl).2.1
  refine c_intro (by decide) rfl (Nat.le_of_ble_eq_true rfl) (by simp [m_dv, Value.category]) (wp_X11_presser_0 ?_)
  have loop : ∀ m b, b + m = σ 5 0 → X_ kk_X11_presser 6 [v_P 79, v_I (o (D 0 c).toNat : Int), v_I v, v_I (m_pr σ o k D c v b), v_I (b : Int), v_U, v_U, v_U] [] M (fun r M' => M' = M ∧ r = m_pr σ o k D c v (σ 5 0)) := by
    intro m
    induction m with
    | zero =>
      intro b hb
      refine wp_X11_presser_6 ?_
      rw [hM.2.2.1]
      exact ⟨fun _ => ⟨rfl, by rw [show b = σ 5 0 by omega]⟩, fun z => absurd z (by omega)⟩
    | succ m ih =>
      intro b hb
      have hb5 : b < σ 5 0 := by omega
      obtain ⟨y1, y2, y3, y4⟩ := h96 b hb5
      obtain ⟨h', eh⟩ := nat_of y3
      obtain ⟨z1, z2, z3⟩ := hM.2.2.2.1 b hb5
      have hk' := hk b hb5
      have hor : h' ||| 2 ^ o (D 0 c).toNat < 2 ^ σ 0 0 := Nat.or_lt_two_pow (by omega) (Nat.pow_lt_pow_right (by decide) hl)
      have eor : m_or (h' : Int) (m_shl 1 (o (D 0 c).toNat : Int)) = ((h' ||| 2 ^ o (D 0 c).toNat : Nat) : Int) := by
        rw [b_shl1 (by omega), b_or (by omega) (Nat.pow_lt_pow_right (by decide) (by omega))]
      have i1 : m_ir ((b : Int) + 1) := ⟨by omega, by omega⟩
      have nx := ih (b + 1) (by omega)
      have w1 := n_worth_le hw (b := b) (h := h') (by omega)
      have w2 := n_worth_le hw (b := b) (h := h' ||| 2 ^ o (D 0 c).toNat) (by omega)
      have ebid : Int.tdiv (((n_worth σ b (h' ||| 2 ^ o (D 0 c).toNat) : Int) - n_worth σ b h') * k b) 100 = d_bid σ k D b (o (D 0 c).toNat) := by
        unfold d_bid
        rw [eh, Int.toNat_natCast]
      have hm : -99900 ≤ ((n_worth σ b (h' ||| 2 ^ o (D 0 c).toNat) : Int) - n_worth σ b h') * k b ∧ ((n_worth σ b (h' ||| 2 ^ o (D 0 c).toNat) : Int) - n_worth σ b h') * k b ≤ 99900 := by
        have hx : -999 ≤ (n_worth σ b (h' ||| 2 ^ o (D 0 c).toNat) : Int) - n_worth σ b h' ∧ (n_worth σ b (h' ||| 2 ^ o (D 0 c).toNat) : Int) - n_worth σ b h' ≤ 999 := by omega
        generalize (n_worth σ b (h' ||| 2 ^ o (D 0 c).toNat) : Int) - n_worth σ b h' = x at hx ⊢
        have q1 : x * k b ≤ 999 * k b := Int.mul_le_mul_of_nonneg_right hx.2 hk'.1
        have q2 : -999 * k b ≤ x * k b := Int.mul_le_mul_of_nonneg_right hx.1 hk'.1
        omega
      have no : ¬ ((σ 3 (o (D 0 c).toNat) : Int) ≤ v ∧ (m_pr σ o k D c v b < 0 ∨ σ 8 b < σ 8 (m_pr σ o k D c v b).toNat) ∧ v ≤ d_re σ o k D c b) → X_ kk_X11_presser 6 [v_P 79, v_I (o (D 0 c).toNat : Int), v_I v, v_I (m_pr σ o k D c v b), v_I ((b : Int) + 1), v_U, v_U, v_U] [] M (fun r M' => M' = M ∧ r = m_pr σ o k D c v (σ 5 0)) := by
        intro z
        have e : m_pr σ o k D c v (b + 1) = m_pr σ o k D c v b := by rw [m_pr, if_neg z]
        rw [e] at nx
        exact nx
      have yes : ((σ 3 (o (D 0 c).toNat) : Int) ≤ v ∧ (m_pr σ o k D c v b < 0 ∨ σ 8 b < σ 8 (m_pr σ o k D c v b).toNat) ∧ v ≤ d_re σ o k D c b) → X_ kk_X11_presser 6 [v_P 79, v_I (o (D 0 c).toNat : Int), v_I v, v_I (b : Int), v_I ((b : Int) + 1), v_U, v_U, v_U] [] M (fun r M' => M' = M ∧ r = m_pr σ o k D c v (σ 5 0)) := by
        intro z
        have e : m_pr σ o k D c v (b + 1) = b := by rw [m_pr, if_pos z]
        rw [e] at nx
        exact nx
      have ere : d_re σ o k D c b = if d_bid σ k D b (o (D 0 c).toNat) < 1 then -1 else min (d_bid σ k D b (o (D 0 c).toNat)) (D 4 b) := rfl
      have hs0 : (0 : Int) ≤ σ 3 (o (D 0 c).toNat) := Int.natCast_nonneg _
      refine wp_X11_presser_6 ?_
      rw [hM.2.2.1]
      simp only [Int.toNat_natCast]
      rw [y1, eh, eor]
      rw [show (256 * (b : Int) + ((h' ||| 2 ^ o (D 0 c).toNat : Nat) : Int)).toNat = 256 * b + (h' ||| 2 ^ o (D 0 c).toNat) by omega, show (256 * (b : Int) + (h' : Int)).toNat = 256 * b + h' by omega, hM.2.2.2.2 b _ hb5 hor, hM.2.2.2.2 b h' hb5 (by omega), z2, ebid, h82, y2]
      have n96 : b < 6 := by omega
      refine ⟨fun z => absurd z (by omega), fun _ => ⟨⟨by omega, by omega⟩, by omega, ⟨by omega, by omega⟩, by omega, ⟨by omega, by omega⟩, by omega, ⟨by omega, by omega⟩, by omega, ⟨by omega, by omega⟩, by omega, ⟨by omega, by omega⟩, ⟨by omega, by omega⟩, by omega, fun q => ⟨i1, no (by omega)⟩, fun q => ⟨fun q2 => ⟨i1, no (by rw [ere, if_pos q2]; omega)⟩, fun q2 => ⟨fun q3 => ⟨i1, no (by rw [ere, if_neg q2]; omega)⟩, fun q3 => ⟨by omega, fun q4 => ⟨i1, no (by rw [ere, if_neg q2]; omega)⟩, fun q4 => ⟨fun q5 => ⟨i1, yes ⟨by omega, Or.inl q5, by rw [ere, if_neg q2]; omega⟩⟩, fun q5 => ?_⟩⟩⟩⟩⟩⟩
      rcases m_pr_spec (σ := σ) (o := o) (k := k) (D := D) (c := c) (v := v) b with ⟨a1, -⟩ | ⟨a1, a2, a3⟩
      · omega
      · obtain ⟨f, ef⟩ := nat_of a1
        rw [ef] at no yes a2 ⊢
        simp only [Int.toNat_natCast] at no yes ⊢
        rw [z3, (hM.2.2.2.1 f (by omega)).2.2]
        exact ⟨by omega, by omega, fun q6 => ⟨i1, no (by omega)⟩, fun q6 => ⟨i1, yes ⟨by omega, Or.inr (by omega), by rw [ere, if_neg q2]; omega⟩⟩⟩
  exact loop (σ 5 0) 0 (by omega)
theorem km_sell {M : mM} {l : Nat} {r v t : Int} (hl : l < 8) (hr : r < 6) (hv : 0 ≤ r → 0 ≤ v ∧ v ≤ M 97 r.toNat ∧ M 97 r.toNat ≤ 1000 ∧ 0 ≤ M 96 r.toNat ∧ M 96 r.toNat < 256) : C_ kk_X11_sell [v_P 79, v_I (l : Int), v_I r, v_I v, v_I t] M (fun _ M' => M' = (if r < 0 then m_up (m_up (m_up M 93 l r) 94 l (-6)) 95 l t else m_up (m_up (m_up (m_up (m_up M 93 l r) 94 l v) 95 l t) 96 r.toNat (((M 96 r.toNat).toNat ||| 2 ^ l : Nat) : Int)) 97 r.toNat (M 97 r.toNat - v))) := by
  refine c_intro (by decide) rfl (Nat.le_of_ble_eq_true rfl) (by simp [m_dv, Value.category]) (wp_X11_sell_0 ?_)
  rw [Int.toNat_natCast]
  refine ⟨by omega, fun q => ⟨by omega, by omega, fun z => absurd q (by omega), fun _ => ⟨by omega, by omega, fun M6 e6 => ⟨by omega, ?_, by omega, ?_⟩⟩⟩, fun q => ⟨by omega, by omega, fun _ => by rw [if_pos (by omega)], fun z => absurd q (by omega)⟩⟩
  · have := hv q
    exact ⟨by omega, by omega⟩
  · have h := hv q
    rw [if_neg (by omega), e6]
    obtain ⟨x, ex⟩ := nat_of h.2.2.2.1
    rw [ex, Int.toNat_natCast, b_shl1 (by omega), b_or (by omega) (Nat.pow_lt_pow_right (by decide) (by omega))]
