/-! learn -/
def l_tot (g : Nat → Nat → Int) (k : Nat) : Nat → Int
  | 0 => 0
  | d + 1 => l_tot g k d + g d k
def l_lk (t : Nat → Int) : Nat → Nat
  | 0 => 0
  | k + 1 => if t (l_lk t k) < t (k + 1) then k + 1 else l_lk t k
theorem l_lk_le (t : Nat → Int) : ∀ k, l_lk t k ≤ k
  | 0 => Nat.le_refl _
  | k + 1 => by
    have := l_lk_le t k
    unfold l_lk
    split <;> omega
/-- who leads ahead of the day d -/
def l_ld (g : Nat → Nat → Int) (d : Nat) : Nat := l_lk (fun k => l_tot g k d) 2
theorem l_ld_lt (g : Nat → Nat → Int) (d : Nat) : l_ld g d < 3 := by
  have := l_lk_le (fun k => l_tot g k d) 2
  unfold l_ld
  omega
def l_br (g : Nat → Nat → Int) : Nat → Int
  | 0 => 0
  | d + 1 => l_br g d + g d (l_ld g d)
theorem l_tot_le {g : Nat → Nat → Int} {k n : Nat} (hg : ∀ d, d < n → -1000 ≤ g d k ∧ g d k ≤ 1000) : ∀ d, d ≤ n → -1000 * (d : Int) ≤ l_tot g k d ∧ l_tot g k d ≤ 1000 * (d : Int)
  | 0, _ => ⟨by show -1000 * ((0 : Nat) : Int) ≤ 0; omega, by show (0 : Int) ≤ _; omega⟩
  | d + 1, h => by
    have ih := l_tot_le hg d (by omega)
    have := hg d (by omega)
    unfold l_tot
    omega
theorem l_br_le {g : Nat → Nat → Int} {n : Nat} (hg : ∀ d k, d < n → k < 3 → -1000 ≤ g d k ∧ g d k ≤ 1000) : ∀ d, d ≤ n → -1000 * (d : Int) ≤ l_br g d ∧ l_br g d ≤ 1000 * (d : Int)
  | 0, _ => ⟨by show -1000 * ((0 : Nat) : Int) ≤ 0; omega, by show (0 : Int) ≤ _; omega⟩
  | d + 1, h => by
    have ih := l_br_le hg d (by omega)
    have := hg d (l_ld g d) (by omega) (l_ld_lt g d)
    unfold l_br
    omega
def l_g (σ : St) (b : Nat) (c : Int) (d k : Nat) : Int := d_gain σ b (c + 10 * (k : Int)) (σ 16 d)
theorem l_g_le {σ : St} (hw : Wf σ) {b : Nat} {c : Int} (hb : b < 6) (d k : Nat) (hd : d < σ 15 0) : -1000 ≤ l_g σ b c d k ∧ l_g σ b c d k ≤ 1000 := by
  have h := d_gn_le (k := kx σ b (c + 10 * (k : Int))) (T := (σ 16 d : Int)) hw (or_st hw) (by omega) hb
  unfold l_g d_gain
  omega
def sp_learn (σ : St) (b c w : Int) : Int × St := (if ¬ (0 ≤ b ∧ b < σ 5 0) then -1000000001 else if (c < 0 ∨ 79 < c) ∨ ((w < 0 ∨ 2 < w) ∧ (w < 10 ∨ 17 < w)) then -1000000002 else if 10 ≤ w then (if (σ 15 0 : Int) ≤ w - 10 then -6 else c + 10 * (l_ld (l_g σ b.toNat c) (w - 10).toNat : Int)) else if w = 0 then l_br (l_g σ b.toNat c) (σ 15 0) else if w = 1 then l_tot (l_g σ b.toNat c) (l_ld (l_g σ b.toNat c) (σ 15 0)) (σ 15 0) else l_tot (l_g σ b.toNat c) (l_ld (l_g σ b.toNat c) (σ 15 0)) (σ 15 0) - l_br (l_g σ b.toNat c) (σ 15 0), σ)
theorem kc_leader {M : mM} {t : Nat → Int} (ht : ∀ k, k < 3 → M 78 k = t k) : C_ kk_X7_leader [v_P 75] M (fun r M' => M' = M ∧ r = l_lk t 2) := by
  refine c_intro (by decide) rfl (Nat.le_of_ble_eq_true rfl) (by simp [m_dv, Value.category]) (wp_X7_leader_0 ?_)
  have loop : ∀ (m k : Nat), k + m = 2 → X_ kk_X7_leader 4 [v_P 75, v_I (l_lk t k : Int), v_I ((k : Int) + 1)] [] M (fun r M' => M' = M ∧ r = l_lk t 2) := by
    intro m
    induction m with
    | zero =>
      intro k hk
      refine wp_X7_leader_4 ⟨fun _ => ⟨rfl, by rw [show k = 2 by omega]⟩, fun y => absurd y (by omega)⟩
    | succ m ih =>
      intro k hk
      have hle := l_lk_le t k
      have nx := ih (k + 1) (by omega)
      refine wp_X7_leader_4 ⟨fun y => absurd y (by omega), fun _ => ?_⟩
      rw [show ((k : Int) + 1).toNat = k + 1 by omega, Int.toNat_natCast, ht (k + 1) (by omega), ht _ (by omega)]
      refine ⟨by omega, by omega, fun z => ⟨⟨by omega, by omega⟩, ?_⟩, fun z => ⟨⟨by omega, by omega⟩, ?_⟩⟩
      · have e : l_lk t (k + 1) = l_lk t k := by rw [l_lk, if_neg (by omega)]
        rw [e] at nx; exact nx
      · have e : l_lk t (k + 1) = k + 1 := by rw [l_lk, if_pos (by omega)]
        rw [e] at nx; exact nx
  exact loop 2 0 (by omega)
theorem kc_follow {σ : St} {M : mM} {b : Nat} {c : Int} (hw : Wf σ) (h2 : Wf2 σ) (h : CR σ M) (hb : b < σ 5 0) (hc : 0 ≤ c ∧ c ≤ 79) : C_ kk_X7_follow [v_P 75, v_I (b : Int), v_I c] M (fun _ M' => (∀ k, k < 3 → M' 78 k = l_tot (l_g σ b c) k (σ 15 0)) ∧ M' 75 5 = l_br (l_g σ b c) (σ 15 0) ∧ (∀ d, d < σ 15 0 → M' 77 d = c + 10 * (l_ld (l_g σ b c) d : Int)) ∧ (∀ p, p < 30 ∨ 48 ≤ p → p ≠ 75 → p ≠ 77 → p ≠ 78 → M' p = M p) ∧ M' 75 2 = M 75 2) := by
  have hnb := hw.2.2.2.1
  have h15 := hw.2.2.2.2.2.2.2.2.1
  have h16 := hw.2.2.2.2.2.2.2.2.2.1
  have hgl : ∀ d k, d < σ 15 0 → k < 3 → -1000 ≤ l_g σ b c d k ∧ l_g σ b c d k ≤ 1000 := fun d k hd _ => l_g_le hw (by omega) d k hd
  have hgx : ∀ d k : Nat, d_gain σ b (c + 10 * (k : Int)) (σ 16 d) = l_g σ b c d k := fun _ _ => rfl
  generalize l_g σ b c = g at hgl hgx ⊢
  refine c_intro (by decide) rfl (Nat.le_of_ble_eq_true rfl) (by simp [m_dv, Value.category]) (wp_X7_follow_0 ?_)
  have hE := h.2.2.2.2.2.2
  -- the days
  have days : ∀ (m d : Nat) (N : mM), d + m = σ 15 0 → (∀ k, k < 3 → N 78 k = l_tot g k d) → N 75 5 = l_br g d → (∀ d', d' < d → N 77 d' = c + 10 * (l_ld g d' : Int)) → (∀ p, p < 30 ∨ 48 ≤ p → p ≠ 75 → p ≠ 77 → p ≠ 78 → N p = M p) → N 75 2 = M 75 2 → X_ kk_X7_follow 27 [v_P 75, v_I (b : Int), v_I c, v_I (d : Int), v_U, v_U, v_U] [] N (fun _ M' => (∀ k, k < 3 → M' 78 k = l_tot g k (σ 15 0)) ∧ M' 75 5 = l_br g (σ 15 0) ∧ (∀ d, d < σ 15 0 → M' 77 d = c + 10 * (l_ld g d : Int)) ∧ (∀ p, p < 30 ∨ 48 ≤ p → p ≠ 75 → p ≠ 77 → p ≠ 78 → M' p = M p) ∧ M' 75 2 = M 75 2) := by
    intro m
    induction m with
    | zero =>
      intro d N hd n1 n2 n3 n4 n5
      have : d = σ 15 0 := by omega
      subst this
      refine wp_X7_follow_27 ⟨fun _ => ⟨n1, n2, n3, n4, n5⟩, fun y => absurd y (by rw [n5, hE.1]; omega)⟩
    | succ m ih =>
      intro d N hd n1 n2 n3 n4 n5
      refine wp_X7_follow_27 ⟨fun y => absurd y (by rw [n5, hE.1]; omega), fun _ => ⟨_, kc_leader n1, fun r2 M3 _ _ e3 => ?_⟩⟩
      obtain ⟨e3a, rfl⟩ := e3
      subst e3a
      have eld : l_lk (fun k => l_tot g k d) 2 = l_ld g d := rfl
      have hld := l_ld_lt g d
      rw [eld, Int.toNat_natCast, n1 _ hld]
      refine ⟨by omega, ?_⟩
      have hbr := l_br_le hgl d (by omega)
      have hg' := hgl d (l_ld g d) (by omega) hld
      have inner : ∀ (j k : Nat) (N' : mM), k + j = 3 → (∀ k', k' < k → N' 78 k' = l_tot g k' (d + 1)) → (∀ k', k ≤ k' → k' < 3 → N' 78 k' = l_tot g k' d) → (∀ p, p < 30 ∨ 48 ≤ p → p ≠ 78 → N' p = M3 p) → X_ kk_X7_follow 53 [v_P 75, v_I (b : Int), v_I c, v_I (d : Int), v_I (l_ld g d : Int), v_I (l_tot g (l_ld g d) d), v_I (k : Int)] [] N' (fun _ M' => (∀ k, k < 3 → M' 78 k = l_tot g k (σ 15 0)) ∧ M' 75 5 = l_br g (σ 15 0) ∧ (∀ d, d < σ 15 0 → M' 77 d = c + 10 * (l_ld g d : Int)) ∧ (∀ p, p < 30 ∨ 48 ≤ p → p ≠ 75 → p ≠ 77 → p ≠ 78 → M' p = M p) ∧ M' 75 2 = M 75 2) := by
        intro j
        induction j with
        | zero =>
          intro k N' hk a1 a2 a3
          refine wp_X7_follow_53 ⟨fun _ => ?_, fun y => absurd y (by omega)⟩
          have e1 : l_tot g (l_ld g d) (d + 1) - l_tot g (l_ld g d) d = g d (l_ld g d) := by
            have : l_tot g (l_ld g d) (d + 1) = l_tot g (l_ld g d) d + g d (l_ld g d) := rfl
            omega
          have e2 : l_br g d + g d (l_ld g d) = l_br g (d + 1) := rfl
          rw [Int.toNat_natCast, Int.toNat_natCast, a1 _ (by omega), e1, a3 75 (by omega) (by omega), n2, e2]
          refine ⟨⟨by omega, by omega⟩, ⟨by omega, by omega⟩, by omega, by omega, ⟨by omega, by omega⟩, ⟨by omega, by omega⟩, fun M7 e7 => ⟨⟨by omega, by omega⟩, ?_⟩⟩
          refine ih (d + 1) M7 (by omega) (fun k' hk' => by rw [e7]; simp (disch := omega) only [up_row, up_slot, up_hit, su_row, su_slot, su_hit]; exact a1 k' (by omega)) (by rw [e7]; simp (disch := omega) only [up_row, up_slot, up_hit, su_row, su_slot, su_hit]) (fun d' hd' => ?_) (fun p hp p1 p2 p3 => by rw [e7]; simp (disch := omega) only [up_row, up_slot, up_hit, su_row, su_slot, su_hit]; rw [a3 p hp p3]; exact n4 p hp p1 p2 p3) (by rw [e7]; simp (disch := omega) only [up_row, up_slot, up_hit, su_row, su_slot, su_hit]; rw [a3 75 (by omega) (by omega)]; exact n5)
          rw [e7]
          by_cases e : d' = d
          · subst e; simp (disch := omega) only [up_row, up_slot, up_hit, su_row, su_slot, su_hit]
          · simp (disch := omega) only [up_row, up_slot, up_hit, su_row, su_slot, su_hit]; rw [a3 77 (by omega) (by omega)]; exact n3 d' (by omega)
        | succ j ihj =>
          intro k N' hk a1 a2 a3
          have hN' : CR σ N' := CR_fr h (fun p hp => by rw [a3 p (by omega) (by omega)]; exact n4 p (by omega) (by omega) (by omega) (by omega)) (by rw [a3 75 (by omega) (by omega)]; exact n5)
          have e76 : N' 76 d = σ 16 d := hN'.2.2.2.2.2.2.2 d (by omega)
          have t16 := h16 d (by omega)
          refine wp_X7_follow_53 ⟨fun y => absurd y (by omega), fun _ => ?_⟩
          rw [Int.toNat_natCast, Int.toNat_natCast, e76]
          refine ⟨by omega, ⟨by omega, by omega⟩, ⟨by omega, by omega⟩, by omega, _, kc_gainWith (c := c + 10 * (k : Int)) (T := (σ 16 d : Int)) hw h2 hN' hb (by omega) (by omega), fun r15 M16 _ _ e16 => ?_⟩
          obtain ⟨rfl, f16⟩ := e16
          have hgk := hgl d k (by omega) (by omega)
          have htk := l_tot_le (fun d' hd' => hgl d' k hd' (by omega)) d (by omega)
          rw [hgx, a2 k (Nat.le_refl _) (by omega)]
          refine ⟨⟨by omega, by omega⟩, by omega, ⟨by omega, by omega⟩, ?_⟩
          refine ihj (k + 1) _ (by omega) (fun k' hk' => ?_) (fun k' hk' hk3 => ?_) (fun p hp hne => ?_)
          · by_cases e : k' = k
            · subst e; rw [up_hit]; rfl
            · rw [up_slot e, f16 78 (by omega)]; exact a1 k' (by omega)
          · rw [up_slot (by omega), f16 78 (by omega)]; exact a2 k' (by omega) hk3
          · rw [up_row hne, f16 p hp]; exact a3 p hp hne
      exact inner 3 0 M3 (by omega) (fun k' hk' => by omega) (fun k' _ hk' => n1 k' hk') (fun _ _ _ => rfl)
  have st : ∀ (m k : Nat) (N : mM), k + m = 3 → (∀ k', k' < k → N 78 k' = 0) → N 75 5 = 0 → (∀ p, p < 30 ∨ 48 ≤ p → p ≠ 75 → p ≠ 77 → p ≠ 78 → N p = M p) → N 75 2 = M 75 2 → X_ kk_X7_follow 7 [v_P 75, v_I (b : Int), v_I c, v_I (k : Int), v_U, v_U, v_U] [] N (fun _ M' => (∀ k, k < 3 → M' 78 k = l_tot g k (σ 15 0)) ∧ M' 75 5 = l_br g (σ 15 0) ∧ (∀ d, d < σ 15 0 → M' 77 d = c + 10 * (l_ld g d : Int)) ∧ (∀ p, p < 30 ∨ 48 ≤ p → p ≠ 75 → p ≠ 77 → p ≠ 78 → M' p = M p) ∧ M' 75 2 = M 75 2) := by
    intro m
    induction m with
    | zero =>
      intro k N hk n1 n2 n4 n5
      exact wp_X7_follow_7 ⟨fun _ => days (σ 15 0) 0 N (by omega) (fun k' hk' => n1 k' (by omega)) n2 (fun d' hd' => by omega) n4 n5, fun y => absurd y (by omega)⟩
    | succ m ih =>
      intro k N hk n1 n2 n4 n5
      refine wp_X7_follow_7 ⟨fun y => absurd y (by omega), fun _ => ⟨by omega, ⟨by omega, by omega⟩, ?_⟩⟩
      rw [Int.toNat_natCast]
      refine ih (k + 1) _ (by omega) (fun k' hk' => ?_) (by simp (disch := omega) only [up_row, up_slot, up_hit, su_row, su_slot, su_hit]; exact n2) (fun p hp p1 p2 p3 => by simp (disch := omega) only [up_row, up_slot, up_hit, su_row, su_slot, su_hit]; exact n4 p hp p1 p2 p3) (by simp (disch := omega) only [up_row, up_slot, up_hit, su_row, su_slot, su_hit]; exact n5)
      by_cases e : k' = k
      · subst e; simp (disch := omega) only [up_row, up_slot, up_hit, su_row, su_slot, su_hit]
      · simp (disch := omega) only [up_row, up_slot, up_hit, su_row, su_slot, su_hit]; exact n1 k' (by omega)
  exact st 3 0 _ (by omega) (fun k' hk' => by omega) up_hit (fun p hp p1 p2 p3 => up_row p1) (up_slot (by decide))
theorem kc_learn {σ : St} {M : mM} {b c w : Int} (hw : Wf σ) (h2 : Wf2 σ) (h : CR σ M) : C_ kk_X10_learn [v_P 0, v_I b, v_I c, v_I w] M (PC (sp_learn σ b c w) M) := by
  have hnb := hw.2.2.2.1
  have h15 := hw.2.2.2.2.2.2.2.2.1
  refine c_intro (by decide) rfl (Nat.le_of_ble_eq_true rfl) (by simp [m_dv, Value.category]) (wp_X10_learn_0 ?_)
  rw [h.2.1.1, h.2.2.2.2.2.2.1]
  unfold sp_learn
  refine ⟨fun q => ?_, fun q => ?_⟩
  · rw [if_neg (fun z => z q)]
    obtain ⟨b', rfl⟩ := nat_of q.1
    rw [Int.toNat_natCast]
    have fr : ∀ (M' : mM) (x : Int), (∀ p, p < 30 ∨ 48 ≤ p → p ≠ 75 → p ≠ 77 → p ≠ 78 → M' p = M p) → M' 75 2 = M 75 2 → PC (x, σ) M x M' := fun M' x f1 f2 => ⟨rfl, CR_fr h (fun p hp => f1 p (by omega) (by omega) (by omega) (by omega)) f2, fun p hp => f1 p (by omega) (by omega) (by omega) (by omega), Or.inr fun p _ _ => f1 p (by omega) (by omega) (by omega) (by omega)⟩
    refine ⟨fun q2 => ?_, fun q2 => ⟨fun q3 => ⟨fun q4 => ?_, fun q4 => ⟨fun q5 => absurd q5 (by omega), fun q5 => ⟨⟨by omega, by omega⟩, fun q6 => ⟨_, kc_follow hw h2 h (by omega) (by omega), fun r21 M22 _ _ e22 => ⟨fun y => absurd y (by omega), fun _ => ⟨⟨by omega, by omega⟩, by omega, ?_⟩⟩⟩, fun q6 => ?_⟩⟩⟩, fun q3 => ⟨fun q5 => ⟨_, kc_follow hw h2 h (by omega) (by omega), fun r39 M40 _ _ e40 => ⟨fun _ => ?_, fun y => absurd y (by omega)⟩⟩, fun y => absurd y (by omega)⟩⟩⟩
    · rw [if_pos (Or.inl q2)]; exact PC_same h
    · rw [if_pos (Or.inr ⟨q3, q4⟩)]; exact PC_same h
    · obtain ⟨a1, a2, a3, a4, a5⟩ := e22
      rw [if_neg (by omega), if_pos (by omega), if_neg (by omega), a3 _ (by omega)]
      exact fr _ _ a4 a5
    · rw [if_neg (by omega), if_pos (by omega), if_pos (by omega)]
      exact PC_same h
    · obtain ⟨a1, a2, a3, a4, a5⟩ := e40
      refine ⟨_, kc_leader a1, fun r46 M47 _ _ e47 => ?_⟩
      obtain ⟨e47a, rfl⟩ := e47
      subst e47a
      have hgl : ∀ d k, d < σ 15 0 → k < 3 → -1000 ≤ l_g σ b' c d k ∧ l_g σ b' c d k ≤ 1000 := fun d k hd _ => l_g_le hw (by omega) d k hd
      have eld : l_lk (fun k => l_tot (l_g σ b' c) k (σ 15 0)) 2 = l_ld (l_g σ b' c) (σ 15 0) := rfl
      have hld := l_ld_lt (l_g σ b' c) (σ 15 0)
      have hbr := l_br_le hgl (σ 15 0) (Nat.le_refl _)
      have htk := l_tot_le (fun d' hd' => hgl d' (l_ld (l_g σ b' c) (σ 15 0)) hd' hld) (σ 15 0) (Nat.le_refl _)
      rw [eld, Int.toNat_natCast, a1 _ hld, a2, if_neg (by omega), if_neg (by omega)]
      refine ⟨by omega, fun q6 => ⟨fun q7 => ⟨⟨by omega, by omega⟩, ?_⟩, fun q7 => ?_⟩, fun q6 => ?_⟩
      · rw [if_neg q6, if_neg q7]; exact fr _ _ a4 a5
      · rw [if_neg q6, if_pos q7]; exact fr _ _ a4 a5
      · rw [if_pos q6]; exact fr _ _ a4 a5
  · rw [if_pos q]; exact PC_same h
/-! the reference's -/
theorem km_broughtAhead {M : mM} {g : Nat → Nat → Int} {n k d : Nat} (hn : n ≤ 8) (hg : ∀ d k, d < n → k < 3 → -1000 ≤ g d k ∧ g d k ≤ 1000) (hM : ∀ d k, d < n → k < 3 → M 109 (3 * d + k) = g d k) (hk : k < 3) (hd : d ≤ n) : C_ kk_X11_broughtAhead [v_P 79, v_I (k : Int), v_I (d : Int)] M (fun r M' => M' = M ∧ r = l_tot g k d) := by
  refine c_intro (by decide) rfl (Nat.le_of_ble_eq_true rfl) (by simp [m_dv, Value.category]) (wp_X11_broughtAhead_0 ?_)
  have loop : ∀ (m i : Nat), i + m = d → X_ kk_X11_broughtAhead 5 [v_P 79, v_I (k : Int), v_I (d : Int), v_I (l_tot g k i), v_I (i : Int)] [] M (fun r M' => M' = M ∧ r = l_tot g k d) := by
    intro m
    induction m with
    | zero =>
      intro i hi
      exact wp_X11_broughtAhead_5 ⟨fun _ => ⟨rfl, by rw [show i = d by omega]⟩, fun y => absurd y (by omega)⟩
    | succ m ih =>
      intro i hi
      have htk := l_tot_le (fun d' hd' => hg d' k hd' hk) i (by omega)
      have hgk := hg i k (by omega) hk
      refine wp_X11_broughtAhead_5 ⟨fun y => absurd y (by omega), fun _ => ?_⟩
      rw [show (3 * (i : Int) + (k : Int)).toNat = 3 * i + k by omega, hM i k (by omega) hk]
      exact ⟨⟨by omega, by omega⟩, ⟨by omega, by omega⟩, by omega, ⟨by omega, by omega⟩, ⟨by omega, by omega⟩, ih (i + 1) (by omega)⟩
  exact loop d 0 (by omega)
theorem km_bestAhead {M : mM} {g : Nat → Nat → Int} {n d : Nat} (hn : n ≤ 8) (hg : ∀ d k, d < n → k < 3 → -1000 ≤ g d k ∧ g d k ≤ 1000) (hM : ∀ d k, d < n → k < 3 → M 109 (3 * d + k) = g d k) (hd : d ≤ n) : C_ kk_X11_bestAhead [v_P 79, v_I (d : Int)] M (fun r M' => M' = M ∧ r = l_ld g d) := by
  refine c_intro (by decide) rfl (Nat.le_of_ble_eq_true rfl) (by simp [m_dv, Value.category]) (wp_X11_bestAhead_0 ?_)
  have loop : ∀ (m k : Nat), k + m = 2 → X_ kk_X11_bestAhead 4 [v_P 79, v_I (d : Int), v_I (l_lk (fun k => l_tot g k d) k : Int), v_I ((k : Int) + 1)] [] M (fun r M' => M' = M ∧ r = l_ld g d) := by
    intro m
    induction m with
    | zero =>
      intro k hk
      refine wp_X11_bestAhead_4 ⟨fun _ => ⟨rfl, by rw [show k = 2 by omega]; rfl⟩, fun y => absurd y (by omega)⟩
    | succ m ih =>
      intro k hk
      have hle := l_lk_le (fun k => l_tot g k d) k
      have nx := ih (k + 1) (by omega)
      refine wp_X11_bestAhead_4 ⟨fun y => absurd y (by omega), fun _ => ?_⟩
      rw [show (k : Int) + 1 = ((k + 1 : Nat) : Int) by omega]
      refine ⟨_, km_broughtAhead hn hg hM (k := k + 1) (by omega) hd, fun r2 M3 _ _ e3 => ?_⟩
      obtain ⟨e3a, rfl⟩ := e3
      subst e3a
      refine ⟨_, km_broughtAhead hn hg hM (k := l_lk (fun k => l_tot g k d) k) (by omega) hd, fun r9 M10 _ _ e10 => ?_⟩
      obtain ⟨e10a, rfl⟩ := e10
      subst e10a
      refine ⟨fun z => ⟨⟨by omega, by omega⟩, ?_⟩, fun z => ⟨⟨by omega, by omega⟩, ?_⟩⟩
      · have e : l_lk (fun k => l_tot g k d) (k + 1) = l_lk (fun k => l_tot g k d) k := by rw [l_lk, if_neg (by omega)]
        rw [e] at nx; exact nx
      · have e : l_lk (fun k => l_tot g k d) (k + 1) = k + 1 := by rw [l_lk, if_pos (by omega)]
        rw [e] at nx; exact nx
  exact loop 2 0 (by omega)
theorem km_learn {σ : St} {M : mM} {b c w : Int} (hw : Wf σ) (h : MR σ M) : C_ kk_X11_learn [v_P 79, v_I b, v_I c, v_I w] M (PM (sp_learn σ b c w) M) := by
  have hnb := hw.2.2.2.1
  have h15 := hw.2.2.2.2.2.2.2.2.1
  have h16 := hw.2.2.2.2.2.2.2.2.2.1
  have m15 := h.2.2.2.2.2.2.2.2.2.1
  have m16 := h.2.2.2.2.2.2.2.2.2.2
  refine c_intro (by decide) rfl (Nat.le_of_ble_eq_true rfl) (by simp [m_dv, Value.category]) (wp_X11_learn_0 ?_)
  rw [h.2.2.1]
  unfold sp_learn
  refine ⟨by omega, fun q => ?_, fun q => ?_⟩
  · rw [if_neg (fun z => z q)]
    obtain ⟨b', rfl⟩ := nat_of q.1
    rw [Int.toNat_natCast]
    have go : (0 ≤ c ∧ c ≤ 79) → (0 ≤ w ∧ w ≤ 2 ∨ 10 ≤ w ∧ w ≤ 17) → ∀ M3 : mM, (WL σ M3 ∧ ∀ p, p ≠ 92 → M3 p = M p) → (0 ≤ (b' : Int) ∧ (b' : Int) < 6) ∧ X_ kk_X11_learn 68 [v_P 79, v_I (b' : Int), v_I c, v_I w, v_I (M3 85 b'), v_I 0, v_U] [] M3 (PM (if 10 ≤ w then (if (σ 15 0 : Int) ≤ w - 10 then -6 else c + 10 * (l_ld (l_g σ b' c) (w - 10).toNat : Int)) else if w = 0 then l_br (l_g σ b' c) (σ 15 0) else if w = 1 then l_tot (l_g σ b' c) (l_ld (l_g σ b' c) (σ 15 0)) (σ 15 0) else l_tot (l_g σ b' c) (l_ld (l_g σ b' c) (σ 15 0)) (σ 15 0) - l_br (l_g σ b' c) (σ 15 0), σ) M) := by
      intro hc hww M3 e3
      obtain ⟨hW, f3⟩ := e3
      refine ⟨by omega, ?_⟩
      rw [f3 85 (by decide)]
      have hgl : ∀ d k, d < σ 15 0 → k < 3 → -1000 ≤ l_g σ b' c d k ∧ l_g σ b' c d k ≤ 1000 := fun d k hd _ => l_g_le hw (by omega) d k hd
      have hgx : ∀ d k : Nat, d_gn σ (d_end σ (σ 4) (σ 16 d) (kx σ b' (c + 10 * (k : Int)))) b' = l_g σ b' c d k := fun _ _ => rfl
      generalize l_g σ b' c = g at hgl hgx ⊢
      generalize hres : (if 10 ≤ w then (if (σ 15 0 : Int) ≤ w - 10 then -6 else c + 10 * (l_ld g (w - 10).toNat : Int)) else if w = 0 then l_br g (σ 15 0) else if w = 1 then l_tot g (l_ld g (σ 15 0)) (σ 15 0) else l_tot g (l_ld g (σ 15 0)) (σ 15 0) - l_br g (σ 15 0)) = res
      -- picking
      have pick : ∀ (m d : Nat) (N : mM), d + m = σ 15 0 → (∀ d k, d < σ 15 0 → k < 3 → N 109 (3 * d + k) = g d k) → (∀ d', d' < d → N 110 d' = l_ld g d') → (∀ p, p < 92 ∨ p = 101 ∨ p = 108 → N p = M p) → X_ kk_X11_learn 149 [v_P 79, v_U, v_I c, v_I w, v_U, v_I (l_br g d), v_I (d : Int)] [] N (PM (res, σ) M) := by
        intro m
        induction m with
        | zero =>
          intro d N hd n1 n2 n3
          have : d = σ 15 0 := by omega
          subst this
          have e36 : N 79 36 = σ 15 0 := by rw [n3 79 (by omega)]; exact m15
          refine wp_X11_learn_149 ?_
          rw [e36]
          refine ⟨fun _ => ⟨fun q3 => ?_, fun q3 => ⟨⟨by omega, by omega⟩, fun q4 => ?_, fun q4 => ?_⟩⟩, fun y => absurd y (by omega)⟩
          · refine ⟨_, km_bestAhead h15 hgl n1 (Nat.le_refl _), fun r2 M4 _ _ e4 => ?_⟩
            obtain ⟨e4a, rfl⟩ := e4
            subst e4a
            rw [e36]
            refine ⟨_, km_broughtAhead h15 hgl n1 (l_ld_lt _ _) (Nat.le_refl _), fun r9 M10 _ _ e10 => ?_⟩
            obtain ⟨e10a, rfl⟩ := e10
            subst e10a
            have hbr := l_br_le hgl (σ 15 0) (Nat.le_refl _)
            have htk := l_tot_le (fun d' hd' => hgl d' (l_ld g (σ 15 0)) hd' (l_ld_lt _ _)) (σ 15 0) (Nat.le_refl _)
            rw [if_neg (by omega)] at hres
            refine ⟨fun q6 => ⟨fun q7 => ⟨⟨by omega, by omega⟩, ?_⟩, fun q7 => ?_⟩, fun q6 => ?_⟩
            · rw [if_neg q6, if_neg q7] at hres; rw [hres]; exact PM_fr h n3
            · rw [if_neg q6, if_pos q7] at hres; rw [hres]; exact PM_fr h n3
            · rw [if_pos q6] at hres; rw [hres]; exact PM_fr h n3
          · rw [if_pos (by omega), if_pos q4] at hres
            rw [hres]; exact PM_fr h n3
          · rw [if_pos (by omega), if_neg q4] at hres
            have hl3 := l_ld_lt g (w - 10).toNat
            rw [n2 _ (by omega), hres]
            exact ⟨⟨by omega, by omega⟩, by omega, ⟨by omega, by omega⟩, ⟨by omega, by omega⟩, PM_fr h n3⟩
        | succ m ih =>
          intro d N hd n1 n2 n3
          have e36 : N 79 36 = σ 15 0 := by rw [n3 79 (by omega)]; exact m15
          refine wp_X11_learn_149 ?_
          rw [e36]
          refine ⟨fun y => absurd y (by omega), fun _ => ⟨_, km_bestAhead h15 hgl n1 (d := d) (by omega), fun r22 M23 _ _ e23 => ?_⟩⟩
          obtain ⟨e23a, rfl⟩ := e23
          subst e23a
          have hld := l_ld_lt g d
          have hbr := l_br_le hgl d (by omega)
          have hgk := hgl d (l_ld g d) (by omega) hld
          rw [show (3 * (d : Int) + (l_ld g d : Int)).toNat = 3 * d + l_ld g d by omega, n1 d _ (by omega) hld, Int.toNat_natCast]
          refine ⟨by omega, ⟨by omega, by omega⟩, by omega, ⟨by omega, by omega⟩, by omega, ⟨by omega, by omega⟩, ⟨by omega, by omega⟩, ?_⟩
          refine ih (d + 1) _ (by omega) (fun d' k hd' hk => by simp (disch := omega) only [up_row, up_slot, up_hit, su_row, su_slot, su_hit]; exact n1 d' k hd' hk) (fun d' hd' => ?_) (fun p hp => by simp (disch := omega) only [up_row, up_slot, up_hit, su_row, su_slot, su_hit]; exact n3 p hp)
          by_cases e : d' = d
          · subst e; simp (disch := omega) only [up_row, up_slot, up_hit, su_row, su_slot, su_hit]
          · simp (disch := omega) only [up_row, up_slot, up_hit, su_row, su_slot, su_hit]; exact n2 d' (by omega)
      -- the days
      have days : ∀ (m d : Nat) (N : mM), d + m = σ 15 0 → WL σ N → (∀ d' k, d' < d → k < 3 → N 109 (3 * d' + k) = g d' k) → (∀ p, p < 92 ∨ p = 101 ∨ p = 108 → p ≠ 85 → N p = M p) → (∀ i, i ≠ b' → N 85 i = M 85 i) → X_ kk_X11_learn 68 [v_P 79, v_I (b' : Int), v_I c, v_I w, v_I (M 85 b'), v_I (d : Int), v_U] [] N (PM (res, σ) M) := by
        intro m
        induction m with
        | zero =>
          intro d N hd nW n1 n3 n85
          have ff : ∀ p, p < 92 ∨ p = 101 ∨ p = 108 → m_up N 85 b' (M 85 b') p = M p := fun p hp => by
            by_cases e : p = 85
            · subst e
              funext i
              by_cases e2 : i = b'
              · subst e2; exact up_hit
              · rw [up_slot e2]; exact n85 i e2
            · rw [up_row e]; exact n3 p hp e
          refine wp_X11_learn_68 ?_
          rw [n3 79 (by omega) (by omega), m15, Int.toNat_natCast]
          exact ⟨fun _ => ⟨by omega, pick (σ 15 0) 0 _ (by omega) (fun d' k hd' hk => by simp (disch := omega) only [up_row, up_slot, up_hit, su_row, su_slot, su_hit]; exact n1 d' k (by omega) hk) (fun d' hd' => by omega) ff⟩, fun y => absurd y (by omega)⟩
        | succ m ih =>
          intro d N hd nW n1 n3 n85
          refine wp_X11_learn_68 ?_
          rw [n3 79 (by omega) (by omega), m15]
          refine ⟨fun y => absurd y (by omega), fun _ => ?_⟩
          have inner : ∀ (j k : Nat) (N' : mM), k + j = 3 → WL σ N' → (∀ d' k', d' < d ∨ (d' = d ∧ k' < k) → k' < 3 → N' 109 (3 * d' + k') = g d' k') → (∀ p, p < 92 ∨ p = 101 ∨ p = 108 → p ≠ 85 → N' p = M p) → (∀ i, i ≠ b' → N' 85 i = M 85 i) → X_ kk_X11_learn 80 [v_P 79, v_I (b' : Int), v_I c, v_I w, v_I (M 85 b'), v_I (d : Int), v_I (k : Int)] [] N' (PM (res, σ) M) := by
            intro j
            induction j with
            | zero =>
              intro k N' hk a0 a1 a3 a85
              refine wp_X11_learn_80 ⟨fun _ => ⟨⟨by omega, by omega⟩, ih (d + 1) N' (by omega) a0 (fun d' k' hd' hk' => a1 d' k' (by omega) hk') a3 a85⟩, fun y => absurd y (by omega)⟩
            | succ j ihj =>
              intro k N' hk a0 a1 a3 a85
              have t16 := h16 d (by omega)
              have e108 : N' 108 d = σ 16 d := by rw [a3 108 (by omega) (by omega)]; exact m16 d (by omega)
              have hMD : MD σ (σ 4) (kx σ b' (c + 10 * (k : Int))) (m_up N' 85 b' (c + 10 * (k : Int))) := MD_cut h (WL_of a0 (up_row (by decide))) (fun p hp hne => by rw [up_row hne]; exact a3 p (by omega) hne) (fun i hi => by rw [up_slot hi]; exact a85 i hi) up_hit
              refine wp_X11_learn_80 ⟨fun y => absurd y (by omega), fun _ => ?_⟩
              rw [Int.toNat_natCast, Int.toNat_natCast, e108]
              refine ⟨⟨by omega, by omega⟩, ⟨by omega, by omega⟩, by omega, ⟨by omega, by omega⟩, ⟨by omega, by omega⟩, by omega, _, km_gainOf (T := (σ 16 d : Int)) hw (or_st hw) (by omega) (kx_ok hw (by omega)) hMD (by omega), fun r9 M10 _ _ e10 => ?_⟩
              obtain ⟨rfl, f10⟩ := e10
              rw [hgx, show (3 * (d : Int) + (k : Int)).toNat = 3 * d + k by omega]
              refine ⟨by omega, ⟨by omega, by omega⟩, ?_⟩
              refine ihj (k + 1) _ (by omega) (WL_of a0 (by rw [up_row (by decide), f10 92 (by omega), up_row (by decide)])) (fun d' k' hd' hk' => ?_) (fun p hp hne => by rw [up_row (by omega), f10 p (by omega), up_row hne]; exact a3 p hp hne) (fun i hi => by rw [up_row (by omega), f10 85 (by omega), up_slot hi]; exact a85 i hi)
              by_cases e : d' = d ∧ k' = k
              · obtain ⟨rfl, rfl⟩ := e
                exact up_hit
              · rw [up_slot (by omega), f10 109 (by omega), up_row (by omega)]
                exact a1 d' k' (by omega) hk'
          exact inner 3 0 N (by omega) nW (fun d' k' hd' hk' => n1 d' k' (by omega) hk') n3 n85
      exact days (σ 15 0) 0 M3 (by omega) hW (fun d' k hd' => by omega) (fun p hp hne => f3 p (by omega)) (fun i _ => by rw [f3 85 (by decide)])
    refine ⟨fun q2 => ⟨fun q3 => ⟨_, km_layWorths hw h, fun r2 M3 _ _ e3 => ?_⟩, fun q3 => ⟨fun q4 => ⟨_, km_layWorths hw h, fun r2 M3 _ _ e3 => ?_⟩, fun q4 => ?_⟩⟩, fun q2 => ?_⟩
    · rw [if_neg (by omega)]; exact go q2 (Or.inl q3) M3 e3
    · rw [if_neg (by omega)]; exact go q2 (Or.inr q4) M3 e3
    · rw [if_pos (by omega)]; exact PM_same h
    · rw [if_pos (by omega)]; exact PM_same h
  · rw [if_pos q]; exact PM_same h
