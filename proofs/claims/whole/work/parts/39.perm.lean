/-! ORDERS: the next order by numbers -/
def p_sw (o : Nat → Nat) (i j : Nat) : Nat → Nat := fun x => if x = j then o i else if x = i then o j else o x
/-- the pivot and 1, or 0 -/
def p_pv (o : Nat → Nat) : Nat → Nat
  | 0 => 0
  | k + 1 => if o (k + 1) < o k then p_pv o k else k + 1
def p_wt (o : Nat → Nat) (v : Nat) : Nat → Nat
  | 0 => 0
  | w + 1 => if o (w + 1) < v then p_wt o v w else w + 1
def p_rv : Nat → Nat → Nat → (Nat → Nat) → Nat → Nat
  | 0, _, _, o => o
  | f + 1, lo, hi, o => if lo < hi then p_rv f (lo + 1) (hi - 1) (p_sw o lo hi) else o
def p_nx (n : Nat) (o : Nat → Nat) : Nat → Nat := if p_pv o (n - 1) = 0 then o else p_rv n (p_pv o (n - 1)) (n - 1) (p_sw o (p_pv o (n - 1) - 1) (p_wt o (o (p_pv o (n - 1) - 1)) (n - 1)))
theorem p_pv_s {o : Nat → Nat} {k : Nat} : p_pv o (k + 1) = if o (k + 1) < o k then p_pv o k else k + 1 := rfl
theorem p_wt_s {o : Nat → Nat} {v w : Nat} : p_wt o v (w + 1) = if o (w + 1) < v then p_wt o v w else w + 1 := rfl
/-- orders as numbers -/
def p_dec (c x : Nat) : Nat := c / 8 ^ x % 8
def p_enc (o : Nat → Nat) : Nat → Nat
  | 0 => 0
  | n + 1 => p_enc o n + o n * 8 ^ n
def p_cs (n : Nat) : Nat → Nat
  | 0 => p_enc (fun x => x) n
  | m + 1 => p_enc (p_nx n (p_dec (p_cs n m))) n
theorem p_enc_lt {o : Nat → Nat} : ∀ {n : Nat}, (∀ x, x < n → o x < 8) → p_enc o n < 8 ^ n
  | 0, _ => Nat.one_pos
  | n + 1, h => by
    have ih := p_enc_lt (o := o) (n := n) (fun x hx => h x (by omega))
    have h2 := h n (by omega)
    have h3 : o n * 8 ^ n ≤ 7 * 8 ^ n := Nat.mul_le_mul_right _ (by omega)
    unfold p_enc
    rw [Nat.pow_succ]
    omega
theorem p_dec_enc {o : Nat → Nat} : ∀ {n : Nat}, (∀ x, x < n → o x < 8) → ∀ x, x < n → p_dec (p_enc o n) x = o x
  | 0, _, x, hx => absurd hx (Nat.not_lt_zero x)
  | n + 1, h, x, hx => by
    have ih := p_dec_enc (o := o) (n := n) (fun x hx => h x (by omega))
    have hl := p_enc_lt (o := o) (n := n) (fun x hx => h x (by omega))
    have h2 := h n (by omega)
    unfold p_dec p_enc
    by_cases e : x = n
    · subst e
      rw [Nat.add_mul_div_right _ _ (Nat.pow_pos (by decide)), Nat.div_eq_of_lt hl, Nat.zero_add, Nat.mod_eq_of_lt h2]
    · have ix := ih x (by omega)
      unfold p_dec at ix
      obtain ⟨d, rfl⟩ : ∃ d, n = x + 1 + d := ⟨n - x - 1, by omega⟩
      have e2 : o (x + 1 + d) * 8 ^ (x + 1 + d) = (o (x + 1 + d) * 8 ^ d * 8) * 8 ^ x := by
        rw [show x + 1 + d = d + (1 + x) by omega, Nat.pow_add, Nat.pow_add, Nat.pow_one]
        simp only [Nat.mul_assoc]
      rw [e2, Nat.add_mul_div_right _ _ (Nat.pow_pos (by decide)), Nat.add_mul_mod_self_right]
      exact ix
/-- an order of n -/
def q_ok (n : Nat) (o : Nat → Nat) : Prop := (∀ x, x < n → o x < n) ∧ ∀ i j, i < n → j < n → o i = o j → i = j
theorem q_ok_of {n : Nat} {o o' : Nat → Nat} (h : q_ok n o) (e : ∀ x, x < n → o' x = o x) : q_ok n o' := ⟨fun x hx => by rw [e x hx]; exact h.1 x hx, fun i j hi hj q => h.2 i j hi hj (by rw [← e i hi, ← e j hj]; exact q)⟩
theorem q_ok_sw {n : Nat} {o : Nat → Nat} {i j : Nat} (h : q_ok n o) (hi : i < n) (hj : j < n) : q_ok n (p_sw o i j) := by
  refine ⟨fun x hx => ?_, fun a b ha hb e => ?_⟩
  · unfold p_sw
    split
    · exact h.1 i hi
    · split
      · exact h.1 j hj
      · exact h.1 x hx
  · unfold p_sw at e
    have q := h.2
    by_cases a1 : a = j
    · by_cases b1 : b = j
      · omega
      · by_cases b2 : b = i
        · rw [if_pos a1, if_neg b1, if_pos b2] at e
          have := q i j hi hj e; omega
        · rw [if_pos a1, if_neg b1, if_neg b2] at e
          have := q i b hi hb e; omega
    · by_cases a2 : a = i
      · by_cases b1 : b = j
        · rw [if_neg a1, if_pos a2, if_pos b1] at e
          have := q j i hj hi e; omega
        · by_cases b2 : b = i
          · omega
          · rw [if_neg a1, if_pos a2, if_neg b1, if_neg b2] at e
            have := q j b hj hb e; omega
      · by_cases b1 : b = j
        · rw [if_neg a1, if_neg a2, if_pos b1] at e
          have := q a i ha hi e; omega
        · by_cases b2 : b = i
          · rw [if_neg a1, if_neg a2, if_neg b1, if_pos b2] at e
            have := q a j ha hj e; omega
          · rw [if_neg a1, if_neg a2, if_neg b1, if_neg b2] at e
            exact q a b ha hb e
theorem q_ok_rv {n : Nat} : ∀ {f lo hi : Nat} {o : Nat → Nat}, q_ok n o → hi < n → q_ok n (p_rv f lo hi o)
  | 0, _, _, _, h, _ => h
  | f + 1, lo, hi, o, h, hh => by
    unfold p_rv
    split
    · exact q_ok_rv (q_ok_sw h (by omega) hh) (by omega)
    · exact h
theorem p_pv_le (o : Nat → Nat) : ∀ k, p_pv o k ≤ k
  | 0 => Nat.le_refl _
  | k + 1 => by
    have := p_pv_le o k
    unfold p_pv
    split <;> omega
theorem p_wt_le (o : Nat → Nat) (v : Nat) : ∀ k, p_wt o v k ≤ k
  | 0 => Nat.le_refl _
  | k + 1 => by
    have := p_wt_le o v k
    unfold p_wt
    split <;> omega
theorem q_ok_nx {n : Nat} {o : Nat → Nat} (h : q_ok n o) : q_ok n (p_nx n o) := by
  unfold p_nx
  split
  · exact h
  · have h1 := p_pv_le o (n - 1)
    have h2 := p_wt_le o (o (p_pv o (n - 1) - 1)) (n - 1)
    exact q_ok_rv (q_ok_sw h (by omega) (by omega)) (by omega)
theorem q_ok_cs {n : Nat} (hn : n ≤ 8) : ∀ m, q_ok n (p_dec (p_cs n m))
  | 0 => q_ok_of (o := fun x => x) ⟨fun x hx => hx, fun i j _ _ e => e⟩ (fun x hx => p_dec_enc (fun y hy => by omega) x hx)
  | m + 1 => by
    have ih := q_ok_nx (q_ok_cs hn m)
    exact q_ok_of ih (fun x hx => p_dec_enc (fun y hy => by have := ih.1 y hy; omega) x hx)
theorem p_cs_nx {n : Nat} (hn : n ≤ 8) (m : Nat) : ∀ x, x < n → p_dec (p_cs n (m + 1)) x = p_nx n (p_dec (p_cs n m)) x := fun x hx => by
  have ih := q_ok_nx (q_ok_cs hn m)
  exact p_dec_enc (fun y hy => by have := ih.1 y hy; omega) x hx
theorem p_enc_of {o o' : Nat → Nat} : ∀ {n : Nat}, (∀ x, x < n → o x = o' x) → p_enc o n = p_enc o' n
  | 0, _ => rfl
  | n + 1, h => by
    unfold p_enc
    rw [p_enc_of (fun x hx => h x (by omega)), h n (by omega)]
/-- at the last order the numbers stay -/
theorem p_cs_stop {n m : Nat} (hn : n ≤ 8) (h : p_pv (p_dec (p_cs n m)) (n - 1) = 0) : p_cs n (m + 1) = p_cs n m := by
  have e : p_nx n (p_dec (p_cs n m)) = p_dec (p_cs n m) := by unfold p_nx; rw [if_pos h]
  have e1 : p_cs n (m + 1) = p_enc (p_nx n (p_dec (p_cs n m))) n := rfl
  rw [e1, e]
  cases m with
  | zero => exact p_enc_of (fun x hx => p_dec_enc (fun y hy => by omega) x hx)
  | succ m => exact p_enc_of (fun x hx => p_cs_nx hn m x hx)
/-- a row of the memory that holds an order -/
def q_in (M : mM) (p n : Nat) (o : Nat → Nat) : Prop := ∀ x, x < n → M p x = o x
theorem q_in_sw {M : mM} {p n i j : Nat} {o : Nat → Nat} (h : q_in M p n o) (hi : i < n) (hj : j < n) : q_in (m_up (m_up M p i (M p j)) p j (M p i)) p n (p_sw o i j) := by
  intro x hx
  unfold p_sw
  by_cases e : x = j
  · subst e
    rw [up_hit, if_pos rfl]; exact h i hi
  · rw [up_slot e, if_neg e]
    by_cases e2 : x = i
    · subst e2
      rw [up_hit, if_pos rfl]; exact h j hj
    · rw [up_slot e2, if_neg e2]; exact h x hx
theorem kc_exchange {M : mM} {i j : Nat} (hi : i < 6) (hj : j < 6) : C_ kk_X2_exchange [v_P 70, v_I (i : Int), v_I (j : Int)] M (fun _ M' => M' = m_up (m_up M 73 i (M 73 j)) 73 j (M 73 i)) := by
  refine c_intro (by decide) rfl (Nat.le_of_ble_eq_true rfl) (by simp [m_dv, Value.category]) (wp_X2_exchange_0 ?_)
  rw [Int.toNat_natCast, Int.toNat_natCast]
  exact ⟨by omega, by omega, by omega, by omega, rfl⟩
theorem kc_stepOn {M : mM} {n : Nat} {o : Nat → Nat} (hn : n ≤ 6) (h1 : M 1 0 = n) (h : q_in M 73 n o) : C_ kk_X2_stepOn [v_P 70] M (fun r M' => r = (if p_pv o (n - 1) = 0 then 0 else 1) ∧ q_in M' 73 n (p_nx n o) ∧ ∀ p, p ≠ 73 → M' p = M p) := by
  refine c_intro (by decide) rfl (Nat.le_of_ble_eq_true rfl) (by simp [m_dv, Value.category]) (wp_X2_stepOn_0 ?_)
  -- turning round
  have rev : ∀ (f lo hi : Nat) (o' : Nat → Nat) (N : mM), p_pv o (n - 1) ≠ 0 → hi ≤ lo + f → hi < n → q_in N 73 n o' → p_rv f lo hi o' = p_nx n o → (∀ p, p ≠ 73 → N p = M p) → X_ kk_X2_stepOn 100 [v_P 70, v_U, v_U, v_I (lo : Int), v_I (hi : Int)] [] N (fun r M' => r = (if p_pv o (n - 1) = 0 then 0 else 1) ∧ q_in M' 73 n (p_nx n o) ∧ ∀ p, p ≠ 73 → M' p = M p) := by
    intro f
    induction f with
    | zero =>
      intro lo hi o' N hp hf hh hN he hfr
      refine wp_X2_stepOn_100 ⟨fun _ => ⟨by rw [if_neg hp], ?_, hfr⟩, fun y => absurd y (by omega)⟩
      rw [← he]; exact hN
    | succ f ih =>
      intro lo hi o' N hp hf hh hN he hfr
      unfold p_rv at he
      refine wp_X2_stepOn_100 ⟨fun z => ⟨by rw [if_neg hp], ?_, hfr⟩, fun z => ⟨_, kc_exchange (by omega) (by omega), fun r2 M3 _ _ e3 => ⟨⟨by omega, by omega⟩, ⟨by omega, by omega⟩, ?_⟩⟩⟩
      · rw [if_neg (by omega)] at he
        rw [← he]; exact hN
      · rw [if_pos (by omega)] at he
        subst e3
        rw [show (lo : Int) + 1 = ((lo + 1 : Nat) : Int) by omega, show (hi : Int) + (-1) = ((hi - 1 : Nat) : Int) by omega]
        exact ih (lo + 1) (hi - 1) _ _ hp (by omega) (by omega) (q_in_sw hN (by omega) (by omega)) he (fun p hp' => by rw [up_row hp', up_row hp']; exact hfr p hp')
  have wth : ∀ (w k : Nat), p_pv o (n - 1) = k + 1 → o k ≤ o (k + 1) → k + 1 ≤ w → w < n → p_wt o (o k) (n - 1) = p_wt o (o k) w → X_ kk_X2_stepOn 53 [v_P 70, v_I (k : Int), v_I (w : Int), v_U, v_U] [] M (fun r M' => r = (if p_pv o (n - 1) = 0 then 0 else 1) ∧ q_in M' 73 n (p_nx n o) ∧ ∀ p, p ≠ 73 → M' p = M p) := by
    intro w
    induction w with
    | zero => intro k _ _ hk; omega
    | succ w ih =>
      intro k hp hko hk hw he
      rw [p_wt_s] at he
      refine wp_X2_stepOn_53 ⟨fun y => absurd y (by omega), fun _ => ?_⟩
      rw [Int.toNat_natCast, Int.toNat_natCast, h k (by omega), h (w + 1) hw]
      refine ⟨by omega, by omega, fun z => ⟨_, kc_exchange (by omega) (by omega), fun r13 M14 _ _ e14 => ⟨⟨by omega, by omega⟩, ?_, ?_⟩⟩, fun z => ⟨⟨by omega, by omega⟩, ?_⟩⟩
      · rw [e14]; simp (disch := omega) only [up_row, up_slot, up_hit, su_row, su_slot, su_hit]; rw [h1]; exact ⟨by omega, by omega⟩
      · have e1 : M14 1 0 = n := by rw [e14]; simp (disch := omega) only [up_row, up_slot, up_hit, su_row, su_slot, su_hit]; exact h1
        rw [e1, show (k : Int) + 1 = ((k + 1 : Nat) : Int) by omega, show (n : Int) - 1 = ((n - 1 : Nat) : Int) by omega]
        rw [if_neg (by omega)] at he
        refine rev n (k + 1) (n - 1) (p_sw o k (w + 1)) M14 (by omega) (by omega) (by omega) (by rw [e14]; exact q_in_sw h (by omega) hw) ?_ (fun p hp' => by rw [e14, up_row hp', up_row hp'])
        unfold p_nx
        rw [if_neg (by omega), hp, Nat.add_sub_cancel, he]
      · rw [if_pos (by omega)] at he
        rw [show ((w + 1 : Nat) : Int) + (-1) = (w : Int) by omega]
        have hne : k + 1 ≠ w + 1 := fun e => by
          rw [e] at hko; omega
        exact ih k hp hko (by omega) (by omega) he
  have piv : ∀ (j : Nat), j ≤ n - 1 → p_pv o (n - 1) = p_pv o j → X_ kk_X2_stepOn 10 [v_P 70, v_I ((j : Int) - 1), v_U, v_U, v_U] [] M (fun r M' => r = (if p_pv o (n - 1) = 0 then 0 else 1) ∧ q_in M' 73 n (p_nx n o) ∧ ∀ p, p ≠ 73 → M' p = M p) := by
    intro j
    induction j with
    | zero =>
      intro hj he
      have e0 : p_pv o (n - 1) = 0 := he
      refine wp_X2_stepOn_10 ⟨fun _ => ⟨fun y => absurd y (by omega), fun _ => ⟨by rw [if_pos e0], ?_, fun _ _ => rfl⟩⟩, fun y => absurd y (by omega)⟩
      unfold p_nx
      rw [if_pos e0]
      exact h
    | succ j ih =>
      intro hj he
      rw [p_pv_s] at he
      rw [show ((j + 1 : Nat) : Int) - 1 = (j : Int) by omega]
      refine wp_X2_stepOn_10 ⟨fun y => absurd y (by omega), fun _ => ?_⟩
      rw [show ((j : Int) + 1).toNat = j + 1 by omega, Int.toNat_natCast, h j (by omega), h (j + 1) (by omega), h1]
      refine ⟨by omega, ⟨by omega, by omega⟩, by omega, fun z => ⟨fun _ => ⟨⟨by omega, by omega⟩, ?_⟩, fun y => absurd y (by omega)⟩, fun z => ⟨⟨by omega, by omega⟩, ?_⟩⟩
      · rw [if_neg (by omega)] at he
        rw [show (n : Int) - 1 = ((n - 1 : Nat) : Int) by omega]
        exact wth (n - 1) j he (by omega) (by omega) (by omega) rfl
      · rw [if_pos (by omega)] at he
        exact ih (by omega) he
  rw [h1]
  refine ⟨⟨by omega, by omega⟩, ?_⟩
  by_cases hz : n = 0
  · subst hz
    refine wp_X2_stepOn_10 ⟨fun _ => ⟨fun y => absurd y (by omega), fun _ => ⟨rfl, fun x hx => by omega, fun _ _ => rfl⟩⟩, fun y => absurd y (by omega)⟩
  · rw [show (n : Int) - 2 = ((n - 1 : Nat) : Int) - 1 by omega]
    exact piv (n - 1) (Nat.le_refl _) rfl
theorem km_exchange {M : mM} {i j : Nat} (hi : i < 8) (hj : j < 8) : C_ kk_X11_exchange [v_P 79, v_I (i : Int), v_I (j : Int)] M (fun _ M' => M' = m_up (m_up M 83 i (M 83 j)) 83 j (M 83 i)) := by
  refine c_intro (by decide) rfl (Nat.le_of_ble_eq_true rfl) (by simp [m_dv, Value.category]) (wp_X11_exchange_0 ?_)
  rw [Int.toNat_natCast, Int.toNat_natCast]
  exact ⟨by omega, by omega, by omega, by omega, rfl⟩
theorem km_nextOrder {M : mM} {n : Nat} {o : Nat → Nat} (hn : n ≤ 8) (h1 : M 79 4 = n) (h : q_in M 83 n o) : C_ kk_X11_nextOrder [v_P 79] M (fun r M' => r = (if p_pv o (n - 1) = 0 then 0 else 1) ∧ q_in M' 83 n (p_nx n o) ∧ (∀ p, p ≠ 83 → M' p = M p) ∧ ∀ i, n ≤ i → M' 83 i = M 83 i) := by
  refine c_intro (by decide) rfl (Nat.le_of_ble_eq_true rfl) (by simp [m_dv, Value.category]) (wp_X11_nextOrder_0 ?_)
  have rev : ∀ (f lo hi k : Nat) (o' : Nat → Nat) (N : mM), p_pv o (n - 1) ≠ 0 → hi ≤ lo + f → hi < n → lo ≤ n → lo + hi = n + k → q_in N 83 n o' → p_rv f lo hi o' = p_nx n o → (∀ p, p ≠ 83 → N p = M p) → (∀ i, n ≤ i → N 83 i = M 83 i) → X_ kk_X11_nextOrder 78 [v_P 79, v_I (k : Int), v_U, v_I (lo : Int)] [] N (fun r M' => r = (if p_pv o (n - 1) = 0 then 0 else 1) ∧ q_in M' 83 n (p_nx n o) ∧ (∀ p, p ≠ 83 → M' p = M p) ∧ ∀ i, n ≤ i → M' 83 i = M 83 i) := by
    intro f
    induction f with
    | zero =>
      intro lo hi k o' N hp hf hh hln hs hN he hfr hf2
      refine wp_X11_nextOrder_78 ?_
      rw [hfr 79 (by decide), h1]
      refine ⟨⟨by omega, by omega⟩, ⟨by omega, by omega⟩, fun _ => ⟨by rw [if_neg hp], ?_, hfr, hf2⟩, fun y => absurd y (by omega)⟩
      rw [← he]; exact hN
    | succ f ih =>
      intro lo hi k o' N hp hf hh hln hs hN he hfr hf2
      unfold p_rv at he
      refine wp_X11_nextOrder_78 ?_
      rw [hfr 79 (by decide), h1, show (n : Int) + (k : Int) - (lo : Int) = (hi : Int) by omega]
      refine ⟨⟨by omega, by omega⟩, ⟨by omega, by omega⟩, fun z => ⟨by rw [if_neg hp], ?_, hfr, hf2⟩, fun z => ⟨⟨by omega, by omega⟩, ⟨by omega, by omega⟩, _, km_exchange (by omega) (by omega), fun r2 M3 _ _ e3 => ⟨⟨by omega, by omega⟩, ?_⟩⟩⟩
      · rw [if_neg (by omega)] at he
        rw [← he]; exact hN
      · rw [if_pos (by omega)] at he
        subst e3
        rw [show (lo : Int) + 1 = ((lo + 1 : Nat) : Int) by omega]
        exact ih (lo + 1) (hi - 1) k _ _ hp (by omega) (by omega) (by omega) (by omega) (q_in_sw hN (by omega) (by omega)) he (fun p hp' => by rw [up_row hp', up_row hp']; exact hfr p hp') (fun i hi' => by rw [up_slot (by omega), up_slot (by omega)]; exact hf2 i hi')
  have wth : ∀ (w k : Nat), p_pv o (n - 1) = k + 1 → o k ≤ o (k + 1) → k + 1 ≤ w → w < n → p_wt o (o k) (n - 1) = p_wt o (o k) w → X_ kk_X11_nextOrder 47 [v_P 79, v_I (k : Int), v_I (w : Int), v_U] [] M (fun r M' => r = (if p_pv o (n - 1) = 0 then 0 else 1) ∧ q_in M' 83 n (p_nx n o) ∧ (∀ p, p ≠ 83 → M' p = M p) ∧ ∀ i, n ≤ i → M' 83 i = M 83 i) := by
    intro w
    induction w with
    | zero => intro k _ _ hk; omega
    | succ w ih =>
      intro k hp hko hk hw he
      rw [p_wt_s] at he
      refine wp_X11_nextOrder_47 ?_
      rw [Int.toNat_natCast, Int.toNat_natCast, h k (by omega), h (w + 1) hw]
      refine ⟨by omega, by omega, fun z => ⟨_, km_exchange (by omega) (by omega), fun r13 M14 _ _ e14 => ⟨⟨by omega, by omega⟩, ?_⟩⟩, fun z => ⟨⟨by omega, by omega⟩, ?_⟩⟩
      · rw [show (k : Int) + 1 = ((k + 1 : Nat) : Int) by omega]
        rw [if_neg (by omega)] at he
        refine rev n (k + 1) (n - 1) k (p_sw o k (w + 1)) M14 (by omega) (by omega) (by omega) (by omega) (by omega) (by rw [e14]; exact q_in_sw h (by omega) hw) ?_ (fun p hp' => by rw [e14, up_row hp', up_row hp']) (fun i hi' => by rw [e14, up_slot (by omega), up_slot (by omega)])
        unfold p_nx
        rw [if_neg (by omega), hp, Nat.add_sub_cancel, he]
      · rw [if_pos (by omega)] at he
        rw [show ((w + 1 : Nat) : Int) + (-1) = (w : Int) by omega]
        have hne : k + 1 ≠ w + 1 := fun e => by
          rw [e] at hko; omega
        exact ih k hp hko (by omega) (by omega) he
  have piv : ∀ (j : Nat), j ≤ n - 1 → p_pv o (n - 1) = p_pv o j → X_ kk_X11_nextOrder 7 [v_P 79, v_I ((j : Int) - 1), v_U, v_U] [] M (fun r M' => r = (if p_pv o (n - 1) = 0 then 0 else 1) ∧ q_in M' 83 n (p_nx n o) ∧ (∀ p, p ≠ 83 → M' p = M p) ∧ ∀ i, n ≤ i → M' 83 i = M 83 i) := by
    intro j
    induction j with
    | zero =>
      intro hj he
      have e0 : p_pv o (n - 1) = 0 := he
      refine wp_X11_nextOrder_7 ⟨fun _ => ⟨fun y => absurd y (by omega), fun _ => ⟨by rw [if_pos e0], ?_, fun _ _ => rfl, fun _ _ => rfl⟩⟩, fun y => absurd y (by omega)⟩
      unfold p_nx
      rw [if_pos e0]
      exact h
    | succ j ih =>
      intro hj he
      rw [p_pv_s] at he
      rw [show ((j + 1 : Nat) : Int) - 1 = (j : Int) by omega]
      refine wp_X11_nextOrder_7 ⟨fun y => absurd y (by omega), fun _ => ?_⟩
      rw [show ((j : Int) + 1).toNat = j + 1 by omega, Int.toNat_natCast, h j (by omega), h (j + 1) (by omega), h1]
      refine ⟨by omega, ⟨by omega, by omega⟩, by omega, fun z => ⟨fun _ => ⟨⟨by omega, by omega⟩, ?_⟩, fun y => absurd y (by omega)⟩, fun z => ⟨⟨by omega, by omega⟩, ?_⟩⟩
      · rw [if_neg (by omega)] at he
        rw [show (n : Int) - 1 = ((n - 1 : Nat) : Int) by omega]
        exact wth (n - 1) j he (by omega) (by omega) (by omega) rfl
      · rw [if_pos (by omega)] at he
        exact ih (by omega) he
  rw [h1]
  refine ⟨⟨by omega, by omega⟩, ?_⟩
  by_cases hz : n = 0
  · subst hz
    refine wp_X11_nextOrder_7 ⟨fun _ => ⟨fun y => absurd y (by omega), fun _ => ⟨rfl, fun x hx => by omega, fun _ _ => rfl, fun _ _ => rfl⟩⟩, fun y => absurd y (by omega)⟩
  · rw [show (n : Int) - 2 = ((n - 1 : Nat) : Int) - 1 by omega]
    exact piv (n - 1) (Nat.le_refl _) rfl
