/-! the DAY of the class, method by method -/
theorem or_bit {h l i : Nat} : (h ||| 2 ^ l).testBit i = (h.testBit i || decide (l = i)) := by
  rw [Nat.testBit_or, Nat.testBit_two_pow]
theorem n_ct_or {σ : St} {h l s : Nat} (hl : h.testBit l = false) : ∀ m, n_ct σ (h ||| 2 ^ l) s m = n_ct σ h s m + (if l < m ∧ σ 1 l = s then 1 else 0)
  | 0 => by simp [n_ct]
  | m + 1 => by
    have ih := n_ct_or (σ := σ) (s := s) hl m
    rw [n_ct, n_ct, ih, or_bit]
    by_cases e : l = m
    · subst e
      rw [hl]
      by_cases z : σ 1 l = s
      · simp [z]
      · simp [z]
    · have e3 : (if l < m + 1 ∧ σ 1 l = s then 1 else 0) = (if l < m ∧ σ 1 l = s then 1 else 0) := by
        by_cases z : l < m ∧ σ 1 l = s
        · rw [if_pos z, if_pos ⟨by omega, z.2⟩]
        · rw [if_neg z, if_neg (fun y => z ⟨by omega, y.2⟩)]
      rw [e3, decide_eq_false e, Bool.or_false]
      omega
theorem n_cnt_or {σ : St} {h l : Nat} (hl : h.testBit l = false) (hn : l < σ 0 0) (s : Nat) : n_cnt σ (h ||| 2 ^ l) s = n_cnt σ h s + (if σ 1 l = s then 1 else 0) := by
  unfold n_cnt
  rw [n_ct_or hl]
  by_cases z : σ 1 l = s
  · rw [if_pos ⟨hn, z⟩, if_pos z]
  · rw [if_neg (fun y => z y.2), if_neg z]
theorem pack_one {σ : St} {h l : Nat} (hs : σ 1 l < 5) : n_pack (fun s => n_cnt σ h s + (if σ 1 l = s then 1 else 0)) = n_pack (n_cnt σ h) + 2 ^ (5 * σ 1 l) := by
  unfold n_pack
  rcases (show σ 1 l = 0 ∨ σ 1 l = 1 ∨ σ 1 l = 2 ∨ σ 1 l = 3 ∨ σ 1 l = 4 by omega) with e | e | e | e | e <;> rw [e] <;> simp <;> omega
theorem pack_or {σ : St} {h l : Nat} (hs : σ 1 l < 5) (hl : h.testBit l = false) (hn : l < σ 0 0) : n_pack (n_cnt σ (h ||| 2 ^ l)) = n_pack (n_cnt σ h) + 2 ^ (5 * σ 1 l) := by
  have e : ∀ s, n_cnt σ (h ||| 2 ^ l) s = n_cnt σ h s + (if σ 1 l = s then 1 else 0) := by
    intro s
    unfold n_cnt
    rw [n_ct_or hl]
    by_cases z : σ 1 l = s
    · rw [if_pos ⟨hn, z⟩, if_pos z]
    · rw [if_neg (fun y => z y.2), if_neg z]
  unfold n_pack
  simp only [e]
  rcases (show σ 1 l = 0 ∨ σ 1 l = 1 ∨ σ 1 l = 2 ∨ σ 1 l = 3 ∨ σ 1 l = 4 by omega) with e | e | e | e | e <;> rw [e] <;> simp <;> omega
/-- the order that the DAY goes by -/
def OR_ (σ : St) (o : Nat → Nat) (M : mM) : Prop := ∃ q z, M 30 15 = (q : Nat) ∧ m_sh q = (20, z) ∧ σ 0 0 ≤ z ∧ (q = 5 ∨ q = 73) ∧ ∀ j, j < σ 0 0 → M q j = o j
theorem OR_of {σ : St} {o : Nat → Nat} {M M' : mM} (h : OR_ σ o M) (h1 : M' 30 15 = M 30 15) (h5 : M' 5 = M 5) (h73 : M' 73 = M 73) : OR_ σ o M' := by
  obtain ⟨q, z, a1, a2, a3, a4, a5⟩ := h
  refine ⟨q, z, h1.trans a1, a2, a3, a4, fun j hj => ?_⟩
  rcases a4 with rfl | rfl
  · rw [h5]; exact a5 j hj
  · rw [h73]; exact a5 j hj
/-- what a buyer reaches for the lot at the place p -/
def d_rp (σ : St) (o : Nat → Nat) (k : Nat → Int) (D : dD) (p b : Nat) : Int := if d_bid σ k D b (o p) < 1 then -1 else min (d_bid σ k D b (o p)) (D 4 b)
theorem d_re_rp {σ : St} {o : Nat → Nat} {k : Nat → Int} {D : dD} {c b : Nat} : d_re σ o k D c b = d_rp σ o k D (D 0 c).toNat b := rfl
/-- a buyer's numbers of the DAY -/
def BR (σ : St) (k : Nat → Int) (D : dD) (M : mM) (b : Nat) : Prop := M 34 b = D 3 b ∧ M 35 b = n_worth σ b (D 3 b).toNat ∧ M 36 b = σ 6 b - D 4 b ∧ M 37 b = D 4 b ∧ M 38 b = n_pack (n_cnt σ (D 3 b).toNat) ∧ M 39 b = k b
/-- the hall, as the DAY needs it -/
def HH (σ : St) (M : mM) : Prop := HL σ M ∧ HB σ M
theorem HH_of {σ : St} {M M' : mM} (h : HH σ M) (hf : ∀ p, p < 30 → M' p = M p) : HH σ M' := by
  obtain ⟨⟨h1, h2⟩, h3, h4, h5⟩ := h
  refine ⟨⟨?_, fun j hj => ?_⟩, ?_, ?_, fun b hb => ?_⟩
  · rw [hf 1 (by omega)]; exact h1
  · rw [hf 2 (by omega), hf 3 (by omega), hf 4 (by omega), hf 6 (by omega)]; exact h2 j hj
  · rw [hf 1 (by omega)]; exact h3
  · rw [hf 1 (by omega)]; exact h4
  · unfold HB1
    rw [hf (8 + 3 * b) (by omega), hf (8 + 3 * b + 1) (by omega), hf (8 + 3 * b + 2) (by omega)]; exact h5 b hb
theorem b_or2 {a l : Nat} (ha : a < 256) (hl : l < 8) : a ||| 2 ^ l < 256 := Nat.or_lt_two_pow (n := 8) ha (Nat.pow_lt_pow_right (by decide) hl)
theorem kc_weigh {σ : St} {o : Nat → Nat} {k : Nat → Int} {D : dD} {M : mM} {c b : Nat} (hw : Wf σ) (ho : d_or σ o) (hh : HH σ M) (hO : OR_ σ o M) (hc : c < 3) (hb : b < σ 5 0) (hB : BR σ k D M b) (hk : 0 ≤ k b ∧ k b ≤ 100) (hp : 0 ≤ M 40 c) (hd : 0 ≤ D 3 b ∧ D 3 b < ((2 ^ σ 0 0 : Nat) : Int)) (h4 : 0 ≤ D 4 b ∧ D 4 b ≤ 1000) :
    C_ kk_X4_weigh [v_P 30, v_I (c : Int), v_I (b : Int)] M (fun _ M' => (M 40 c < σ 0 0 → (D 3 b).toNat.testBit (o (M 40 c).toNat) = false → M' (45 + c) b = d_rp σ o k D (M 40 c).toNat b) ∧ ∀ p i, ¬ (p = 45 + c ∧ i = b) → M' p i = M p i) := by
  have hnb := hw.2.2.2.1
  have hn8 := hw.1
  obtain ⟨q, z, a1, a2, a3, a4, a5⟩ := hO
  obtain ⟨b1, b2, b3, b4, b5, b6⟩ := hB
  refine c_intro (by decide) rfl (Nat.le_of_ble_eq_true rfl) (by simp [m_dv, Value.category]) (wp_X4_weigh_0 ?_)
  rw [hh.1.1]
  simp only [Int.toNat_natCast]
  refine ⟨by omega, fun q1 => ⟨fun y => absurd y (by omega), fun _ _ _ => by first | trivial | rfl⟩, fun q1 => ?_⟩
  have hlt : M 40 c < σ 0 0 := by omega
  obtain ⟨p, ep⟩ := nat_of hp
  rw [ep] at hlt ⊢
  have hpn : p < σ 0 0 := by omega
  have hop := ho.1 p hpn
  simp only [a1, Int.toNat_natCast, a2, a5 p hpn]
  have hs := (hw.2.1 (o p) hop).1
  rw [b5, (hh.1.2 (o p) hop).1]
  have hor := pack_one (σ := σ) (h := (D 3 b).toNat) hs
  have hc1 : ∀ s, s < 5 → n_cnt σ (D 3 b).toNat s + (if σ 1 (o p) = s then 1 else 0) < 16 := fun s _ => by
    have := n_cnt_le hw (D 3 b).toNat s
    split <;> omega
  have hpk := g_lt hc1
  have e1 : (n_pack (n_cnt σ (D 3 b).toNat) : Int) + ((2 ^ (5 * σ 1 (o p)) : Nat) : Int) = (n_pack (fun s => n_cnt σ (D 3 b).toNat s + (if σ 1 (o p) = s then 1 else 0)) : Nat) := by rw [hor, Int.natCast_add]
  rw [e1]
  refine ⟨by omega, by omega, by omega, ⟨trivial, by omega, by omega⟩, by omega, ⟨by omega, by omega⟩, _, kc_worthOf hw (by omega) (hh.2.2.2 b (by omega)) hc1, fun r10 M11 _ _ e11 => ?_⟩
  obtain ⟨rfl, rfl⟩ := e11
  have w1 := n_worth_le hw (b := b) (h := (D 3 b).toNat) (by omega)
  have w2 := n_wc_le hw (b := b) (by omega) (fun s => n_cnt σ (D 3 b).toNat s + (if σ 1 (o p) = s then 1 else 0))
  rw [b2, b6, b4]
  have ew : (D 3 b).toNat.testBit (o p) = false → n_wc σ b (fun s => n_cnt σ (D 3 b).toNat s + (if σ 1 (o p) = s then 1 else 0)) = n_worth σ b ((D 3 b).toNat ||| 2 ^ o p) := by
    intro hz
    unfold n_worth
    congr 1
    funext s
    exact (n_cnt_or hz hop s).symm
  generalize n_wc σ b (fun s => n_cnt σ (D 3 b).toNat s + (if σ 1 (o p) = s then 1 else 0)) = x0 at w2 ew ⊢
  have hm : -99900 ≤ ((x0 : Int) - n_worth σ b (D 3 b).toNat) * k b ∧ ((x0 : Int) - n_worth σ b (D 3 b).toNat) * k b ≤ 99900 := by
    have hx : -999 ≤ (x0 : Int) - n_worth σ b (D 3 b).toNat ∧ (x0 : Int) - n_worth σ b (D 3 b).toNat ≤ 999 := by omega
    generalize (x0 : Int) - n_worth σ b (D 3 b).toNat = x at hx ⊢
    have m1 := Int.mul_le_mul_of_nonneg_right hx.2 hk.1
    have m2 := Int.mul_le_mul_of_nonneg_right hx.1 hk.1
    omega
  refine ⟨by omega, ⟨by omega, by omega⟩, by omega, ⟨by omega, by omega⟩, by omega, fun q2 => ⟨by omega, by omega, fun M24 e24 => ?_⟩, fun q2 => ⟨by omega, ?_⟩⟩
  · subst e24
    refine ⟨fun _ hz => ?_, fun p' i hpi => m_up_ne (by omega)⟩
    rw [ew hz] at q2 ⊢
    rw [up_hit]
    unfold d_rp
    rw [if_neg (by unfold d_bid; omega)]
    rfl
  · refine ⟨fun _ hz => ?_, fun p' i hpi => m_up_ne (by omega)⟩
    rw [ew hz] at q2
    rw [up_hit]
    unfold d_rp
    rw [if_pos (by unfold d_bid; omega)]
/-- Day.bringOn: the next lot of a clock comes on -/
theorem kc_bringOn {σ : St} {o : Nat → Nat} {k : Nat → Int} {D : dD} {M : mM} {c f : Nat} {now : Int} (hw : Wf σ) (ho : d_or σ o) (hh : HH σ M) (hO : OR_ σ o M) (hc : c < 3) (hf : f ≤ σ 0 0) (hB : ∀ b, b < σ 5 0 → BR σ k D M b) (hk : ∀ b, b < σ 5 0 → 0 ≤ k b ∧ k b ≤ 100) (hd : ∀ b, b < σ 5 0 → 0 ≤ D 3 b ∧ D 3 b < ((2 ^ σ 0 0 : Nat) : Int) ∧ 0 ≤ D 4 b ∧ D 4 b ≤ 1000) (hn : d_np σ o c f < σ 0 0 → ∀ b, b < σ 5 0 → (D 3 b).toNat.testBit (o (d_np σ o c f)) = false) :
    C_ kk_X4_bringOn [v_P 30, v_I (c : Int), v_I (f : Int), v_I now] M (fun _ M' => M' 40 c = d_np σ o c f ∧ M' 41 c = now ∧ M' 42 c = now ∧ (d_np σ o c f < σ 0 0 → ∀ b, b < σ 5 0 → M' (45 + c) b = d_rp σ o k D (d_np σ o c f) b) ∧ (∀ p i, (p = 40 ∨ p = 41 ∨ p = 42) → i ≠ c → M' p i = M p i) ∧ ∀ p, p ≠ 40 → p ≠ 41 → p ≠ 42 → p ≠ 45 + c → M' p = M p) := by
  have hnb := hw.2.2.2.1
  have hn8 := hw.1
  refine c_intro (by decide) rfl (Nat.le_of_ble_eq_true rfl) (by simp [m_dv, Value.category]) (wp_X4_bringOn_0 ?_)
  -- behind the search
  have tail : ∀ (m b : Nat) (M' : mM), b + m = σ 5 0 → M' 40 c = d_np σ o c f → M' 41 c = now → M' 42 c = now → (d_np σ o c f < σ 0 0 → ∀ b', b' < b → M' (45 + c) b' = d_rp σ o k D (d_np σ o c f) b') → (∀ p i, (p = 40 ∨ p = 41 ∨ p = 42) → i ≠ c → M' p i = M p i) → (∀ p, p ≠ 40 → p ≠ 41 → p ≠ 42 → p ≠ 45 + c → M' p = M p) → X_ kk_X4_bringOn 65 [v_P 30, v_I (c : Int), v_U, v_U, v_U, v_I (b : Int)] [] M' (fun _ M' => M' 40 c = d_np σ o c f ∧ M' 41 c = now ∧ M' 42 c = now ∧ (d_np σ o c f < σ 0 0 → ∀ b, b < σ 5 0 → M' (45 + c) b = d_rp σ o k D (d_np σ o c f) b) ∧ (∀ p i, (p = 40 ∨ p = 41 ∨ p = 42) → i ≠ c → M' p i = M p i) ∧ ∀ p, p ≠ 40 → p ≠ 41 → p ≠ 42 → p ≠ 45 + c → M' p = M p) := by
    intro m
    induction m with
    | zero =>
      intro b M' hb h1 h2 h3 h4 h5 h6
      refine wp_X4_bringOn_65 ⟨fun _ => ⟨h1, h2, h3, fun z b' hb' => h4 z b' (by omega), h5, h6⟩, fun z => absurd z (by rw [h6 1 (by omega) (by omega) (by omega) (by omega), hh.2.1]; omega)⟩
    | succ m ih =>
      intro b M' hb h1 h2 h3 h4 h5 h6
      have hh' : HH σ M' := HH_of hh (fun p hp => h6 p (by omega) (by omega) (by omega) (by omega))
      have hO' : OR_ σ o M' := OR_of hO (by rw [h6 30 (by omega) (by omega) (by omega) (by omega)]) (h6 5 (by omega) (by omega) (by omega) (by omega)) (h6 73 (by omega) (by omega) (by omega) (by omega))
      have hB' : BR σ k D M' b := by
        have g := hB b (by omega)
        unfold BR
        rw [h6 34 (by omega) (by omega) (by omega) (by omega), h6 35 (by omega) (by omega) (by omega) (by omega), h6 36 (by omega) (by omega) (by omega) (by omega), h6 37 (by omega) (by omega) (by omega) (by omega), h6 38 (by omega) (by omega) (by omega) (by omega), h6 39 (by omega) (by omega) (by omega) (by omega)]
        exact g
      have hdb := hd b (by omega)
      refine wp_X4_bringOn_65 ⟨fun z => absurd z (by rw [h6 1 (by omega) (by omega) (by omega) (by omega), hh.2.1]; omega), fun _ => ⟨_, kc_weigh hw ho hh' hO' hc (by omega) hB' (hk b (by omega)) (by rw [h1]; omega) ⟨hdb.1, hdb.2.1⟩ ⟨hdb.2.2.1, hdb.2.2.2⟩, fun r2 M3 _ _ e3 => ⟨⟨by omega, by omega⟩, ?_⟩⟩⟩
      rw [h1, Int.toNat_natCast] at e3
      obtain ⟨e3, e4⟩ := e3
      refine ih (b + 1) M3 (by omega) (by rw [e4 _ _ (by omega)]; exact h1) (by rw [e4 _ _ (by omega)]; exact h2) (by rw [e4 _ _ (by omega)]; exact h3) (fun z b' hb' => ?_) (fun p i hp hi => by rw [e4 _ _ (by omega)]; exact h5 p i hp hi) (fun p p1 p2 p3 p4 => by
        rw [← h6 p p1 p2 p3 p4]
        funext i
        exact e4 p i (by omega))
      by_cases y : b' = b
      · subst y
        exact e3 (by omega) (hn z b' (by omega))
      · rw [e4 _ _ (by omega)]
        exact h4 z b' (by omega)
  have srch : ∀ m p, p + m = σ 0 0 → d_np σ o c f = dp σ o c m p → X_ kk_X4_bringOn 3 [v_P 30, v_I (c : Int), v_U, v_I now, v_I (p : Int), v_U] [] M (fun _ M' => M' 40 c = d_np σ o c f ∧ M' 41 c = now ∧ M' 42 c = now ∧ (d_np σ o c f < σ 0 0 → ∀ b, b < σ 5 0 → M' (45 + c) b = d_rp σ o k D (d_np σ o c f) b) ∧ (∀ p i, (p = 40 ∨ p = 41 ∨ p = 42) → i ≠ c → M' p i = M p i) ∧ ∀ p, p ≠ 40 → p ≠ 41 → p ≠ 42 → p ≠ 45 + c → M' p = M p) := by
    have fin : ∀ p, d_np σ o c f = p → X_ kk_X4_bringOn 65 [v_P 30, v_I (c : Int), v_U, v_U, v_U, v_I 0] [] (m_up (m_up (m_up M 40 c (p : Int)) 41 c now) 42 c now) (fun _ M' => M' 40 c = d_np σ o c f ∧ M' 41 c = now ∧ M' 42 c = now ∧ (d_np σ o c f < σ 0 0 → ∀ b, b < σ 5 0 → M' (45 + c) b = d_rp σ o k D (d_np σ o c f) b) ∧ (∀ p i, (p = 40 ∨ p = 41 ∨ p = 42) → i ≠ c → M' p i = M p i) ∧ ∀ p, p ≠ 40 → p ≠ 41 → p ≠ 42 → p ≠ 45 + c → M' p = M p) := by
      intro p hp
      refine tail (σ 5 0) 0 _ (by omega) (by simp (disch := omega) only [up_row, up_slot, up_hit, su_row, su_slot, su_hit]; rw [hp]) (by simp (disch := omega) only [up_row, up_slot, up_hit, su_row, su_slot, su_hit]) (by simp (disch := omega) only [up_row, up_slot, up_hit, su_row, su_slot, su_hit]) (fun _ b' hb' => by omega) (fun p i hp hi => ?_) (fun p p1 p2 p3 p4 => by simp (disch := omega) only [up_row, up_slot, up_hit, su_row, su_slot, su_hit])
      rcases hp with rfl | rfl | rfl <;> simp (disch := omega) only [up_row, up_slot, up_hit, su_row, su_slot, su_hit]
    obtain ⟨q, z, a1, a2, a3, a4, a5⟩ := hO
    intro m
    induction m with
    | zero =>
      intro p hp e
      refine wp_X4_bringOn_3 ⟨fun _ => ⟨by omega, by omega, by omega, ?_⟩, fun z => absurd z (by rw [hh.1.1]; omega)⟩
      rw [Int.toNat_natCast]
      exact fin p e
    | succ m ih =>
      intro p hp e
      have hpn : p < σ 0 0 := by omega
      have hop := ho.1 p hpn
      refine wp_X4_bringOn_3 ⟨fun y => absurd y (by rw [hh.1.1]; omega), fun _ => ?_⟩
      rw [a1]
      simp only [Int.toNat_natCast]
      rw [a5 p hpn, Int.toNat_natCast, (hh.1.2 (o p) hop).2.1, a2]
      unfold dp at e
      refine ⟨⟨rfl, by omega, by show (p : Int) < (z : Nat); omega⟩, by omega, fun y => ⟨by omega, by omega, by omega, ?_⟩, fun y => ⟨⟨by omega, by omega⟩, ?_⟩⟩
      · rw [if_pos (by omega)] at e
        exact fin p e
      · rw [if_neg (by omega)] at e
        exact ih (p + 1) (by omega) e
  exact srch (σ 0 0 - f) f (by omega) rfl
theorem kc_endTick {M : mM} {c : Nat} (hc : c < 3) (h1 : 0 ≤ M 41 c ∧ M 41 c ≤ 100000) (h2 : 0 ≤ M 30 16 ∧ M 30 16 ≤ 1000) (h3 : -100000 ≤ M 43 c ∧ M 43 c ≤ 100000) : C_ kk_X4_endTick [v_P 30, v_I (c : Int)] M (fun r M' => M' = M ∧ r = M 41 c + M 30 16 - M 43 c) := by
  refine c_intro (by decide) rfl (Nat.le_of_ble_eq_true rfl) (by simp [m_dv, Value.category]) (wp_X4_endTick_0 ?_)
  rw [Int.toNat_natCast]
  exact ⟨by omega, ⟨by omega, by omega⟩, by omega, ⟨by omega, by omega⟩, rfl, rfl⟩
theorem kc_highest {σ : St} {o : Nat → Nat} {k : Nat → Int} {D : dD} {M : mM} {c : Nat} (hw : Wf σ) (hc : c < 3) (h1 : M 1 6 = σ 5 0) (hr : ∀ b, b < σ 5 0 → M (45 + c) b = d_re σ o k D c b) : C_ kk_X4_highest [v_P 30, v_I (c : Int), v_I (σ 3 (o (D 0 c).toNat) : Int)] M (fun r M' => M' = M ∧ r = d_hi σ o k D c (σ 5 0)) := by
  have hnb := hw.2.2.2.1
  refine c_intro (by decide) rfl (Nat.le_of_ble_eq_true rfl) (by simp [m_dv, Value.category]) (wp_X4_highest_0 ?_)
  have loop : ∀ m b, b + m = σ 5 0 → X_ kk_X4_highest 5 [v_P 30, v_I (c : Int), v_U, v_I (d_hi σ o k D c b), v_I (b : Int)] [] M (fun r M' => M' = M ∧ r = d_hi σ o k D c (σ 5 0)) := by
    intro m
    induction m with
    | zero =>
      intro b hb
      refine wp_X4_highest_5 ⟨fun _ => ⟨rfl, by rw [show b = σ 5 0 by omega]⟩, fun z => absurd z (by rw [h1]; omega)⟩
    | succ m ih =>
      intro b hb
      refine wp_X4_highest_5 ⟨fun z => absurd z (by rw [h1]; omega), fun _ => ⟨by omega, by omega, ⟨by omega, by omega⟩, ?_⟩⟩
      rw [Int.toNat_natCast, Int.toNat_natCast, hr b (by omega)]
      exact ih (b + 1) (by omega)
  exact loop (σ 5 0) 0 (by omega)
