/-! the DAY of the class: its events -/
/-- the class's DAY holds D -/
def DR (σ : St) (o : Nat → Nat) (T : Int) (k : Nat → Int) (D : dD) (M : mM) : Prop :=
  HH σ M ∧ OR_ σ o M ∧ M 30 16 = T ∧ (∀ c, c < 3 → M 40 c = D 0 c ∧ M 41 c = D 1 c ∧ M 42 c = D 2 c ∧ (D 0 c < σ 0 0 → ∀ b, b < σ 5 0 → M (45 + c) b = d_re σ o k D c b)) ∧ (∀ b, b < σ 5 0 → BR σ k D M b) ∧
  ∀ p, p < σ 0 0 → (p : Int) < D 0 (σ 2 (o p)) → M 31 (o p) = D 5 (o p) ∧ M 32 (o p) = D 6 (o p) ∧ M 33 (o p) = D 7 (o p)
theorem kc_nextToEnd {σ : St} {o : Nat → Nat} {T : Int} {k : Nat → Int} {D : dD} {M : mM} {B : Int} (hw : Wf σ) (ho : d_or σ o) (hT : 0 ≤ T ∧ T ≤ 200) (hB : B ≤ 50000) (hok : d_ok σ o D B) (h : DR σ o T k D M) : C_ kk_X4_nextToEnd [v_P 30] M (fun r M' => r = d_nx σ o T k D 3 ∧ (∀ c, c < 3 → D 0 c < σ 0 0 → M' 43 c = d_en σ o T k D c) ∧ ∀ p, p ≠ 43 → M' p = M p) := by
  obtain ⟨hh, hO, h16, hcl, hBR, -⟩ := h
  have hn8 := hw.1
  have hnb := hw.2.2.2.1
  obtain ⟨q, z, a1, a2, a3, a4, a5⟩ := hO
  have q43 : q ≠ 43 := by omega
  have hcoin : ∀ b, b < 6 → 0 ≤ D 4 b ∧ D 4 b ≤ 1000 := fun b hb => by
    have h1 := hok.2.1 b hb
    have h2 := (hw.2.2.2.2.1 b hb).1
    omega
  have enb : ∀ c, c < 3 → D 0 c < σ 0 0 → -100000 ≤ d_en σ o T k D c ∧ d_en σ o T k D c ≤ 1000 := fun c hc ha => by
    obtain ⟨d1, d2, d3, d4, d5, d6⟩ := hok.1 c hc
    have hl := ho.1 (D 0 c).toNat (by omega)
    have h3 := (hw.2.1 _ hl).2.2.1
    have g1 := d_hi_ge (σ := σ) (o := o) (k := k) (D := D) (c := c) (σ 5 0)
    have g2 := d_hi_le (σ := σ) (o := o) (k := k) (D := D) (c := c) (by omega) hcoin (σ 5 0) hnb
    have g0 : (0 : Int) ≤ σ 3 (o (D 0 c).toNat) := Int.natCast_nonneg _
    unfold d_en
    omega
  refine c_intro (by decide) rfl (Nat.le_of_ble_eq_true rfl) (by simp [m_dv, Value.category]) (wp_X4_nextToEnd_0 ?_)
  have loop : ∀ (m c : Nat) (M' : mM), c + m = 3 → (∀ c', c' < c → D 0 c' < σ 0 0 → M' 43 c' = d_en σ o T k D c') → (∀ p, p ≠ 43 → M' p = M p) → X_ kk_X4_nextToEnd 5 [v_P 30, v_I (d_nx σ o T k D c), v_I (c : Int), v_U] [] M' (fun r M' => r = d_nx σ o T k D 3 ∧ (∀ c, c < 3 → D 0 c < σ 0 0 → M' 43 c = d_en σ o T k D c) ∧ ∀ p, p ≠ 43 → M' p = M p) := by
    intro m
    induction m with
    | zero =>
      intro c M' hc h1 h2
      rw [show c = 3 by omega] at h1 ⊢
      exact wp_X4_nextToEnd_5 ⟨fun _ => ⟨rfl, h1, h2⟩, fun y => absurd y (by omega)⟩
    | succ m ih =>
      intro c M' hc h1 h2
      have hc3 : c < 3 := by omega
      obtain ⟨k1, k2, k3, k4⟩ := hcl c hc3
      obtain ⟨d1, d2, d3, d4, d5, d6⟩ := hok.1 c hc3
      have i1 : m_ir ((c : Int) + 1) := ⟨by omega, by omega⟩
      refine wp_X4_nextToEnd_5 ⟨fun y => absurd y (by omega), fun _ => ⟨by omega, ?_⟩⟩
      rw [Int.toNat_natCast, h2 1 (by decide), h2 40 (by decide), h2 41 (by decide), h2 42 (by decide), h2 30 (by decide), h2 4 (by decide), hh.1.1, k1, k2, k3, h16, a1, Int.toNat_natCast, a2, h2 q q43]
      refine ⟨fun y => ⟨i1, ?_⟩, fun y => ?_⟩
      · have e : d_nx σ o T k D (c + 1) = d_nx σ o T k D c := by rw [d_nx, if_neg (fun w => by omega)]
        have nx := ih (c + 1) M' (by omega) (fun c' hc' ha => by
          by_cases w : c' = c
          · subst w; omega
          · exact h1 c' (by omega) ha) h2
        rw [e] at nx
        exact nx
      · have ha : D 0 c < σ 0 0 := by omega
        have hp : (D 0 c).toNat < σ 0 0 := by omega
        have hl := ho.1 _ hp
        rw [a5 _ hp, Int.toNat_natCast, (hh.1.2 _ hl).2.2.1]
        have eb := enb c hc3 ha
        refine ⟨by omega, by omega, ⟨by omega, by omega⟩, ⟨by omega, by omega⟩, by omega, ⟨rfl, by omega, by show D 0 c < (z : Nat); omega⟩, by omega, _, kc_highest hw hc3 (by rw [h2 1 (by decide)]; exact hh.2.1) (fun b hb => by rw [h2 (45 + c) (by omega)]; exact k4 ha b hb), fun r11 M12 _ _ e12 => ⟨by omega, fun M18 e18 => ?_⟩⟩
        obtain ⟨rfl, rfl⟩ := e12
        have e43 : min (T - (D 2 c - D 1 c)) (d_hi σ o k D c (σ 5 0)) = d_en σ o T k D c := rfl
        rw [e43] at e18
        have hr18 : ∀ p, p ≠ 43 → M18 p = M p := fun p hp => by rw [e18, up_row hp]; exact h2 p hp
        have hv18 : ∀ c', c' < c + 1 → D 0 c' < σ 0 0 → M18 43 c' = d_en σ o T k D c' := fun c' hc' ha' => by
          rw [e18]
          by_cases w : c' = c
          · subst w; exact up_hit
          · rw [up_slot w]; exact h1 c' (by omega) ha'
        refine ⟨fun y2 => ⟨i1, ?_⟩, fun y2 => ?_⟩
        · have e : d_nx σ o T k D (c + 1) = c := by rw [d_nx, if_pos ⟨ha, Or.inl y2⟩]
          have nx := ih (c + 1) M18 (by omega) hv18 hr18
          rw [e] at nx
          exact nx
        · rcases d_nx_spec (σ := σ) (o := o) (T := T) (k := k) (D := D) (n := c) with ⟨b1, b2⟩ | ⟨b1, b2, b3, b4⟩
          · exact absurd b1 y2
          · obtain ⟨f, ef⟩ := nat_of b1
            rw [ef, Int.toNat_natCast] at b3
            have hf3 : f < 3 := by omega
            obtain ⟨f1, f2, f3, f4, f5, f6⟩ := hok.1 f hf3
            have ebf := enb f hf3 b3
            have t1 : M18 41 c = D 1 c := by rw [hr18 41 (by decide)]; exact k2
            have t2 : M18 41 f = D 1 f := by rw [hr18 41 (by decide)]; exact (hcl f hf3).2.1
            have t3 : M18 30 16 = T := by rw [hr18 30 (by decide)]; exact h16
            have t4 : M18 43 c = d_en σ o T k D c := hv18 c (by omega) ha
            have t5 : M18 43 f = d_en σ o T k D f := hv18 f (by omega) b3
            refine ⟨_, kc_endTick hc3 (by rw [t1]; omega) (by rw [t3]; omega) (by rw [t4]; omega), fun r22 M23 _ _ e23 => ?_⟩
            obtain ⟨e23a, rfl⟩ := e23
            subst e23a
            rw [ef]
            refine ⟨_, kc_endTick hf3 (by rw [t2]; omega) (by rw [t3]; omega) (by rw [t5]; omega), fun r29 M30 _ _ e30 => ?_⟩
            obtain ⟨e30a, rfl⟩ := e30
            subst e30a
            rw [t1, t2, t3, t4, t5]
            have et1 : D 1 c + T - d_en σ o T k D c = d_et σ o T k D c := rfl
            have et2 : D 1 f + T - d_en σ o T k D f = d_et σ o T k D f := rfl
            rw [et1, et2]
            have nx := ih (c + 1) M30 (by omega) hv18 hr18
            refine ⟨fun y3 => ⟨i1, ?_⟩, fun y3 => ⟨i1, ?_⟩⟩
            · have e : d_nx σ o T k D (c + 1) = (f : Int) := by
                rw [d_nx, if_neg (fun w => by
                  rcases w.2 with w | w
                  · omega
                  · rw [ef, Int.toNat_natCast] at w; omega), ef]
              rw [e] at nx
              exact nx
            · have e : d_nx σ o T k D (c + 1) = c := by
                rw [d_nx, if_pos ⟨ha, Or.inr (by rw [ef, Int.toNat_natCast]; omega)⟩]
              rw [e] at nx
              exact nx
  exact loop 3 0 M (by omega) (fun c' hc' => by omega) (fun _ _ => rfl)
theorem d_pr_no {σ : St} {o : Nat → Nat} {T : Int} {k : Nat → Int} {D : dD} {c : Nat} (h : ¬ (σ 3 (o (D 0 c).toNat) : Int) ≤ d_en σ o T k D c) : ∀ n, d_pr σ o T k D c n = -6
  | 0 => rfl
  | n + 1 => by
    unfold d_pr
    rw [if_neg (fun z => h z.1)]
    exact d_pr_no h n
theorem kc_presser {σ : St} {o : Nat → Nat} {T : Int} {k : Nat → Int} {D : dD} {M : mM} {c : Nat} (hw : Wf σ) (hc : c < 3) (hh : HH σ M) (h43 : M 43 c = d_en σ o T k D c) (hr : ∀ b, b < σ 5 0 → M (45 + c) b = d_re σ o k D c b) : C_ kk_X4_presser [v_P 30, v_I (c : Int), v_I (σ 3 (o (D 0 c).toNat) : Int)] M (fun r M' => M' = M ∧ r = d_pr σ o T k D c (σ 5 0)) := by
  have hnb := hw.2.2.2.1
  refine c_intro (by decide) rfl (Nat.le_of_ble_eq_true rfl) (by simp [m_dv, Value.category]) (wp_X4_presser_0 ?_)
  have loop : ∀ m b, b + m = σ 5 0 → X_ kk_X4_presser 6 [v_P 30, v_I (c : Int), v_I (σ 3 (o (D 0 c).toNat) : Int), v_I (d_pr σ o T k D c b), v_I (b : Int), v_U] [] M (fun r M' => M' = M ∧ r = d_pr σ o T k D c (σ 5 0)) := by
    intro m
    induction m with
    | zero =>
      intro b hb
      refine wp_X4_presser_6 ⟨fun _ => ⟨rfl, by rw [show b = σ 5 0 by omega]⟩, fun z => absurd z (by rw [hh.2.1]; omega)⟩
    | succ m ih =>
      intro b hb
      have i1 : m_ir ((b : Int) + 1) := ⟨by omega, by omega⟩
      have nx := ih (b + 1) (by omega)
      refine wp_X4_presser_6 ⟨fun z => absurd z (by rw [hh.2.1]; omega), fun _ => ⟨by omega, ?_⟩⟩
      simp only [Int.toNat_natCast, h43, hr b (by omega)]
      have no : ¬ ((σ 3 (o (D 0 c).toNat) : Int) ≤ d_en σ o T k D c ∧ (d_pr σ o T k D c b < 0 ∨ σ 8 b < σ 8 (d_pr σ o T k D c b).toNat) ∧ d_en σ o T k D c ≤ d_re σ o k D c b) → X_ kk_X4_presser 6 [v_P 30, v_I (c : Int), v_I (σ 3 (o (D 0 c).toNat) : Int), v_I (d_pr σ o T k D c b), v_I ((b : Int) + 1), v_U] [] M (fun r M' => M' = M ∧ r = d_pr σ o T k D c (σ 5 0)) := by
        intro z
        have e : d_pr σ o T k D c (b + 1) = d_pr σ o T k D c b := by rw [d_pr, if_neg z]
        rw [e] at nx
        exact nx
      have yes : ((σ 3 (o (D 0 c).toNat) : Int) ≤ d_en σ o T k D c ∧ (d_pr σ o T k D c b < 0 ∨ σ 8 b < σ 8 (d_pr σ o T k D c b).toNat) ∧ d_en σ o T k D c ≤ d_re σ o k D c b) → X_ kk_X4_presser 6 [v_P 30, v_I (c : Int), v_I (σ 3 (o (D 0 c).toNat) : Int), v_I (b : Int), v_I ((b : Int) + 1), v_U] [] M (fun r M' => M' = M ∧ r = d_pr σ o T k D c (σ 5 0)) := by
        intro z
        have e : d_pr σ o T k D c (b + 1) = b := by rw [d_pr, if_pos z]
        rw [e] at nx
        exact nx
      refine ⟨fun y => ?_, fun y => ⟨fun y2 => ⟨by omega, by omega, by omega, fun y3 => ⟨i1, no (by omega)⟩, fun y3 => ⟨i1, yes ⟨by omega, Or.inl y2, by omega⟩⟩⟩, fun y2 => ?_⟩⟩
      · have hno : ¬ (σ 3 (o (D 0 c).toNat) : Int) ≤ d_en σ o T k D c := by omega
        rw [d_pr_no hno, d_pr_no hno]
        exact ⟨by first | trivial | rfl, by first | trivial | rfl⟩
      · rcases d_pr_spec (σ := σ) (o := o) (T := T) (k := k) (D := D) (c := c) b with a | ⟨a1, a2, a3, a4⟩
        · omega
        · obtain ⟨f, ef⟩ := nat_of a1
          have hf : f < 6 := by omega
          rw [ef] at no yes ⊢
          simp only [Int.toNat_natCast] at no yes ⊢
          rw [(hh.2.2.2 f hf).2.2.1, (hh.2.2.2 b (by omega)).2.2.1]
          exact ⟨by omega, by omega, fun y3 => ⟨i1, no (by omega)⟩, fun y3 => ⟨by omega, by omega, by omega, fun y4 => ⟨i1, no (by omega)⟩, fun y4 => ⟨i1, yes ⟨by omega, Or.inr (by omega), by omega⟩⟩⟩⟩
  exact loop (σ 5 0) 0 (by omega)
theorem kc_lookFrom {M : mM} {c : Nat} {now : Int} (hc : c < 3) (hn : 0 ≤ now ∧ now ≤ 100000) : C_ kk_X4_lookFrom [v_P 30, v_I (c : Int), v_I now] M (fun _ M' => (∀ i, i < 3 → M' 42 i = max (M 42 i) (if i < c then now + 1 else now)) ∧ ∀ p, p ≠ 42 → M' p = M p) := by
  refine c_intro (by decide) rfl (Nat.le_of_ble_eq_true rfl) (by simp [m_dv, Value.category]) (wp_X4_lookFrom_0 ?_)
  have loop : ∀ (m i : Nat) (M' : mM), i + m = 3 → (∀ j, j < i → M' 42 j = max (M 42 j) (if j < c then now + 1 else now)) → (∀ j, i ≤ j → M' 42 j = M 42 j) → (∀ p, p ≠ 42 → M' p = M p) → X_ kk_X4_lookFrom 2 [v_P 30, v_I (c : Int), v_I now, v_I (i : Int)] [] M' (fun _ M' => (∀ i, i < 3 → M' 42 i = max (M 42 i) (if i < c then now + 1 else now)) ∧ ∀ p, p ≠ 42 → M' p = M p) := by
    intro m
    induction m with
    | zero =>
      intro i M' hi h1 h2 h3
      exact wp_X4_lookFrom_2 ⟨fun _ => ⟨fun j hj => h1 j (by omega), h3⟩, fun z => absurd z (by omega)⟩
    | succ m ih =>
      intro i M' hi h1 h2 h3
      refine wp_X4_lookFrom_2 ⟨fun z => absurd z (by omega), fun _ => ⟨by omega, fun y => ⟨by omega, ⟨by omega, by omega⟩, ?_⟩, fun y => ⟨⟨by omega, by omega⟩, by omega, ⟨by omega, by omega⟩, ?_⟩⟩⟩
      · rw [Int.toNat_natCast, h2 i (Nat.le_refl _)]
        refine ih (i + 1) _ (by omega) (fun j hj => ?_) (fun j hj => by rw [up_slot (by omega)]; exact h2 j (by omega)) (fun p hp => by rw [up_row hp]; exact h3 p hp)
        by_cases w : j = i
        · subst w; rw [up_hit, if_neg (by omega)]
        · rw [up_slot w]; exact h1 j (by omega)
      · rw [Int.toNat_natCast, h2 i (Nat.le_refl _)]
        refine ih (i + 1) _ (by omega) (fun j hj => ?_) (fun j hj => by rw [up_slot (by omega)]; exact h2 j (by omega)) (fun p hp => by rw [up_row hp]; exact h3 p hp)
        by_cases w : j = i
        · subst w; rw [up_hit, if_pos (by omega)]
        · rw [up_slot w]; exact h1 j (by omega)
  exact loop 3 0 M (by omega) (fun j hj => by omega) (fun _ _ => rfl) (fun _ _ => rfl)
/-- Day.hand: a buyer has the lot l for v -/
theorem kc_hand {σ : St} {o : Nat → Nat} {k : Nat → Int} {D D1 : dD} {M : mM} {b l : Nat} {v : Int} (hw : Wf σ) (ho : d_or σ o) (hh : HH σ M) (hO : OR_ σ o M) (hb : b < σ 5 0) (hl : l < σ 0 0) (hB : BR σ k D M b) (hk : 0 ≤ k b ∧ k b ≤ 100) (hv : 0 ≤ v ∧ v ≤ D 4 b) (h4 : D 4 b ≤ σ 6 b) (hfree : (D 3 b).toNat.testBit l = false) (hd : 0 ≤ D 3 b ∧ D 3 b < ((2 ^ σ 0 0 : Nat) : Int))
    (e3 : D1 3 b = (((D 3 b).toNat ||| 2 ^ l : Nat) : Int)) (e4 : D1 4 b = D 4 b - v) (hp : ∀ c, c < 3 → 0 ≤ M 40 c) :
    C_ kk_X4_hand [v_P 30, v_I (b : Int), v_I (l : Int), v_I v] M (fun _ M' => BR σ k D1 M' b ∧ (∀ c, c < 3 → M 40 c < σ 0 0 → (D1 3 b).toNat.testBit (o (M 40 c).toNat) = false → M' (45 + c) b = d_rp σ o k D1 (M 40 c).toNat b) ∧ (∀ p i, i ≠ b → M' p i = M p i) ∧ ∀ p, p < 34 ∨ (40 ≤ p ∧ p < 45) ∨ 48 ≤ p → M' p = M p) := by
  have hn8 := hw.1
  have hnb := hw.2.2.2.1
  have p8 := pow8 hw
  have hcoin := (hw.2.2.2.2.1 b (by omega)).1
  obtain ⟨b1, b2, b3, b4, b5, b6⟩ := hB
  obtain ⟨h', eh⟩ := nat_of hd.1
  rw [eh, Int.toNat_natCast] at hfree e3 b2 b5
  rw [eh] at b1 hd
  have hh256 : h' < 256 := by omega
  have hs := (hw.2.1 l hl).1
  have hpack := pack_or hs hfree hl
  have hpk := g_lt (cnt16 hw (h := h' ||| 2 ^ l))
  have eu : (n_pack (n_cnt σ h') : Int) + ((2 ^ (5 * σ 1 l) : Nat) : Int) = (n_pack (n_cnt σ (h' ||| 2 ^ l)) : Nat) := by rw [hpack, Int.natCast_add]
  have hor := b_or2 hh256 (show l < 8 by omega)
  have eor : m_or (h' : Int) (m_shl 1 (l : Int)) = ((h' ||| 2 ^ l : Nat) : Int) := by
    rw [b_shl1 (by omega), b_or (by omega) (Nat.pow_lt_pow_right (by decide) (by omega))]
  refine c_intro (by decide) rfl (Nat.le_of_ble_eq_true rfl) (by simp [m_dv, Value.category]) (wp_X4_hand_0 ?_)
  simp only [Int.toNat_natCast]
  rw [b1, b5, (hh.1.2 l hl).1, eu, eor]
  refine ⟨by omega, by omega, by omega, by omega, ⟨by omega, by omega⟩, by omega, fun M7 e7 => ⟨by omega, by omega, ?_⟩⟩
  have hh7 : HH σ M7 := HH_of hh (fun p hp => by rw [e7]; simp (disch := omega) only [up_row, up_slot, up_hit, su_row, su_slot, su_hit])
  refine ⟨_, kc_worthOf hw (by omega) (hh7.2.2.2 b (by omega)) (cnt16 hw), fun r13 M14 _ _ e14 => ?_⟩
  obtain ⟨e14a, rfl⟩ := e14
  subst e14a
  have m36 : M14 36 b = σ 6 b - D 4 b := by rw [e7]; simp (disch := omega) only [up_row, up_slot, up_hit, su_row, su_slot, su_hit]; exact b3
  have m37 : M14 37 b = D 4 b := by rw [e7]; simp (disch := omega) only [up_row, up_slot, up_hit, su_row, su_slot, su_hit]; exact b4
  rw [m36, m37]
  refine ⟨by omega, by omega, ⟨by omega, by omega⟩, by omega, by omega, ⟨by omega, by omega⟩, by omega, fun M26 e26 => ?_⟩
  have hBR : BR σ k D1 M26 b := by
    unfold BR
    rw [e3, e4, Int.toNat_natCast, e26]
    simp (disch := omega) only [up_row, up_slot, up_hit, su_row, su_slot, su_hit]
    rw [e7]
    simp (disch := omega) only [up_row, up_slot, up_hit, su_row, su_slot, su_hit]
    exact ⟨trivial, rfl, by omega, trivial, trivial, b6⟩
  have hrow : ∀ p i, i ≠ b → M26 p i = M p i := fun p i hi => by
    rw [e26, m_up_ne (Or.inr hi), m_up_ne (Or.inr hi), m_up_ne (Or.inr hi), e7, m_up_ne (Or.inr hi), m_up_ne (Or.inr hi)]
  have hfr : ∀ p, p < 34 ∨ 39 ≤ p → M26 p = M p := fun p hp => by
    rw [e26, up_row (by omega), up_row (by omega), up_row (by omega), e7, up_row (by omega), up_row (by omega)]
  have loop : ∀ (m c : Nat) (M' : mM), c + m = 3 → (∀ p i, ¬ (45 ≤ p ∧ p < 45 + c ∧ i = b) → M' p i = M26 p i) → (∀ c', c' < c → M 40 c' < σ 0 0 → (D1 3 b).toNat.testBit (o (M 40 c').toNat) = false → M' (45 + c') b = d_rp σ o k D1 (M 40 c').toNat b) → X_ kk_X4_hand 77 [v_P 30, v_I (b : Int), v_U, v_U, v_I (c : Int)] [] M' (fun _ M' => BR σ k D1 M' b ∧ (∀ c, c < 3 → M 40 c < σ 0 0 → (D1 3 b).toNat.testBit (o (M 40 c).toNat) = false → M' (45 + c) b = d_rp σ o k D1 (M 40 c).toNat b) ∧ (∀ p i, i ≠ b → M' p i = M p i) ∧ ∀ p, p < 34 ∨ (40 ≤ p ∧ p < 45) ∨ 48 ≤ p → M' p = M p) := by
    intro m
    induction m with
    | zero =>
      intro c M' hc h1 h2
      refine wp_X4_hand_77 ⟨fun _ => ⟨?_, fun c' hc' => h2 c' (by omega), fun p i hi => ?_, fun p hp => ?_⟩, fun y => absurd y (by omega)⟩
      · obtain ⟨x1, x2, x3, x4, x5, x6⟩ := hBR
        exact ⟨by rw [h1 _ _ (by omega)]; exact x1, by rw [h1 _ _ (by omega)]; exact x2, by rw [h1 _ _ (by omega)]; exact x3, by rw [h1 _ _ (by omega)]; exact x4, by rw [h1 _ _ (by omega)]; exact x5, by rw [h1 _ _ (by omega)]; exact x6⟩
      · rw [h1 p i (by omega)]; exact hrow p i hi
      · rw [← hfr p (by omega)]
        funext i
        exact h1 p i (by omega)
    | succ m ih =>
      intro c M' hc h1 h2
      have hc3 : c < 3 := by omega
      have r40 : M' 40 c = M 40 c := by rw [h1 40 c (by omega), hfr 40 (by omega)]
      have hrowp : ∀ p, p < 45 → M' p = M26 p := fun p hp => by
        funext i
        exact h1 p i (by omega)
      have hh' : HH σ M' := HH_of hh (fun p hp => by rw [hrowp p (by omega), hfr p (by omega)])
      have hO' : OR_ σ o M' := OR_of hO (by rw [hrowp 30 (by omega), hfr 30 (by omega)]) (by rw [hrowp 5 (by omega), hfr 5 (by omega)]) (by
        rw [← hfr 73 (by omega)]
        funext i
        exact h1 73 i (by omega))
      have hB' : BR σ k D1 M' b := by
        unfold BR
        rw [hrowp 34 (by omega), hrowp 35 (by omega), hrowp 36 (by omega), hrowp 37 (by omega), hrowp 38 (by omega), hrowp 39 (by omega)]
        exact hBR
      refine wp_X4_hand_77 ⟨fun y => absurd y (by omega), fun _ => ⟨_, kc_weigh (D := D1) hw ho hh' hO' hc3 hb hB' hk (by rw [r40]; exact hp c hc3) (by rw [e3]; have := Nat.or_lt_two_pow (n := σ 0 0) (x := h') (y := 2 ^ l) (by omega) (Nat.pow_lt_pow_right (by decide) hl); omega) (by rw [e4]; omega), fun r2 M3 _ _ e => ⟨⟨by omega, by omega⟩, ?_⟩⟩⟩
      rw [r40] at e
      obtain ⟨e5, e6⟩ := e
      refine ih (c + 1) M3 (by omega) (fun p i hpi => by rw [e6 p i (by omega)]; exact h1 p i (by omega)) (fun c' hc' ha hz => ?_)
      by_cases w : c' = c
      · subst w; exact e5 ha hz
      · rw [e6 _ _ (by omega)]; exact h2 c' (by omega) ha hz
  exact loop 3 0 M26 (by omega) (fun _ _ _ => rfl) (fun c' hc' => by omega)
