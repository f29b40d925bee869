/-! the DAY of the class, whole -/
/-- every alternative wants something -/
def Wf2 (σ : St) : Prop := ∀ b i, b < 6 → i < σ 9 b → 1 ≤ n_need σ (6 * b + i)
theorem n_ct_0 {σ : St} {s : Nat} : ∀ l, n_ct σ 0 s l = 0
  | 0 => rfl
  | l + 1 => by
    rw [n_ct, n_ct_0 l, if_neg (by simp)]
theorem n_worth_0 {σ : St} (h2 : Wf2 σ) {b : Nat} (hb : b < 6) : n_worth σ b 0 = 0 := by
  have key : ∀ i, i ≤ σ 9 b → n_wo σ b (n_cnt σ 0) i = 0 := by
    intro i
    induction i with
    | zero => intro _; rfl
    | succ i ih =>
      intro hi
      rw [n_wo, ih (by omega), if_neg]
      intro z
      have z1 := z.1
      unfold n_is n_metc at z1
      simp only [Bool.and_eq_true, decide_eq_true_iff] at z1
      have hn := h2 b i hb (by omega)
      have hc : ∀ s, n_cnt σ 0 s = 0 := fun s => n_ct_0 _
      simp only [hc] at z1
      unfold n_need at hn
      omega
  exact key _ (Nat.le_refl _)
theorem kc_open {σ : St} {M : mM} {q : Nat} {T : Int} (hw : Wf σ) (hq : q < 111) (hh : HH σ M) : C_ kk_X4_open [v_P 30, v_P q, v_I T] M (fun _ M' => M' 30 15 = q ∧ M' 30 16 = T ∧ (∀ b, b < σ 5 0 → M' 34 b = 0 ∧ M' 35 b = 0 ∧ M' 36 b = 0 ∧ M' 37 b = σ 6 b ∧ M' 38 b = 0 ∧ M' 39 b = 100 - (σ 7 b : Int)) ∧ (∀ p, p < 30 ∨ 31 ≤ p ∧ p < 34 ∨ 40 ≤ p → M' p = M p)) := by
  have hnb := hw.2.2.2.1
  refine c_intro (by decide) rfl (Nat.le_of_ble_eq_true rfl) (by simp [m_dv, Value.category]) (wp_X4_open_0 hq ?_)
  have loop : ∀ (m b : Nat) (M' : mM), b + m = σ 5 0 → M' 30 15 = q → M' 30 16 = T → (∀ b', b' < b → M' 34 b' = 0 ∧ M' 35 b' = 0 ∧ M' 36 b' = 0 ∧ M' 37 b' = σ 6 b' ∧ M' 38 b' = 0 ∧ M' 39 b' = 100 - (σ 7 b' : Int)) → (∀ p, p < 30 ∨ 31 ≤ p ∧ p < 34 ∨ 40 ≤ p → M' p = M p) → X_ kk_X4_open 12 [v_P 30, v_U, v_U, v_I (b : Int)] [] M' (fun _ M' => M' 30 15 = q ∧ M' 30 16 = T ∧ (∀ b, b < σ 5 0 → M' 34 b = 0 ∧ M' 35 b = 0 ∧ M' 36 b = 0 ∧ M' 37 b = σ 6 b ∧ M' 38 b = 0 ∧ M' 39 b = 100 - (σ 7 b : Int)) ∧ (∀ p, p < 30 ∨ 31 ≤ p ∧ p < 34 ∨ 40 ≤ p → M' p = M p)) := by
    intro m
    induction m with
    | zero =>
      intro b M' hb h1 h2 h3 h4
      exact wp_X4_open_12 ⟨fun _ => ⟨h1, h2, fun b' hb' => h3 b' (by omega), h4⟩, fun z => absurd z (by rw [h4 1 (by omega), hh.2.1]; omega)⟩
    | succ m ih =>
      intro b M' hb h1 h2 h3 h4
      have g := hh.2.2.2 b (by omega)
      have gc := hw.2.2.2.2.1 b (by omega)
      refine wp_X4_open_12 ⟨fun z => absurd z (by rw [h4 1 (by omega), hh.2.1]; omega), fun _ => ?_⟩
      rw [Int.toNat_natCast, h4 (8 + 3 * b) (by omega), g.1, g.2.1]
      refine ⟨by omega, by omega, by omega, by omega, by omega, fun M7 e7 => ⟨by omega, by omega, ⟨by omega, by omega⟩, by omega, fun M14 e14 => ⟨⟨by omega, by omega⟩, ?_⟩⟩⟩
      refine ih (b + 1) M14 (by omega) ?_ ?_ (fun b' hb' => ?_) (fun p hp => ?_)
      · rw [e14, e7]; simp (disch := omega) only [up_row, up_slot, up_hit, su_row, su_slot, su_hit]; exact h1
      · rw [e14, e7]; simp (disch := omega) only [up_row, up_slot, up_hit, su_row, su_slot, su_hit]; exact h2
      · by_cases w : b' = b
        · subst w
          rw [e14, e7]
          simp (disch := omega) only [up_row, up_slot, up_hit, su_row, su_slot, su_hit]
          exact ⟨trivial, trivial, trivial, trivial, trivial, trivial⟩
        · rw [e14, e7]
          simp (disch := omega) only [up_row, up_slot, up_hit, su_row, su_slot, su_hit]
          exact h3 b' (by omega)
      · rw [e14, e7, up_row (by omega), up_row (by omega), up_row (by omega), up_row (by omega), up_row (by omega), up_row (by omega)]
        exact h4 p hp
  exact loop (σ 5 0) 0 _ (by omega) (by simp (disch := omega) only [up_row, up_slot, up_hit, su_row, su_slot, su_hit]) (by simp (disch := omega) only [up_row, up_slot, up_hit, su_row, su_slot, su_hit]) (fun b' hb' => by omega) (fun p hp => by rw [up_row (by omega), up_row (by omega)])
theorem d_go_stuck {σ : St} {o : Nat → Nat} {T : Int} {k : Nat → Int} {i : Nat} (h : d_nx σ o T k (d_go σ o T k i) 3 < 0) : ∀ m, d_go σ o T k (i + m) = d_go σ o T k i
  | 0 => rfl
  | m + 1 => by
    have ih := d_go_stuck h m
    rw [show i + (m + 1) = (i + m) + 1 by omega, d_go, ih, if_pos h]
theorem d_re_ev {σ : St} {o : Nat → Nat} {T : Int} {k : Nat → Int} {D : dD} {c c' b : Nat} (hc : c' ≠ c) (hb : ¬ (b : Int) = d_pr σ o T k D c (σ 5 0)) : d_re σ o k (d_ev σ o T k D c) c' b = d_re σ o k D c' b := by
  unfold d_re d_bid
  rw [ev_0, ev_3, ev_4, if_neg hc, if_neg hb, if_neg hb]
theorem kc_run {σ : St} {o : Nat → Nat} {T : Int} {k : Nat → Int} {M : mM} (hw : Wf σ) (h2 : Wf2 σ) (ho : d_or σ o) (hT : 0 ≤ T ∧ T ≤ 200) (hk : ∀ b, b < σ 5 0 → 0 ≤ k b ∧ k b ≤ 100) (hh : HH σ M) (hO : OR_ σ o M) (h16 : M 30 16 = T) (hB : ∀ b, b < σ 5 0 → M 34 b = 0 ∧ M 35 b = 0 ∧ M 36 b = 0 ∧ M 37 b = σ 6 b ∧ M 38 b = 0 ∧ M 39 b = k b) : C_ kk_X4_run [v_P 30] M (fun _ M' => DR σ o T k (d_end σ o T k) M' ∧ ∀ p, p < 31 ∨ 48 ≤ p → M' p = M p) := by
  have hn8 := hw.1
  have hnb := hw.2.2.2.1
  have hBR : ∀ b, b < σ 5 0 → BR σ k (d_0 σ o) M b := fun b hb => by
    obtain ⟨x1, x2, x3, x4, x5, x6⟩ := hB b hb
    have e3 : d_0 σ o 3 b = 0 := rfl
    have e4 : d_0 σ o 4 b = σ 6 b := rfl
    unfold BR
    rw [e3, e4]
    refine ⟨x1, by rw [x2, show (0 : Int).toNat = 0 from rfl, n_worth_0 h2 (by omega)]; rfl, by rw [x3]; omega, x4, ?_, x6⟩
    rw [x5]
    have hc : ∀ s, n_cnt σ (0 : Int).toNat s = 0 := fun s => n_ct_0 _
    unfold n_pack
    rw [hc, hc, hc, hc, hc]
    rfl
  refine c_intro (by decide) rfl (Nat.le_of_ble_eq_true rfl) (by simp [m_dv, Value.category]) (wp_X4_run_0 ?_)
  -- the events
  have ev : ∀ (m i : Nat) (M' : mM), i + m = σ 0 0 → DR σ o T k (d_go σ o T k i) M' → (∀ p, p < 31 ∨ 48 ≤ p → M' p = M p) → X_ kk_X4_run 22 [v_P 30, v_I (i : Int), v_U, v_U, v_U] [] M' (fun _ M' => DR σ o T k (d_end σ o T k) M' ∧ ∀ p, p < 31 ∨ 48 ≤ p → M' p = M p) := by
    intro m
    induction m with
    | zero =>
      intro i M' hi hD hf
      refine wp_X4_run_22 ⟨fun _ => ⟨by unfold d_end; rw [show σ 0 0 = i by omega]; exact hD, hf⟩, fun y => absurd y (by rw [hf 1 (by omega), hh.1.1]; omega)⟩
    | succ m ih =>
      intro i M' hi hD hf
      have hok := d_ok_go (k := k) hw ho hT.1 i
      have hBd : (i : Int) * (T + 1) ≤ 50000 := by
        have h8 : (i : Int) ≤ 8 := by omega
        have m1 := Int.mul_le_mul_of_nonneg_right h8 (show (0 : Int) ≤ T + 1 by omega)
        omega
      refine wp_X4_run_22 ⟨fun y => absurd y (by rw [hf 1 (by omega), hh.1.1]; omega), fun _ => ⟨_, kc_nextToEnd hw ho hT hBd hok hD, fun r2 M3 _ _ e3 => ?_⟩⟩
      obtain ⟨rfl, e43, f3⟩ := e3
      have hgo : d_go σ o T k (i + 1) = if d_nx σ o T k (d_go σ o T k i) 3 < 0 then d_go σ o T k i else d_ev σ o T k (d_go σ o T k i) (d_nx σ o T k (d_go σ o T k i) 3).toNat := rfl
      have hstuck := d_go_stuck (σ := σ) (o := o) (T := T) (k := k) (i := i)
      generalize hDD : d_go σ o T k i = D at hD hok e43 hgo hstuck ⊢
      obtain ⟨dh, dO, d16, dcl, dB, dS⟩ := hD
      rcases d_nx_spec (σ := σ) (o := o) (T := T) (k := k) (D := D) (n := 3) with ⟨a1, a2⟩ | ⟨a1, a2, a3, a4⟩
      · refine ⟨fun y => absurd a1 (by omega), fun _ => ⟨?_, fun p hp => by rw [f3 p (by omega)]; exact hf p hp⟩⟩
        have ed : d_end σ o T k = D := by
          unfold d_end
          rw [show σ 0 0 = i + (m + 1) by omega]
          exact hstuck a1 (m + 1)
        rw [ed]
        refine ⟨HH_of dh (fun p hp => f3 p (by omega)), OR_of dO (by rw [f3 30 (by decide)]) (f3 5 (by decide)) (f3 73 (by decide)), by rw [f3 30 (by decide)]; exact d16, fun c hc => ?_, fun b hb => ?_, fun p hp hs => ?_⟩
        · rw [f3 40 (by decide), f3 41 (by decide), f3 42 (by decide), f3 (45 + c) (by omega)]; exact dcl c hc
        · unfold BR
          rw [f3 34 (by decide), f3 35 (by decide), f3 36 (by decide), f3 37 (by decide), f3 38 (by decide), f3 39 (by decide)]; exact dB b hb
        · rw [f3 31 (by decide), f3 32 (by decide), f3 33 (by decide)]; exact dS p hp hs
      · refine ⟨fun _ => ?_, fun y => absurd a1 y⟩
        obtain ⟨c, ec⟩ := nat_of a1
        rw [ec] at a2 a4
        rw [ec, Int.toNat_natCast] at a3 hgo
        simp only [Int.toNat_natCast] at a4
        rw [if_neg (by omega)] at hgo
        rw [ec, Int.toNat_natCast]
        have hc3 : c < 3 := by omega
        obtain ⟨c1, c2, c3, c4, c5, c6⟩ := hok.1 c hc3
        obtain ⟨k1, k2, k3, k4⟩ := dcl c hc3
        have hpl : (D 0 c).toNat < σ 0 0 := by omega
        have hl := ho.1 _ hpl
        have hclk := c3 a3
        have hok1 := d_ok_ev (k := k) hw ho hT.1 hc3 a3 hok (fun c' hc' hx => by rcases a4 c' hc' hx with y | y <;> omega)
        have het := d_en_le (σ := σ) (o := o) (T := T) (k := k) (D := D) (c := c) hT.1 c5
        obtain ⟨q, z, q1, q2, q3, q4, q5⟩ := dO
        have eq5 : M3 q (D 0 c).toNat = o (D 0 c).toNat := by rw [f3 q (by omega)]; exact q5 _ hpl
        have e40 : M3 40 c = D 0 c := by rw [f3 40 (by decide)]; exact k1
        have e3015 : M3 30 15 = (q : Nat) := by rw [f3 30 (by decide)]; exact q1
        rw [e40, e3015, Int.toNat_natCast, eq5, Int.toNat_natCast, q2]
        have e43c := e43 c hc3 a3
        have e41 : M3 41 c = D 1 c := by rw [f3 41 (by decide)]; exact k2
        have e3016 : M3 30 16 = T := by rw [f3 30 (by decide)]; exact d16
        have hcoin : ∀ b, b < 6 → 0 ≤ D 4 b ∧ D 4 b ≤ 1000 := fun b hb => by
          have h1 := hok.2.1 b hb
          have h2 := (hw.2.2.2.2.1 b hb).1
          omega
        have h3l := (hw.2.1 _ hl).2.2.1
        have g1 := d_hi_ge (σ := σ) (o := o) (k := k) (D := D) (c := c) (σ 5 0)
        have g2 := d_hi_le (σ := σ) (o := o) (k := k) (D := D) (c := c) (by omega) hcoin (σ 5 0) hnb
        have g0 : (0 : Int) ≤ σ 3 (o (D 0 c).toNat) := Int.natCast_nonneg _
        have hen : -100000 ≤ d_en σ o T k D c ∧ d_en σ o T k D c ≤ 1000 := by unfold d_en; omega
        refine ⟨by omega, ⟨rfl, by omega, by show D 0 c < (z : Nat); omega⟩, _, kc_endTick hc3 (by rw [e41]; omega) (by rw [e3016]; omega) (by rw [e43c]; omega), fun r11 M12 _ _ e12 => ?_⟩
        obtain ⟨e12a, rfl⟩ := e12
        subst e12a
        rw [e41, e3016, e43c]
        have eet : D 1 c + T - d_en σ o T k D c = d_et σ o T k D c := rfl
        rw [eet]
        have hh3 : HH σ M12 := HH_of dh (fun p hp => f3 p (by omega))
        rw [(hh3.1.2 _ hl).2.2.1]
        refine ⟨by omega, _, kc_presser (T := T) hw hc3 hh3 e43c (fun b hb => by rw [f3 (45 + c) (by omega)]; exact k4 a3 b hb), fun r19 M20 _ _ e20 => ?_⟩
        obtain ⟨e20a, rfl⟩ := e20
        subst e20a
        rw [e43c]
        -- behind the sale
        generalize hw0 : d_pr σ o T k D c (σ 5 0) = w at *
        have D3 : ∀ b, d_ev σ o T k D c 3 b = if (b : Int) = w then (((D 3 b).toNat ||| 2 ^ o (D 0 c).toNat : Nat) : Int) else D 3 b := fun b => by rw [ev_3, hw0]
        have D4 : ∀ b, d_ev σ o T k D c 4 b = if (b : Int) = w then D 4 b - d_en σ o T k D c else D 4 b := fun b => by rw [ev_4, hw0]
        have D5 : ∀ l, d_ev σ o T k D c 5 l = if l = o (D 0 c).toNat then w else D 5 l := fun l => by rw [ev_5, hw0]
        have D6 : ∀ l, d_ev σ o T k D c 6 l = if l = o (D 0 c).toNat then (if w < 0 then -6 else d_en σ o T k D c) else D 6 l := fun l => by rw [ev_6, hw0]
        have tl : ∀ N : mM, (∀ p, p < 31 ∨ 48 ≤ p ∨ (40 ≤ p ∧ p < 43) → N p = M' p) → (∀ c', c' < 3 → c' ≠ c → D 0 c' < σ 0 0 → ∀ b, b < σ 5 0 → N (45 + c') b = d_re σ o k (d_ev σ o T k D c) c' b) → (∀ b, b < σ 5 0 → BR σ k (d_ev σ o T k D c) N b) → (∀ l, l ≠ o (D 0 c).toNat → N 31 l = M' 31 l ∧ N 32 l = M' 32 l ∧ N 33 l = M' 33 l) → N 31 (o (D 0 c).toNat) = w → N 32 (o (D 0 c).toNat) = (if w < 0 then -6 else d_en σ o T k D c) → N 33 (o (D 0 c).toNat) = d_et σ o T k D c →
            ∃ Qc : Int → mM → Prop, C_ kk_X4_lookFrom [v_P 30, v_I (c : Int), v_I (d_et σ o T k D c)] N Qc ∧ ∀ (r : Int) (M39 : mM), m_ir r → m_okM M39 → Qc r M39 → ((0 : Int) ≤ (c : Int) ∧ (c : Int) < 3) ∧ m_ir (M39 40 c + 1) ∧ m_ir (d_et σ o T k D c + 1) ∧ ∃ Qc2 : Int → mM → Prop, C_ kk_X4_bringOn [v_P 30, v_I (c : Int), v_I (M39 40 c + 1), v_I (d_et σ o T k D c + 1)] M39 Qc2 ∧ ∀ (r2 : Int) (M49 : mM), m_ir r2 → m_okM M49 → Qc2 r2 M49 → m_ir ((i : Int) + 1) ∧ X_ kk_X4_run 22 [v_P 30, v_I ((i : Int) + 1), v_U, v_U, v_U] [] M49 (fun _ M' => DR σ o T k (d_end σ o T k) M' ∧ ∀ p, p < 31 ∨ 48 ≤ p → M' p = M p) := by
          intro N n1 n2 n3 n4 n5 n6 n7
          refine ⟨_, kc_lookFrom hc3 (by omega), fun r M39 _ _ e39 => ?_⟩
          obtain ⟨x42, x0⟩ := e39
          have y40 : M39 40 c = D 0 c := by rw [x0 40 (by decide), n1 40 (by omega)]; exact k1
          rw [y40]
          have eD : D 0 c + 1 = (((D 0 c).toNat + 1 : Nat) : Int) := by omega
          rw [eD]
          have hh39 : HH σ M39 := HH_of dh (fun p hp => by rw [x0 p (by omega), n1 p (by omega)])
          have hO39 : OR_ σ o M39 := OR_of ⟨q, z, q1, q2, q3, q4, q5⟩ (by rw [x0 30 (by decide), n1 30 (by omega)]) (by rw [x0 5 (by decide), n1 5 (by omega)]) (by rw [x0 73 (by decide), n1 73 (by omega)])
          have hnp := d_np_spec (σ := σ) (o := o) (c := c) (p := (D 0 c).toNat + 1) (by omega)
          refine ⟨by omega, ⟨by omega, by omega⟩, ⟨by omega, by omega⟩, _, kc_bringOn (D := d_ev σ o T k D c) (k := k) hw ho hh39 hO39 hc3 (by omega) (fun b hb => by
            unfold BR
            rw [x0 34 (by decide), x0 35 (by decide), x0 36 (by decide), x0 37 (by decide), x0 38 (by decide), x0 39 (by decide)]
            exact n3 b hb) hk (fun b hb => by
            have g := hok1.2.1 b (by omega)
            have g' := (hw.2.2.2.2.1 b (by omega)).1
            exact ⟨g.1, g.2.1, g.2.2.1, by omega⟩) (fun ha b hb => by
            have e0 : d_ev σ o T k D c 0 c = d_np σ o c ((D 0 c).toNat + 1) := by rw [ev_0, if_pos rfl]
            have hfr := d_free (c := c) (b := b) ho hok1 hc3 (by omega) (by rw [e0]; omega)
            rw [e0, Int.toNat_natCast] at hfr
            exact hfr), fun r2 M49 _ _ e49 => ⟨⟨by omega, by omega⟩, ?_⟩⟩
          obtain ⟨z1, z2, z3, z4, z5, z6⟩ := e49
          refine ih (i + 1) M49 (by omega) ?_ (fun p hp => by rw [z6 p (by omega) (by omega) (by omega) (by omega), x0 p (by omega), n1 p (by omega)]; exact hf p hp)
          rw [hgo]
          refine ⟨HH_of hh39 (fun p hp => z6 p (by omega) (by omega) (by omega) (by omega)), OR_of hO39 (by rw [z6 30 (by omega) (by omega) (by omega) (by omega)]) (z6 5 (by omega) (by omega) (by omega) (by omega)) (z6 73 (by omega) (by omega) (by omega) (by omega)), by rw [z6 30 (by omega) (by omega) (by omega) (by omega), x0 30 (by decide), n1 30 (by omega)]; exact d16, fun c' hc' => ?_, fun b hb => ?_, fun p hp hs => ?_⟩
          · rw [ev_0, ev_1, ev_2]
            by_cases e : c' = c
            · subst e
              simp only [if_true]
              refine ⟨z1, z2, z3, fun ha b hb => ?_⟩
              rw [z4 (by omega) b hb, d_re_rp, ev_0, if_pos rfl, Int.toNat_natCast]
            · rw [if_neg e, if_neg e, if_neg e]
              obtain ⟨m1, m2, m3, m4⟩ := dcl c' hc'
              refine ⟨?_, ?_, ?_, fun ha b hb => ?_⟩
              · rw [z5 40 c' (by omega) e, x0 40 (by decide), n1 40 (by omega)]; exact m1
              · rw [z5 41 c' (by omega) e, x0 41 (by decide), n1 41 (by omega)]; exact m2
              · rw [z5 42 c' (by omega) e, x42 c' hc', n1 42 (by omega), m3]
              · rw [z6 (45 + c') (by omega) (by omega) (by omega) (by omega), x0 (45 + c') (by omega)]
                exact n2 c' hc' e ha b hb
          · unfold BR
            rw [z6 34 (by omega) (by omega) (by omega) (by omega), z6 35 (by omega) (by omega) (by omega) (by omega), z6 36 (by omega) (by omega) (by omega) (by omega), z6 37 (by omega) (by omega) (by omega) (by omega), z6 38 (by omega) (by omega) (by omega) (by omega), z6 39 (by omega) (by omega) (by omega) (by omega), x0 34 (by decide), x0 35 (by decide), x0 36 (by decide), x0 37 (by decide), x0 38 (by decide), x0 39 (by decide)]
            exact n3 b hb
          · rw [z6 31 (by omega) (by omega) (by omega) (by omega), z6 32 (by omega) (by omega) (by omega) (by omega), z6 33 (by omega) (by omega) (by omega) (by omega), x0 31 (by decide), x0 32 (by decide), x0 33 (by decide), D5, D6, ev_7]
            by_cases e : o p = o (D 0 c).toNat
            · rw [if_pos e, if_pos e, if_pos e, e]
              exact ⟨n5, n6, n7⟩
            · rw [if_neg e, if_neg e, if_neg e, (n4 _ e).1, (n4 _ e).2.1, (n4 _ e).2.2]
              refine dS p hp ?_
              rw [ev_0] at hs
              by_cases y : σ 2 (o p) = c
              · rw [if_pos y] at hs
                rw [y]
                have hne : p ≠ (D 0 c).toNat := fun w => e (by rw [w])
                rcases Nat.lt_or_ge p (D 0 c).toNat with w | w
                · omega
                · exact absurd y (hnp.2.2.2 p (by omega) (by omega))
              · rw [if_neg y] at hs
                exact hs
        have i1 : m_ir ((i : Int) + 1) := ⟨by omega, by omega⟩
        -- the two ends: sold, or not
        have unsold : w < 0 → ∀ N : mM, N = m_up (m_up (m_up M20 31 (o (D 0 c).toNat) w) 32 (o (D 0 c).toNat) (-6)) 33 (o (D 0 c).toNat) (d_et σ o T k D c) → ∃ Qc : Int → mM → Prop, C_ kk_X4_lookFrom [v_P 30, v_I (c : Int), v_I (d_et σ o T k D c)] N Qc ∧ ∀ (r : Int) (M39 : mM), m_ir r → m_okM M39 → Qc r M39 → ((0 : Int) ≤ (c : Int) ∧ (c : Int) < 3) ∧ m_ir (M39 40 c + 1) ∧ m_ir (d_et σ o T k D c + 1) ∧ ∃ Qc2 : Int → mM → Prop, C_ kk_X4_bringOn [v_P 30, v_I (c : Int), v_I (M39 40 c + 1), v_I (d_et σ o T k D c + 1)] M39 Qc2 ∧ ∀ (r2 : Int) (M49 : mM), m_ir r2 → m_okM M49 → Qc2 r2 M49 → m_ir ((i : Int) + 1) ∧ X_ kk_X4_run 22 [v_P 30, v_I ((i : Int) + 1), v_U, v_U, v_U] [] M49 (fun _ M' => DR σ o T k (d_end σ o T k) M' ∧ ∀ p, p < 31 ∨ 48 ≤ p → M' p = M p) := by
          intro hneg N eN
          have hbw : ∀ b : Nat, ¬ (b : Int) = w := fun b => by omega
          refine tl N (fun p hp => ?_) (fun c' hc' hne ha b hb => ?_) (fun b hb => ?_) (fun l hl' => ?_) ?_ ?_ ?_
          · rw [eN, up_row (by omega), up_row (by omega), up_row (by omega)]; exact f3 p (by omega)
          · rw [d_re_ev hne (by rw [hw0]; exact hbw b), eN, up_row (by omega), up_row (by omega), up_row (by omega), f3 (45 + c') (by omega)]
            exact (dcl c' hc').2.2.2 ha b hb
          · unfold BR
            rw [D3, D4, if_neg (hbw b), if_neg (hbw b), eN]
            simp (disch := omega) only [up_row, up_slot, up_hit, su_row, su_slot, su_hit]
            rw [f3 34 (by decide), f3 35 (by decide), f3 36 (by decide), f3 37 (by decide), f3 38 (by decide), f3 39 (by decide)]
            exact dB b hb
          · rw [eN]
            simp (disch := omega) only [up_row, up_slot, up_hit, su_row, su_slot, su_hit]
            rw [f3 31 (by decide), f3 32 (by decide), f3 33 (by decide)]
            exact ⟨rfl, rfl, rfl⟩
          · rw [eN]; simp (disch := omega) only [up_row, up_slot, up_hit, su_row, su_slot, su_hit]
          · rw [eN, if_pos hneg]; simp (disch := omega) only [up_row, up_slot, up_hit, su_row, su_slot, su_hit]
          · rw [eN]; simp (disch := omega) only [up_row, up_slot, up_hit, su_row, su_slot, su_hit]
        have sold : 0 ≤ w → ∀ N : mM, N = m_up (m_up (m_up M20 31 (o (D 0 c).toNat) w) 32 (o (D 0 c).toNat) (d_en σ o T k D c)) 33 (o (D 0 c).toNat) (d_et σ o T k D c) → ∃ Qc0 : Int → mM → Prop, C_ kk_X4_hand [v_P 30, v_I w, v_I (o (D 0 c).toNat : Int), v_I (d_en σ o T k D c)] N Qc0 ∧ ∀ (r0 : Int) (N1 : mM), m_ir r0 → m_okM N1 → Qc0 r0 N1 → ∃ Qc : Int → mM → Prop, C_ kk_X4_lookFrom [v_P 30, v_I (c : Int), v_I (d_et σ o T k D c)] N1 Qc ∧ ∀ (r : Int) (M39 : mM), m_ir r → m_okM M39 → Qc r M39 → ((0 : Int) ≤ (c : Int) ∧ (c : Int) < 3) ∧ m_ir (M39 40 c + 1) ∧ m_ir (d_et σ o T k D c + 1) ∧ ∃ Qc2 : Int → mM → Prop, C_ kk_X4_bringOn [v_P 30, v_I (c : Int), v_I (M39 40 c + 1), v_I (d_et σ o T k D c + 1)] M39 Qc2 ∧ ∀ (r2 : Int) (M49 : mM), m_ir r2 → m_okM M49 → Qc2 r2 M49 → m_ir ((i : Int) + 1) ∧ X_ kk_X4_run 22 [v_P 30, v_I ((i : Int) + 1), v_U, v_U, v_U] [] M49 (fun _ M' => DR σ o T k (d_end σ o T k) M' ∧ ∀ p, p < 31 ∨ 48 ≤ p → M' p = M p) := by
          intro hpos N eN
          obtain ⟨w', rfl⟩ := nat_of hpos
          have hspec := d_pr_spec (σ := σ) (o := o) (T := T) (k := k) (D := D) (c := c) (σ 5 0)
          rw [hw0] at hspec
          rcases hspec with y | ⟨y1, y2, y3, y4⟩
          · omega
          · rw [Int.toNat_natCast] at y3
            have hw5 : w' < σ 5 0 := by omega
            have gb := hok.2.1 w' (by omega)
            have hre := (d_re_le (σ := σ) (o := o) (k := k) (c := c) gb.2.2.1).2
            have nfr : ∀ p, p < 31 ∨ 34 ≤ p → N p = M20 p := fun p hp => by rw [eN, up_row (by omega), up_row (by omega), up_row (by omega)]
            have hhN : HH σ N := HH_of hh3 (fun p hp => nfr p (by omega))
            have hON : OR_ σ o N := OR_of ⟨q, z, q1, q2, q3, q4, q5⟩ (by rw [nfr 30 (by omega), f3 30 (by decide)]) (by rw [nfr 5 (by omega), f3 5 (by decide)]) (by rw [nfr 73 (by omega), f3 73 (by decide)])
            have hBN : ∀ b, b < σ 5 0 → BR σ k D N b := fun b hb => by
              unfold BR
              rw [nfr 34 (by omega), nfr 35 (by omega), nfr 36 (by omega), nfr 37 (by omega), nfr 38 (by omega), nfr 39 (by omega), f3 34 (by decide), f3 35 (by decide), f3 36 (by decide), f3 37 (by decide), f3 38 (by decide), f3 39 (by decide)]
              exact dB b hb
            refine ⟨_, kc_hand (D := D) (D1 := d_ev σ o T k D c) hw ho hhN hON hw5 hl (hBN w' hw5) (hk w' hw5) ⟨by omega, by omega⟩ gb.2.2.2 (d_free ho hok hc3 (by omega) a3) ⟨gb.1, gb.2.1⟩ (by rw [D3, if_pos rfl]) (by rw [D4, if_pos rfl]) (fun c' hc' => by rw [nfr 40 (by omega), f3 40 (by decide), (dcl c' hc').1]; exact (hok.1 c' hc').1), fun r0 N1 _ _ e1 => ?_⟩
            obtain ⟨t1, t2, t3, t4⟩ := e1
            refine tl N1 (fun p hp => ?_) (fun c' hc' hne ha b hb => ?_) (fun b hb => ?_) (fun l hl' => ?_) ?_ ?_ ?_
            · rw [t4 p (by omega), nfr p (by omega)]; exact f3 p (by omega)
            · by_cases e : b = w'
              · subst e
                have e40' : N 40 c' = D 0 c' := by rw [nfr 40 (by omega), f3 40 (by decide)]; exact (dcl c' hc').1
                have e0' : d_ev σ o T k D c 0 c' = D 0 c' := by rw [ev_0, if_neg hne]
                have hfr := d_free (c := c') (b := b) ho hok1 hc' (by omega) (by rw [e0']; exact ha)
                rw [e0'] at hfr
                have := t2 c' hc' (by rw [e40']; exact ha) (by rw [e40']; exact hfr)
                rw [this, d_re_rp, e40', e0']
              · rw [d_re_ev hne (by rw [hw0]; omega), t3 _ _ e, nfr (45 + c') (by omega), f3 (45 + c') (by omega)]
                exact (dcl c' hc').2.2.2 ha b hb
            · by_cases e : b = w'
              · subst e; exact t1
              · have g := hBN b hb
                unfold BR at g ⊢
                rw [D3, D4, if_neg (by omega), if_neg (by omega), t3 _ _ e, t3 _ _ e, t3 _ _ e, t3 _ _ e, t3 _ _ e, t3 _ _ e]
                exact g
            · rw [t4 31 (by omega), t4 32 (by omega), t4 33 (by omega), eN]
              simp (disch := omega) only [up_row, up_slot, up_hit, su_row, su_slot, su_hit]
              rw [f3 31 (by decide), f3 32 (by decide), f3 33 (by decide)]
              exact ⟨rfl, rfl, rfl⟩
            · rw [t4 31 (by omega), eN]; simp (disch := omega) only [up_row, up_slot, up_hit, su_row, su_slot, su_hit]
            · rw [t4 32 (by omega), eN, if_neg (by omega)]; simp (disch := omega) only [up_row, up_slot, up_hit, su_row, su_slot, su_hit]
            · rw [t4 33 (by omega), eN]; simp (disch := omega) only [up_row, up_slot, up_hit, su_row, su_slot, su_hit]
        refine ⟨by omega, fun M26 e26 => ⟨by omega, fun y => ⟨by omega, by omega, fun M31 e31 => ⟨by omega, fun M34 e34 => ⟨by omega, fun y2 => absurd y (by omega), fun y2 => ⟨by omega, by omega, ?_⟩⟩⟩⟩, fun y => ⟨by omega, fun M83 e83 => ⟨by omega, fun M86 e86 => ⟨by omega, fun y2 => ?_, fun y2 => absurd y (by omega)⟩⟩⟩⟩⟩
        · exact sold y M34 (by rw [e34, e31, e26])
        · exact unsold y2 M86 (by rw [e86, e83, e26])
  have st : ∀ (m c : Nat) (M' : mM), c + m = 3 → (∀ c', c' < c → M' 40 c' = d_np σ o c' 0 ∧ M' 41 c' = 0 ∧ M' 42 c' = 0 ∧ (d_np σ o c' 0 < σ 0 0 → ∀ b, b < σ 5 0 → M' (45 + c') b = d_rp σ o k (d_0 σ o) (d_np σ o c' 0) b)) → (∀ p, p < 40 ∨ 43 ≤ p ∧ p < 45 ∨ 48 ≤ p → M' p = M p) → X_ kk_X4_run 2 [v_P 30, v_I (c : Int), v_U, v_U, v_U] [] M' (fun _ M' => DR σ o T k (d_end σ o T k) M' ∧ ∀ p, p < 31 ∨ 48 ≤ p → M' p = M p) := by
    intro m
    induction m with
    | zero =>
      intro c M' hc h1 h3
      refine wp_X4_run_2 ⟨fun _ => ?_, fun y => absurd y (by omega)⟩
      refine ev (σ 0 0) 0 M' (by omega) ?_ (fun p hp => h3 p (by omega))
      refine ⟨HH_of hh (fun p hp => h3 p (by omega)), OR_of hO (by rw [h3 30 (by omega)]) (h3 5 (by omega)) (h3 73 (by omega)), by rw [h3 30 (by omega)]; exact h16, fun c' hc' => ?_, fun b hb => ?_, fun p hp hs => ?_⟩
      · obtain ⟨x1, x2, x3, x4⟩ := h1 c' (by omega)
        refine ⟨x1, x2, x3, fun ha b hb => ?_⟩
        have e0 : d_go σ o T k 0 0 c' = d_np σ o c' 0 := rfl
        rw [e0] at ha
        rw [x4 (by omega) b hb, d_re_rp, e0, Int.toNat_natCast]
        rfl
      · unfold BR
        rw [h3 34 (by omega), h3 35 (by omega), h3 36 (by omega), h3 37 (by omega), h3 38 (by omega), h3 39 (by omega)]
        exact hBR b hb
      · have e0 : d_go σ o T k 0 0 (σ 2 (o p)) = d_np σ o (σ 2 (o p)) 0 := rfl
        rw [e0] at hs
        exact absurd rfl ((d_np_spec (σ := σ) (o := o) (c := σ 2 (o p)) (p := 0) (Nat.zero_le _)).2.2.2 p (by omega) (by omega))
    | succ m ih =>
      intro c M' hc h1 h3
      have hc3 : c < 3 := by omega
      have hh' : HH σ M' := HH_of hh (fun p hp => h3 p (by omega))
      have hO' : OR_ σ o M' := OR_of hO (by rw [h3 30 (by omega)]) (h3 5 (by omega)) (h3 73 (by omega))
      refine wp_X4_run_2 ⟨fun y => absurd y (by omega), fun _ => ⟨_, kc_bringOn (D := d_0 σ o) (k := k) (f := 0) hw ho hh' hO' hc3 (Nat.zero_le _) (fun b hb => by
        unfold BR
        rw [h3 34 (by omega), h3 35 (by omega), h3 36 (by omega), h3 37 (by omega), h3 38 (by omega), h3 39 (by omega)]
        exact hBR b hb) hk (fun b hb => by
        have g := (d_ok_0 (σ := σ) (o := o)).2.1 b (by omega)
        have g' := (hw.2.2.2.2.1 b (by omega)).1
        exact ⟨g.1, g.2.1, g.2.2.1, by omega⟩) (fun _ b _ => by
        have e3 : d_0 σ o 3 b = 0 := rfl
        rw [e3]
        simp), fun r2 M3 _ _ e3 => ⟨⟨by omega, by omega⟩, ?_⟩⟩⟩
      obtain ⟨z1, z2, z3, z4, z5, z6⟩ := e3
      refine ih (c + 1) M3 (by omega) (fun c' hc' => ?_) (fun p hp => by rw [z6 p (by omega) (by omega) (by omega) (by omega)]; exact h3 p hp)
      by_cases e : c' = c
      · subst e
        exact ⟨z1, z2, z3, z4⟩
      · obtain ⟨x1, x2, x3, x4⟩ := h1 c' (by omega)
        rw [z5 40 c' (by omega) e, z5 41 c' (by omega) e, z5 42 c' (by omega) e, z6 (45 + c') (by omega) (by omega) (by omega) (by omega)]
        exact ⟨x1, x2, x3, x4⟩
  exact st 3 0 M (by omega) (fun c' hc' => by omega) (fun _ _ => rfl)
