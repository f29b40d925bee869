/-! the call orders, both sides -/
theorem kc_orders {σ : St} {M : mM} {w : Int} (hw : Wf σ) (h2 : Wf2 σ) (h : CR σ M) (hK : KO σ M) : C_ kk_X10_orders [v_P 0, v_I w] M (fun r M' => r = (sp_orders σ w).1 ∧ CR σ M' ∧ FrC M M' ∧ KO σ M' ∧ M' 74 = M 74) := by
  refine c_intro (by decide) rfl (Nat.le_of_ble_eq_true rfl) (by simp [m_dv, Value.category]) (wp_X10_orders_0 ?_)
  have same : ∀ x : Int, x = (sp_orders σ w).1 → x = (sp_orders σ w).1 ∧ CR σ M ∧ FrC M M ∧ KO σ M ∧ M 74 = M 74 := fun x e => ⟨e, h, Fr_rfl, hK, rfl⟩
  rw [h.1.1]
  have fin : ∀ M3 : mM, σ 0 0 ≤ 6 → (0 ≤ w ∧ w ≤ 1 ∨ 10 ≤ w ∧ w ≤ 15 ∨ 20 ≤ w ∧ w ≤ 25) → (KV σ M3 (o_st (nz σ) 720) ∧ ∀ p, p < 30 ∨ 48 ≤ p ∧ p < 70 ∨ 74 ≤ p → M3 p = M p) → ∀ Q : Int → mM → Prop, (Q = fun r M' => r = (sp_orders σ w).1 ∧ CR σ M' ∧ FrC M M' ∧ KO σ M' ∧ M' 74 = M 74) → (10 ≤ w → (20 ≤ w → (m_ir (w - 20)) ∧ ((w - 20) < (M3 1 0) → (20 ≤ w → (0 ≤ (w - 20) ∧ (w - 20) < 6) ∧ Q (M3 72 ((w - 20).toNat)) M3) ∧ (¬ 20 ≤ w → (0 ≤ (w - 20) ∧ (w - 20) < 6) ∧ Q (M3 71 ((w - 20).toNat)) M3)) ∧ (¬ (w - 20) < (M3 1 0) → Q (-6) M3)) ∧ (¬ 20 ≤ w → (m_ir (w - 10)) ∧ ((w - 10) < (M3 1 0) → (20 ≤ w → (0 ≤ (w - 10) ∧ (w - 10) < 6) ∧ Q (M3 72 ((w - 10).toNat)) M3) ∧ (¬ 20 ≤ w → (0 ≤ (w - 10) ∧ (w - 10) < 6) ∧ Q (M3 71 ((w - 10).toNat)) M3)) ∧ (¬ (w - 10) < (M3 1 0) → Q (-6) M3))) ∧ (¬ 10 ≤ w → (¬ w = 0 → Q (M3 70 6) M3) ∧ (w = 0 → Q (M3 70 5) M3)) := by
    intro M3 hn hww e3 Q hQ
    obtain ⟨⟨k1, k2, k3⟩, f3⟩ := e3
    have done : ∀ x : Int, x = (sp_orders σ w).1 → Q x M3 := fun x e => by
      rw [hQ]
      exact ⟨e, CR_fr h (fun p hp => f3 p (by omega)) (by rw [f3 75 (by omega)]), fun p hp => f3 p (by omega), fun _ => ⟨k1, k2, k3⟩, f3 74 (by omega)⟩
    have e10 : M3 1 0 = σ 0 0 := by rw [f3 1 (by omega)]; exact h.1.1
    have es : (sp_orders σ w).1 = if w = 0 then (o_st (nz σ) 720).1 else if w = 1 then (o_st (nz σ) 720).2.1 else if w < 20 then (if w - 10 < σ 0 0 then (p_dec (o_st (nz σ) 720).2.2.1 (w - 10).toNat : Int) else -6) else (if w - 20 < σ 0 0 then (p_dec (o_st (nz σ) 720).2.2.2 (w - 20).toNat : Int) else -6) := by
      unfold sp_orders
      rw [if_neg (by omega), if_neg (by omega)]
    rw [es] at done
    rw [e10]
    refine ⟨fun a => ⟨fun b => ⟨⟨by omega, by omega⟩, fun c => ⟨fun _ => ⟨by omega, done _ ?_⟩, fun y => absurd b y⟩, fun c => done _ ?_⟩, fun b => ⟨⟨by omega, by omega⟩, fun c => ⟨fun y => absurd y b, fun _ => ⟨by omega, done _ ?_⟩⟩, fun c => done _ ?_⟩⟩, fun a => ⟨fun b => done _ ?_, fun b => done _ ?_⟩⟩
    · rw [(k3 _ (by omega)).2, if_neg (by omega), if_neg (by omega), if_neg (by omega), if_pos c]
    · rw [if_neg (by omega), if_neg (by omega), if_neg (by omega), if_neg c]
    · rw [(k3 _ (by omega)).1, if_neg (by omega), if_neg (by omega), if_pos (by omega), if_pos c]
    · rw [if_neg (by omega), if_neg (by omega), if_pos (by omega), if_neg c]
    · rw [k2, if_neg b, if_pos (by omega)]
    · rw [k1, if_pos b]
  have hh : HH σ M := ⟨h.1, h.2.1⟩
  have no3 : (0 ≤ w ∧ w ≤ 1 ∨ 10 ≤ w ∧ w ≤ 15 ∨ 20 ≤ w ∧ w ≤ 25) → ¬ (σ 0 0 : Int) ≤ 6 → (-3 : Int) = (sp_orders σ w).1 := fun a b => by
    unfold sp_orders
    rw [if_neg (by omega), if_pos (by omega)]
  refine ⟨fun a => ⟨fun b => ⟨fun c => same _ ?_, fun c => ⟨fun d => ⟨_, kc_compare hw h2 (by omega) hh hK, fun r2 M3 _ _ e3 => fin M3 (by omega) (by omega) e3 _ rfl⟩, fun d => same _ (no3 (by omega) d)⟩⟩, fun b => ⟨fun d => ⟨_, kc_compare hw h2 (by omega) hh hK, fun r2 M3 _ _ e3 => fin M3 (by omega) (by omega) e3 _ rfl⟩, fun d => same _ (no3 (by omega) d)⟩⟩, fun a => ⟨fun d => ⟨_, kc_compare hw h2 (by omega) hh hK, fun r2 M3 _ _ e3 => fin M3 (by omega) (by omega) e3 _ rfl⟩, fun d => same _ (no3 (by omega) d)⟩⟩
  unfold sp_orders
  rw [if_pos (by omega)]
theorem km_worthOfAll {σ : St} {D : dD} {M : mM} (hw : Wf σ) (h8 : M 79 8 = σ 5 0) (hW : WL σ M) (h96 : ∀ b, b < σ 5 0 → M 96 b = D 3 b ∧ 0 ≤ D 3 b ∧ D 3 b < ((2 ^ σ 0 0 : Nat) : Int)) : C_ kk_X11_worthOfAll [v_P 79] M (fun r M' => M' = M ∧ r = o_sum σ D (σ 5 0)) := by
  have hnb := hw.2.2.2.1
  refine c_intro (by decide) rfl (Nat.le_of_ble_eq_true rfl) (by simp [m_dv, Value.category]) (wp_X11_worthOfAll_0 ?_)
  have loop : ∀ (m b : Nat), b + m = σ 5 0 → X_ kk_X11_worthOfAll 4 [v_P 79, v_I (o_sum σ D b), v_I (b : Int)] [] M (fun r M' => M' = M ∧ r = o_sum σ D (σ 5 0)) := by
    intro m
    induction m with
    | zero =>
      intro b hb
      refine wp_X11_worthOfAll_4 ⟨fun _ => ⟨rfl, by rw [show b = σ 5 0 by omega]⟩, fun y => absurd y (by rw [h8]; omega)⟩
    | succ m ih =>
      intro b hb
      have hs := o_sum_le hw (D := D) b (by omega)
      have hl := n_worth_le hw (b := b) (h := (D 3 b).toNat) (by omega)
      obtain ⟨y1, y2, y3⟩ := h96 b (by omega)
      refine wp_X11_worthOfAll_4 ⟨fun y => absurd y (by rw [h8]; omega), fun _ => ⟨_, km_worthOfDay (h := (D 3 b).toNat) hw hW (by omega) (by rw [y1]; omega) (by omega), fun r2 M3 _ _ e3 => ?_⟩⟩
      obtain ⟨e3a, rfl⟩ := e3
      subst e3a
      exact ⟨⟨by omega, by omega⟩, ⟨by omega, by omega⟩, ih (b + 1) (by omega)⟩
  exact loop (σ 5 0) 0 (by omega)
theorem km_findOrders {σ : St} {M : mM} (hw : Wf σ) (hR : MR σ M) (hn : σ 0 0 ≤ 6) : C_ kk_X11_findOrders [v_P 79] M (fun _ M' => M' 79 32 = (o_st (nz σ) 720).1 ∧ M' 79 33 = (o_st (nz σ) 720).2.1 ∧ (∀ k, k < σ 0 0 → M' 105 k = p_dec (o_st (nz σ) 720).2.2.1 k ∧ M' 106 k = p_dec (o_st (nz σ) 720).2.2.2 k) ∧ (∀ p, p < 79 ∨ 80 ≤ p ∧ p < 92 ∨ p = 101 ∨ p = 108 → M' p = M p) ∧ ∀ i, i ≠ 32 → i ≠ 33 → M' 79 i = M 79 i) := by
  have ht := hw.2.2.2.2.2.2.1
  have hww := nz_wf hw
  refine c_intro (by decide) rfl (Nat.le_of_ble_eq_true rfl) (by simp [m_dv, Value.category]) (wp_X11_findOrders_0 ⟨_, km_layWorths hw hR, fun r2 M3 _ _ e3 => ?_⟩)
  obtain ⟨hW, f3⟩ := e3
  have hWz := nz_wl hW
  have hR4 := hR.1
  have hRb := hR.2.2.1
  have hR9 := hR.2.2.2.1
  have q1 : ∀ j, j < nz σ 0 0 → M 81 j = nz σ 2 j ∧ M 82 j = nz σ 3 j := fun j hj => ⟨(hR.2.1 j hj).2.1, (hR.2.1 j hj).2.2.1⟩
  have q2 : ∀ b, b < nz σ 5 0 → M 84 b = nz σ 6 b ∧ 100 - M 85 b = k0 (nz σ) b ∧ M 86 b = nz σ 8 b := fun b hb => by
    obtain ⟨a1, a2, a3⟩ := hR.2.2.2.2.1 b hb
    refine ⟨a1, ?_, a3⟩
    rw [a2]
    rfl
  have e0 : σ 0 0 = nz σ 0 0 := rfl
  have e13 : σ 13 0 = nz σ 13 0 := rfl
  have e5 : σ 5 0 = nz σ 5 0 := rfl
  rw [e0] at hn hR4 ⊢
  rw [e13] at ht hR9
  rw [e5] at hRb
  clear hR hW hw e0 e13 e5
  generalize nz σ = τ at hn ht hww hWz hR4 hRb hR9 q1 q2 ⊢
  -- what stays
  have MDx : ∀ (N : mM) (o : Nat → Nat), WL τ N → q_in N 83 (τ 0 0) o → (∀ p, 80 ≤ p ∧ p < 92 → p ≠ 83 → N p = M p) → (∀ i, i ≠ 32 → i ≠ 33 → N 79 i = M 79 i) → MD τ o (k0 τ) N := fun N o w1 w2 w3 w4 => by
    refine ⟨by rw [w4 4 (by decide) (by decide)]; exact hR4, fun j hj => ?_, by rw [w4 8 (by decide) (by decide)]; exact hRb, fun b hb => ?_, w1⟩
    · rw [w3 81 (by omega) (by omega), w3 82 (by omega) (by omega)]
      exact ⟨(q1 j hj).1, (q1 j hj).2, w2 j hj⟩
    · rw [w3 84 (by omega) (by omega), w3 85 (by omega) (by omega), w3 86 (by omega) (by omega)]
      exact q2 b hb
  -- the old order comes back
  have back : ∀ (m k : Nat) (N : mM), k + m = τ 0 0 → N 79 32 = (o_st τ 720).1 → N 79 33 = (o_st τ 720).2.1 → (∀ k, k < τ 0 0 → N 105 k = p_dec (o_st τ 720).2.2.1 k ∧ N 106 k = p_dec (o_st τ 720).2.2.2 k) → (∀ p, p < 79 ∨ 80 ≤ p ∧ p < 92 ∨ p = 101 ∨ p = 108 → p ≠ 83 → N p = M p) → (∀ i, i ≠ 32 → i ≠ 33 → N 79 i = M 79 i) → (∀ j, j < τ 0 0 → N 104 j = M 83 j) → (∀ j, j < k ∨ τ 0 0 ≤ j → N 83 j = M 83 j) → X_ kk_X11_findOrders 193 [v_P 79, v_U, v_I (k : Int), v_U] [] N (fun _ M' => M' 79 32 = (o_st τ 720).1 ∧ M' 79 33 = (o_st τ 720).2.1 ∧ (∀ k, k < τ 0 0 → M' 105 k = p_dec (o_st τ 720).2.2.1 k ∧ M' 106 k = p_dec (o_st τ 720).2.2.2 k) ∧ (∀ p, p < 79 ∨ 80 ≤ p ∧ p < 92 ∨ p = 101 ∨ p = 108 → M' p = M p) ∧ ∀ i, i ≠ 32 → i ≠ 33 → M' 79 i = M 79 i) := by
    intro m
    induction m with
    | zero =>
      intro k N hk n1 n2 n3 n4 n5 n6 n7
      refine wp_X11_findOrders_193 ⟨fun _ => ⟨n1, n2, n3, fun p hp => ?_, n5⟩, fun y => absurd y (by rw [n5 4 (by decide) (by decide), hR4]; omega)⟩
      by_cases e : p = 83
      · subst e
        funext j
        exact n7 j (by omega)
      · exact n4 p hp e
    | succ m ih =>
      intro k N hk n1 n2 n3 n4 n5 n6 n7
      refine wp_X11_findOrders_193 ⟨fun y => absurd y (by rw [n5 4 (by decide) (by decide), hR4]; omega), fun _ => ⟨by omega, by omega, ⟨by omega, by omega⟩, ?_⟩⟩
      rw [Int.toNat_natCast, n6 k (by omega)]
      refine ih (k + 1) _ (by omega) (by simp (disch := omega) only [up_row, up_slot, up_hit, su_row, su_slot, su_hit]; exact n1) (by simp (disch := omega) only [up_row, up_slot, up_hit, su_row, su_slot, su_hit]; exact n2) (fun k' hk' => by simp (disch := omega) only [up_row, up_slot, up_hit, su_row, su_slot, su_hit]; exact n3 k' hk') (fun p hp hne => by rw [up_row hne]; exact n4 p hp hne) (fun i i1 i2 => by simp (disch := omega) only [up_row, up_slot, up_hit, su_row, su_slot, su_hit]; exact n5 i i1 i2) (fun j hj => by simp (disch := omega) only [up_row, up_slot, up_hit, su_row, su_slot, su_hit]; exact n6 j hj) (fun j hj => ?_)
      by_cases e : j = k
      · subst e; exact up_hit
      · rw [up_slot e]; exact n7 j (by omega)
  -- order by order
  have main : ∀ (f m : Nat) (N : mM), m + f = 720 → 0 < f → WL τ N → q_in N 83 (τ 0 0) (p_dec (p_cs (τ 0 0) m)) → N 79 32 = (o_st τ m).1 → N 79 33 = (o_st τ m).2.1 → (0 < m → ∀ k, k < τ 0 0 → N 105 k = p_dec (o_st τ m).2.2.1 k ∧ N 106 k = p_dec (o_st τ m).2.2.2 k) → (∀ p, p < 79 ∨ 80 ≤ p ∧ p < 92 ∨ p = 101 ∨ p = 108 → p ≠ 83 → N p = M p) → (∀ i, i ≠ 32 → i ≠ 33 → N 79 i = M 79 i) → (∀ j, j < τ 0 0 → N 104 j = M 83 j) → (∀ j, τ 0 0 ≤ j → N 83 j = M 83 j) → X_ kk_X11_findOrders 52 [v_P 79, v_I 1, v_U, v_U] [] N (fun _ M' => M' 79 32 = (o_st τ 720).1 ∧ M' 79 33 = (o_st τ 720).2.1 ∧ (∀ k, k < τ 0 0 → M' 105 k = p_dec (o_st τ 720).2.2.1 k ∧ M' 106 k = p_dec (o_st τ 720).2.2.2 k) ∧ (∀ p, p < 79 ∨ 80 ≤ p ∧ p < 92 ∨ p = 101 ∨ p = 108 → M' p = M p) ∧ ∀ i, i ≠ 32 → i ≠ 33 → M' 79 i = M 79 i) := by
    intro f
    induction f with
    | zero => intro m N _ h0; omega
    | succ f ih =>
      intro m N hm _ nW n83 n1 n2 n3 n4 n5 n6 n7
      have hMD := MDx N _ nW n83 (fun p hp hne => n4 p (by omega) hne) n5
      refine wp_X11_findOrders_52 ⟨fun y => absurd y (by decide), fun _ => ?_⟩
      rw [n5 9 (by decide) (by decide), hR9]
      refine ⟨_, km_runDay hww (o_or (m := m) (by omega)) (T := (τ 13 0 : Int)) (by omega) (k0_ok hww) hMD, fun r2 M3' _ _ e3' => ?_⟩
      obtain ⟨⟨-, dB, -⟩, f4⟩ := e3'
      have hMD4 := MD_of hMD f4
      refine ⟨_, km_worthOfAll (D := d_end τ (p_dec (p_cs (τ 0 0) m)) (τ 13 0) (k0 τ)) hww hMD4.2.2.1 hMD4.2.2.2.2 (fun b hb => ⟨(dB b hb).1, (d_end_ok hww (o_or (by omega)) (by omega) (by have := hww.2.2.2.1; omega)).1, (d_end_ok hww (o_or (by omega)) (by omega) (by have := hww.2.2.2.1; omega)).2.1⟩), fun r9 M10 _ _ e10 => ?_⟩
      obtain ⟨e10a, rfl⟩ := e10
      subst e10a
      have ewa : o_sum τ (d_end τ (p_dec (p_cs (τ 0 0) m)) (τ 13 0) (k0 τ)) (τ 5 0) = o_wa τ (p_cs (τ 0 0) m) := rfl
      rw [ewa]
      have hwa := o_wa_le hww (p_cs (τ 0 0) m)
      obtain ⟨s1, s2, s3, s4⟩ := o_st_s (σ := τ) (m := m)
      have g1 : M10 79 32 = (o_st τ m).1 := by rw [f4 79 (by omega)]; exact n1
      have g2 : M10 79 33 = (o_st τ m).2.1 := by rw [f4 79 (by omega)]; exact n2
      -- the copies
      have cp : ∀ (j k : Nat) (K : mM), k + j = τ 0 0 → (∀ k', k' < k → K 105 k' = p_dec (o_st τ (m + 1)).2.2.1 k' ∧ K 106 k' = p_dec (o_st τ (m + 1)).2.2.2 k') → (∀ k', k ≤ k' → K 105 k' = M10 105 k' ∧ K 106 k' = M10 106 k') → (∀ p, p ≠ 105 → p ≠ 106 → K p = M10 p) → X_ kk_X11_findOrders 71 [v_P 79, v_U, v_I (o_wa τ (p_cs (τ 0 0) m)), v_I (k : Int)] [] K (fun _ M' => M' 79 32 = (o_st τ 720).1 ∧ M' 79 33 = (o_st τ 720).2.1 ∧ (∀ k, k < τ 0 0 → M' 105 k = p_dec (o_st τ 720).2.2.1 k ∧ M' 106 k = p_dec (o_st τ 720).2.2.2 k) ∧ (∀ p, p < 79 ∨ 80 ≤ p ∧ p < 92 ∨ p = 101 ∨ p = 108 → M' p = M p) ∧ ∀ i, i ≠ 32 → i ≠ 33 → M' 79 i = M 79 i) := by
        intro j
        induction j with
        | zero =>
          intro k K hk a1 a2 a3
          have ek : k = τ 0 0 := by omega
          subst ek
          have k4 : K 79 4 = τ 0 0 := by rw [a3 79 (by decide) (by decide), f4 79 (by omega), n5 4 (by decide) (by decide)]; exact hR4
          have k32 : K 79 32 = (o_st τ m).1 := by rw [a3 79 (by decide) (by decide)]; exact g1
          have k33 : K 79 33 = (o_st τ m).2.1 := by rw [a3 79 (by decide) (by decide)]; exact g2
          -- behind it
          have beh : ∀ (x y : Int), x = (o_st τ (m + 1)).1 → y = (o_st τ (m + 1)).2.1 → ∃ Qc : Int → mM → Prop, C_ kk_X11_nextOrder [v_P 79] (m_up (m_up K 79 32 x) 79 33 y) Qc ∧ ∀ (r2 : Int) (M3 : mM), m_ir r2 → m_okM M3 → Qc r2 M3 → X_ kk_X11_findOrders 52 [v_P 79, v_I r2, v_U, v_U] [] M3 (fun _ M' => M' 79 32 = (o_st τ 720).1 ∧ M' 79 33 = (o_st τ 720).2.1 ∧ (∀ k, k < τ 0 0 → M' 105 k = p_dec (o_st τ 720).2.2.1 k ∧ M' 106 k = p_dec (o_st τ 720).2.2.2 k) ∧ (∀ p, p < 79 ∨ 80 ≤ p ∧ p < 92 ∨ p = 101 ∨ p = 108 → M' p = M p) ∧ ∀ i, i ≠ 32 → i ≠ 33 → M' 79 i = M 79 i) := by
            intro x y hx hy
            refine ⟨_, km_nextOrder (n := τ 0 0) (o := p_dec (p_cs (τ 0 0) m)) (by omega) (by simp (disch := omega) only [up_row, up_slot, up_hit, su_row, su_slot, su_hit]; exact k4) (fun x hx => by simp (disch := omega) only [up_row, up_slot, up_hit, su_row, su_slot, su_hit]; rw [a3 83 (by decide) (by decide), f4 83 (by omega)]; exact n83 x hx), fun r2 L _ _ eL => ?_⟩
            obtain ⟨er, ein, efr, efr2⟩ := eL
            have l32 : L 79 32 = (o_st τ (m + 1)).1 := by rw [efr 79 (by decide)]; simp (disch := omega) only [up_row, up_slot, up_hit, su_row, su_slot, su_hit]; exact hx
            have l33 : L 79 33 = (o_st τ (m + 1)).2.1 := by rw [efr 79 (by decide)]; simp (disch := omega) only [up_row, up_slot, up_hit, su_row, su_slot, su_hit]; exact hy
            have l105 : ∀ k, k < τ 0 0 → L 105 k = p_dec (o_st τ (m + 1)).2.2.1 k ∧ L 106 k = p_dec (o_st τ (m + 1)).2.2.2 k := fun k hk => by rw [efr 105 (by decide), efr 106 (by decide)]; simp (disch := omega) only [up_row, up_slot, up_hit, su_row, su_slot, su_hit]; exact a1 k hk
            have lfr : ∀ p, p < 79 ∨ 80 ≤ p ∧ p < 92 ∨ p = 101 ∨ p = 108 → p ≠ 83 → L p = M p := fun p hp hne => by rw [efr p hne, up_row (by omega), up_row (by omega), a3 p (by omega) (by omega), f4 p (by omega)]; exact n4 p hp hne
            have l79 : ∀ i, i ≠ 32 → i ≠ 33 → L 79 i = M 79 i := fun i i1 i2 => by rw [efr 79 (by decide), up_slot i2, up_slot i1, a3 79 (by decide) (by decide), f4 79 (by omega)]; exact n5 i i1 i2
            have l104 : ∀ j, j < τ 0 0 → L 104 j = M 83 j := fun j hj => by rw [efr 104 (by decide)]; simp (disch := omega) only [up_row, up_slot, up_hit, su_row, su_slot, su_hit]; rw [a3 104 (by decide) (by decide), f4 104 (by omega)]; exact n6 j hj
            have l83 : ∀ j, τ 0 0 ≤ j → L 83 j = M 83 j := fun j hj => by rw [efr2 j hj]; simp (disch := omega) only [up_row, up_slot, up_hit, su_row, su_slot, su_hit]; rw [a3 83 (by decide) (by decide), f4 83 (by omega)]; exact n7 j hj
            by_cases e : p_pv (p_dec (p_cs (τ 0 0) m)) (τ 0 0 - 1) = 0
            · rw [if_pos e] at er
              rw [er]
              have ee := o_st_end (σ := τ) (m := m) (by omega) (by omega) e
              rw [ee] at l32 l33 l105
              exact wp_X11_findOrders_52 ⟨fun _ => back (τ 0 0) 0 L (by omega) l32 l33 l105 lfr l79 l104 (fun j hj => l83 j (by omega)), fun y => absurd rfl y⟩
            · rw [if_neg e] at er
              rw [er]
              have hf : f ≠ 0 := fun z => by
                have := p_720 (τ 0 0) hn
                rw [show m = 719 by omega] at e
                exact e this
              exact ih (m + 1) L (by omega) (by omega) (WL_of nW (by rw [efr 92 (by decide)]; simp (disch := omega) only [up_row, up_slot, up_hit, su_row, su_slot, su_hit]; rw [a3 92 (by decide) (by decide), f4 92 (by omega)])) (fun x hx => by rw [p_cs_nx (by omega) m x hx]; exact ein x hx) l32 l33 (fun _ => l105) lfr l79 l104 l83
          refine wp_X11_findOrders_71 ?_
          rw [k4, k32, k33]
          refine ⟨fun _ => ⟨fun y1 => ⟨fun y2 => beh _ _ ?_ ?_, fun y2 => beh _ _ ?_ ?_⟩, fun y1 => ⟨fun y2 => beh _ _ ?_ ?_, fun y2 => beh _ _ ?_ ?_⟩⟩, fun y => absurd y (by omega)⟩
          · rw [s1, if_neg (by omega)]
          · rw [s2, if_neg (by omega)]
          · rw [s1, if_neg (by omega)]
          · rw [s2, if_pos (by omega)]
          · rw [s1, if_pos (by omega)]
          · rw [s2, if_neg (by omega)]
          · rw [s1, if_pos (by omega)]
          · rw [s2, if_pos (by omega)]
        | succ j ihj =>
          intro k K hk a1 a2 a3
          have k4 : K 79 4 = τ 0 0 := by rw [a3 79 (by decide) (by decide), f4 79 (by omega), n5 4 (by decide) (by decide)]; exact hR4
          have k32 : K 79 32 = (o_st τ m).1 := by rw [a3 79 (by decide) (by decide)]; exact g1
          have k33 : K 79 33 = (o_st τ m).2.1 := by rw [a3 79 (by decide) (by decide)]; exact g2
          have k83 : K 83 k = p_dec (p_cs (τ 0 0) m) k := by rw [a3 83 (by decide) (by decide), f4 83 (by omega)]; exact n83 k (by omega)
          have k105 : 0 < m → K 105 k = p_dec (o_st τ m).2.2.1 k ∧ K 106 k = p_dec (o_st τ m).2.2.2 k := fun h0 => by
            rw [(a2 k (Nat.le_refl _)).1, (a2 k (Nat.le_refl _)).2, f4 105 (by omega), f4 106 (by omega)]
            exact n3 h0 k (by omega)
          have m0 : m = 0 → (o_st τ m).1 = -1 ∧ (o_st τ m).2.1 = 1000000000 := fun e => by subst e; exact ⟨rfl, rfl⟩
          have stp : ∀ (x y : Int), x = p_dec (o_st τ (m + 1)).2.2.1 k → y = p_dec (o_st τ (m + 1)).2.2.2 k → ∀ K' : mM, K' = m_up (m_up K 105 k x) 106 k y → m_ir ((k : Int) + 1) ∧ X_ kk_X11_findOrders 71 [v_P 79, v_U, v_I (o_wa τ (p_cs (τ 0 0) m)), v_I ((k : Int) + 1)] [] K' (fun _ M' => M' 79 32 = (o_st τ 720).1 ∧ M' 79 33 = (o_st τ 720).2.1 ∧ (∀ k, k < τ 0 0 → M' 105 k = p_dec (o_st τ 720).2.2.1 k ∧ M' 106 k = p_dec (o_st τ 720).2.2.2 k) ∧ (∀ p, p < 79 ∨ 80 ≤ p ∧ p < 92 ∨ p = 101 ∨ p = 108 → M' p = M p) ∧ ∀ i, i ≠ 32 → i ≠ 33 → M' 79 i = M 79 i) := by
            intro x y hx hy K' eK
            refine ⟨⟨by omega, by omega⟩, ihj (k + 1) K' (by omega) (fun k' hk' => ?_) (fun k' hk' => ?_) (fun p p1 p2 => by rw [eK, up_row p2, up_row p1]; exact a3 p p1 p2)⟩
            · rw [eK]
              by_cases e : k' = k
              · subst e
                simp (disch := omega) only [up_row, up_slot, up_hit, su_row, su_slot, su_hit]
                exact ⟨hx, hy⟩
              · simp (disch := omega) only [up_row, up_slot, up_hit, su_row, su_slot, su_hit]
                exact a1 k' (by omega)
            · rw [eK]
              simp (disch := omega) only [up_row, up_slot, up_hit, su_row, su_slot, su_hit]
              exact a2 k' (by omega)
          refine wp_X11_findOrders_71 ?_
          rw [Int.toNat_natCast, k4, k32, k33, k83]
          refine ⟨fun y => absurd y (by omega), fun _ => ⟨fun y1 => ⟨by omega, by omega, fun y2 => ⟨by omega, by omega, stp _ _ ?_ ?_⟩, fun y2 => ⟨by omega, by omega, stp _ _ ?_ ?_⟩⟩, fun y1 => ⟨by omega, by omega, fun y2 => ⟨by omega, by omega, stp _ _ ?_ ?_⟩, fun y2 => ⟨by omega, by omega, stp _ _ ?_ ?_⟩⟩⟩⟩
          · have h0 : 0 < m := Nat.pos_of_ne_zero (fun e => by have := m0 e; omega)
            rw [s3, if_neg (by omega)]; exact (k105 h0).1
          · have h0 : 0 < m := Nat.pos_of_ne_zero (fun e => by have := m0 e; omega)
            rw [s4, if_neg (by omega)]; exact (k105 h0).2
          · have h0 : 0 < m := Nat.pos_of_ne_zero (fun e => by have := m0 e; omega)
            rw [s3, if_neg (by omega)]; exact (k105 h0).1
          · rw [s4, if_pos (by omega)]
          · rw [s3, if_pos (by omega)]
          · have h0 : 0 < m := Nat.pos_of_ne_zero (fun e => by have := m0 e; omega)
            rw [s4, if_neg (by omega)]; exact (k105 h0).2
          · rw [s3, if_pos (by omega)]
          · rw [s4, if_pos (by omega)]
      exact cp (τ 0 0) 0 M10 (by omega) (fun k' hk' => by omega) (fun _ _ => ⟨rfl, rfl⟩) (fun _ _ _ => rfl)
  have st : ∀ (m k : Nat) (N : mM), k + m = τ 0 0 → (∀ j, j < k → N 104 j = M 83 j ∧ N 83 j = j) → (∀ j, k ≤ j → N 83 j = M 83 j) → (∀ p, p ≠ 104 → p ≠ 83 → N p = M3 p) → X_ kk_X11_findOrders 6 [v_P 79, v_I (k : Int), v_U, v_U] [] N (fun _ M' => M' 79 32 = (o_st τ 720).1 ∧ M' 79 33 = (o_st τ 720).2.1 ∧ (∀ k, k < τ 0 0 → M' 105 k = p_dec (o_st τ 720).2.2.1 k ∧ M' 106 k = p_dec (o_st τ 720).2.2.2 k) ∧ (∀ p, p < 79 ∨ 80 ≤ p ∧ p < 92 ∨ p = 101 ∨ p = 108 → M' p = M p) ∧ ∀ i, i ≠ 32 → i ≠ 33 → M' 79 i = M 79 i) := by
    intro m
    induction m with
    | zero =>
      intro k N hk n1 n2 n3
      have k4 : N 79 4 = τ 0 0 := by rw [n3 79 (by decide) (by decide), f3 79 (by decide)]; exact hR4
      refine wp_X11_findOrders_6 ⟨fun _ => ?_, fun y => absurd y (by rw [k4]; omega)⟩
      refine main 720 0 _ (by omega) (by omega) (WL_of hWz (by simp (disch := omega) only [up_row, up_slot, up_hit, su_row, su_slot, su_hit]; exact n3 92 (by decide) (by decide))) (fun x hx => ?_) (by simp (disch := omega) only [up_row, up_slot, up_hit, su_row, su_slot, su_hit]; rfl) (by simp (disch := omega) only [up_row, up_slot, up_hit, su_row, su_slot, su_hit]; rfl) (fun y => absurd y (by omega)) (fun p hp hne => by rw [up_row (by omega), up_row (by omega), n3 p (by omega) hne, f3 p (by omega)]) (fun i i1 i2 => by simp (disch := omega) only [up_row, up_slot, up_hit, su_row, su_slot, su_hit]; rw [n3 79 (by decide) (by decide), f3 79 (by decide)]) (fun j hj => by simp (disch := omega) only [up_row, up_slot, up_hit, su_row, su_slot, su_hit]; exact (n1 j (by omega)).1) (fun j hj => by simp (disch := omega) only [up_row, up_slot, up_hit, su_row, su_slot, su_hit]; exact n2 j (by omega))
      simp (disch := omega) only [up_row, up_slot, up_hit, su_row, su_slot, su_hit]
      have : p_dec (p_cs (τ 0 0) 0) x = x := p_dec_enc (fun y hy => by omega) x hx
      rw [this]
      exact (n1 x (by omega)).2
    | succ m ih =>
      intro k N hk n1 n2 n3
      have k4 : N 79 4 = τ 0 0 := by rw [n3 79 (by decide) (by decide), f3 79 (by decide)]; exact hR4
      refine wp_X11_findOrders_6 ⟨fun y => absurd y (by rw [k4]; omega), fun _ => ⟨by omega, by omega, by omega, ⟨by omega, by omega⟩, ?_⟩⟩
      rw [Int.toNat_natCast, n2 k (Nat.le_refl _)]
      refine ih (k + 1) _ (by omega) (fun j hj => ?_) (fun j hj => by simp (disch := omega) only [up_row, up_slot, up_hit, su_row, su_slot, su_hit]; exact n2 j (by omega)) (fun p p1 p2 => by rw [up_row p2, up_row p1]; exact n3 p p1 p2)
      by_cases e : j = k
      · subst e
        simp (disch := omega) only [up_row, up_slot, up_hit, su_row, su_slot, su_hit]
        exact ⟨trivial, trivial⟩
      · simp (disch := omega) only [up_row, up_slot, up_hit, su_row, su_slot, su_hit]
        exact n1 j (by omega)
  exact st (τ 0 0) 0 M3 (by omega) (fun j hj => by omega) (fun j _ => by rw [f3 83 (by decide)]) (fun _ _ _ => rfl)
theorem km_orders {σ : St} {M : mM} {w : Int} (hw : Wf σ) (h : MR σ M) : C_ kk_X11_orders [v_P 79, v_I w] M (PM (sp_orders σ w) M) := by
  refine c_intro (by decide) rfl (Nat.le_of_ble_eq_true rfl) (by simp [m_dv, Value.category]) (wp_X11_orders_0 ?_)
  rw [h.1]
  have fin : ∀ M3 : mM, σ 0 0 ≤ 6 → (0 ≤ w ∧ w ≤ 1 ∨ 10 ≤ w ∧ w ≤ 15 ∨ 20 ≤ w ∧ w ≤ 25) → (M3 79 32 = (o_st (nz σ) 720).1 ∧ M3 79 33 = (o_st (nz σ) 720).2.1 ∧ (∀ k, k < σ 0 0 → M3 105 k = p_dec (o_st (nz σ) 720).2.2.1 k ∧ M3 106 k = p_dec (o_st (nz σ) 720).2.2.2 k) ∧ (∀ p, p < 79 ∨ 80 ≤ p ∧ p < 92 ∨ p = 101 ∨ p = 108 → M3 p = M p) ∧ ∀ i, i ≠ 32 → i ≠ 33 → M3 79 i = M 79 i) → ∀ Q : Int → mM → Prop, (Q = PM (sp_orders σ w) M) → (2 ≤ w → (0 ≤ w) ∧ ((w % 10) < (M3 79 4) → (20 ≤ w → (0 ≤ (w % 10) ∧ (w % 10) < 8) ∧ Q (M3 106 ((w % 10).toNat)) M3) ∧ (¬ 20 ≤ w → (0 ≤ (w % 10) ∧ (w % 10) < 8) ∧ Q (M3 105 ((w % 10).toNat)) M3)) ∧ (¬ (w % 10) < (M3 79 4) → Q (-6) M3)) ∧ (¬ 2 ≤ w → (¬ w = 0 → Q (M3 79 33) M3) ∧ (w = 0 → Q (M3 79 32) M3)) := by
    intro M3 hn hww e3 Q hQ
    obtain ⟨k1, k2, k3, f3, f79⟩ := e3
    have es : sp_orders σ w = (if w = 0 then (o_st (nz σ) 720).1 else if w = 1 then (o_st (nz σ) 720).2.1 else if w < 20 then (if w - 10 < σ 0 0 then (p_dec (o_st (nz σ) 720).2.2.1 (w - 10).toNat : Int) else -6) else (if w - 20 < σ 0 0 then (p_dec (o_st (nz σ) 720).2.2.2 (w - 20).toNat : Int) else -6), σ) := by
      unfold sp_orders
      rw [if_neg (by omega), if_neg (by omega)]
    have done : ∀ x : Int, x = (if w = 0 then (o_st (nz σ) 720).1 else if w = 1 then (o_st (nz σ) 720).2.1 else if w < 20 then (if w - 10 < σ 0 0 then (p_dec (o_st (nz σ) 720).2.2.1 (w - 10).toNat : Int) else -6) else (if w - 20 < σ 0 0 then (p_dec (o_st (nz σ) 720).2.2.2 (w - 20).toNat : Int) else -6)) → Q x M3 := fun x e => by
      rw [hQ, es]
      exact ⟨e, MR_fr h (fun p hp => f3 p (by omega)) (fun i hi => f79 i (by omega) (by omega)), fun p hp => f3 p (by omega)⟩
    have e10 : M3 79 4 = σ 0 0 := by rw [f79 4 (by decide) (by decide)]; exact h.1
    rw [e10]
    refine ⟨fun a => ⟨by omega, fun c => ⟨fun b => ⟨by omega, done _ ?_⟩, fun b => ⟨by omega, done _ ?_⟩⟩, fun c => done _ ?_⟩, fun a => ⟨fun b => done _ ?_, fun b => done _ ?_⟩⟩
    · rw [show w % 10 = w - 20 by omega] at c ⊢
      rw [(k3 _ (by omega)).2, if_neg (by omega), if_neg (by omega), if_neg (by omega), if_pos c]
    · rw [show w % 10 = w - 10 by omega] at c ⊢
      rw [(k3 _ (by omega)).1, if_neg (by omega), if_neg (by omega), if_pos (by omega), if_pos c]
    · rw [if_neg (by omega), if_neg (by omega)]
      by_cases b : w < 20
      · rw [if_pos b, if_neg (by omega)]
      · rw [if_neg b, if_neg (by omega)]
    · rw [k2, if_neg b, if_pos (by omega)]
    · rw [k1, if_pos b]
  have no3 : (0 ≤ w ∧ w ≤ 1 ∨ 10 ≤ w ∧ w ≤ 15 ∨ 20 ≤ w ∧ w ≤ 25) → ¬ (σ 0 0 : Int) ≤ 6 → PM (sp_orders σ w) M (-3) M := fun a b => by
    unfold sp_orders
    rw [if_neg (by omega), if_pos (by omega)]
    exact PM_same h
  refine ⟨fun a => ⟨fun d => ⟨_, km_findOrders hw h (by omega), fun r2 M3 _ _ e3 => fin M3 (by omega) (by omega) e3 _ rfl⟩, fun d => no3 (by omega) d⟩, fun a => ⟨fun b => ⟨fun d => ⟨_, km_findOrders hw h (by omega), fun r2 M3 _ _ e3 => fin M3 (by omega) (by omega) e3 _ rfl⟩, fun d => no3 (by omega) d⟩, fun b => ⟨fun c => ⟨fun d => ⟨_, km_findOrders hw h (by omega), fun r2 M3 _ _ e3 => fin M3 (by omega) (by omega) e3 _ rfl⟩, fun d => no3 (by omega) d⟩, fun c => ?_⟩⟩⟩
  unfold sp_orders
  rw [if_pos (by omega)]
  exact PM_same h
