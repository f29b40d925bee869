/-! ORDERS. nz: the state without what ORDERS and BREAK do not hang on -/
def nz (σ : St) : St := fun f => if f = 4 then (fun i => i) else if f < 14 then σ f else fun _ => 0
theorem nz_eq {σ : St} {f : Nat} (h4 : f ≠ 4) (h : f < 14) : nz σ f = σ f := by unfold nz; rw [if_neg h4, if_pos h]
theorem nz_of {σ τ : St} (h : ∀ f, f ≠ 4 → f < 14 → τ f = σ f) : nz τ = nz σ := by
  funext f
  unfold nz
  by_cases e : f = 4
  · rw [if_pos e, if_pos e]
  · by_cases e2 : f < 14
    · rw [if_neg e, if_neg e, if_pos e2, if_pos e2]; exact h f e e2
    · rw [if_neg e, if_neg e, if_neg e2, if_neg e2]
theorem nz_wf {σ : St} (h : Wf σ) : Wf (nz σ) := by
  obtain ⟨g1, g2, g3, g4, g5, g6, g7, g8, g9, g10, g11, g12⟩ := h
  exact ⟨g1, fun j hj => ⟨(g2 j hj).1, (g2 j hj).2.1, (g2 j hj).2.2.1, hj⟩, fun i j _ _ e => e, g4, g5, g6, g7, fun l _ => Nat.zero_le _, Nat.zero_le _, fun d hd => absurd hd (Nat.not_lt_zero d), Nat.zero_le _, fun i hi => absurd hi (Nat.not_lt_zero i)⟩
theorem nz_wf2 {σ : St} (h : Wf2 σ) : Wf2 (nz σ) := h
theorem nz_hh {σ : St} {M : mM} (h : HH σ M) : HH (nz σ) M := h
theorem nz_ct {σ : St} {h s : Nat} : ∀ l, n_ct (nz σ) h s l = n_ct σ h s l
  | 0 => rfl
  | l + 1 => by
    unfold n_ct
    rw [nz_ct l]
    rfl
theorem nz_cnt {σ : St} {h : Nat} : n_cnt (nz σ) h = n_cnt σ h := by
  funext s
  unfold n_cnt
  exact nz_ct _
theorem nz_wo {σ : St} {b : Nat} {c : Nat → Nat} : ∀ i, n_wo (nz σ) b c i = n_wo σ b c i
  | 0 => rfl
  | i + 1 => by
    unfold n_wo
    rw [nz_wo i]
    rfl
theorem nz_worth {σ : St} {b h : Nat} : n_worth (nz σ) b h = n_worth σ b h := by
  unfold n_worth n_wc
  rw [nz_cnt, nz_wo]
  rfl
theorem nz_wl {σ : St} {M : mM} (h : WL σ M) : WL (nz σ) M := fun b h' hb hh => by rw [nz_worth]; exact h b h' hb hh
/-- the worth of all -/
def o_sum (σ : St) (D : dD) : Nat → Int
  | 0 => 0
  | b + 1 => o_sum σ D b + n_worth σ b (D 3 b).toNat
def o_wa (σ : St) (c : Nat) : Int := o_sum σ (d_end σ (p_dec c) (σ 13 0) (k0 σ)) (σ 5 0)
theorem o_sum_le {σ : St} (hw : Wf σ) {D : dD} : ∀ b, b ≤ 6 → 0 ≤ o_sum σ D b ∧ o_sum σ D b ≤ 999 * (b : Int)
  | 0, _ => ⟨Int.le_refl _, Int.le_refl _⟩
  | b + 1, hb => by
    have ih := o_sum_le hw (D := D) b (by omega)
    have h := n_worth_le hw (b := b) (h := (D 3 b).toNat) (by omega)
    unfold o_sum
    omega
theorem o_wa_le {σ : St} (hw : Wf σ) (c : Nat) : 0 ≤ o_wa σ c ∧ o_wa σ c ≤ 6000 := by
  have h := hw.2.2.2.1
  have := o_sum_le hw (D := d_end σ (p_dec c) (σ 13 0) (k0 σ)) (σ 5 0) h
  unfold o_wa
  omega
/-- most, least, the orders of both, behind m orders -/
def o_st (σ : St) : Nat → Int × Int × Nat × Nat
  | 0 => (-1, 1000000000, 0, 0)
  | m + 1 => (if (o_st σ m).1 < o_wa σ (p_cs (σ 0 0) m) then o_wa σ (p_cs (σ 0 0) m) else (o_st σ m).1,
     if o_wa σ (p_cs (σ 0 0) m) < (o_st σ m).2.1 then o_wa σ (p_cs (σ 0 0) m) else (o_st σ m).2.1,
     if (o_st σ m).1 < o_wa σ (p_cs (σ 0 0) m) then p_cs (σ 0 0) m else (o_st σ m).2.2.1,
     if o_wa σ (p_cs (σ 0 0) m) < (o_st σ m).2.1 then p_cs (σ 0 0) m else (o_st σ m).2.2.2)
theorem o_st_s {σ : St} {m : Nat} : (o_st σ (m + 1)).1 = (if (o_st σ m).1 < o_wa σ (p_cs (σ 0 0) m) then o_wa σ (p_cs (σ 0 0) m) else (o_st σ m).1) ∧ (o_st σ (m + 1)).2.1 = (if o_wa σ (p_cs (σ 0 0) m) < (o_st σ m).2.1 then o_wa σ (p_cs (σ 0 0) m) else (o_st σ m).2.1) ∧ (o_st σ (m + 1)).2.2.1 = (if (o_st σ m).1 < o_wa σ (p_cs (σ 0 0) m) then p_cs (σ 0 0) m else (o_st σ m).2.2.1) ∧ (o_st σ (m + 1)).2.2.2 = (if o_wa σ (p_cs (σ 0 0) m) < (o_st σ m).2.1 then p_cs (σ 0 0) m else (o_st σ m).2.2.2) := ⟨rfl, rfl, rfl, rfl⟩
theorem o_st_ge {σ : St} {m : Nat} : o_wa σ (p_cs (σ 0 0) m) ≤ (o_st σ (m + 1)).1 ∧ (o_st σ (m + 1)).2.1 ≤ o_wa σ (p_cs (σ 0 0) m) := by
  rw [o_st_s.1, o_st_s.2.1]
  constructor <;> split <;> omega
theorem o_st_frz {σ : St} {m : Nat} (hn : σ 0 0 ≤ 8) (h : p_pv (p_dec (p_cs (σ 0 0) m)) (σ 0 0 - 1) = 0) : ∀ j, p_cs (σ 0 0) (m + j) = p_cs (σ 0 0) m ∧ o_st σ (m + 1 + j) = o_st σ (m + 1)
  | 0 => ⟨rfl, rfl⟩
  | j + 1 => by
    obtain ⟨ih1, ih2⟩ := o_st_frz hn h j
    have e1 : p_cs (σ 0 0) (m + (j + 1)) = p_cs (σ 0 0) m := by
      rw [show m + (j + 1) = (m + j) + 1 by omega, p_cs_stop hn (by rw [ih1]; exact h), ih1]
    refine ⟨e1, ?_⟩
    have ge := o_st_ge (σ := σ) (m := m)
    obtain ⟨s1, s2, s3, s4⟩ := o_st_s (σ := σ) (m := m + 1 + j)
    have e2 : p_cs (σ 0 0) (m + 1 + j) = p_cs (σ 0 0) m := by rw [show m + 1 + j = m + (j + 1) by omega]; exact e1
    rw [ih2, e2] at s1 s2 s3 s4
    rw [if_neg (by omega)] at s1 s2 s3 s4
    exact Prod.ext s1 (Prod.ext s2 (Prod.ext s3 s4))
/-- the end of the search, wherever it stops -/
theorem o_st_end {σ : St} {m : Nat} (hn : σ 0 0 ≤ 8) (hm : m < 720) (h : p_pv (p_dec (p_cs (σ 0 0) m)) (σ 0 0 - 1) = 0) : o_st σ (m + 1) = o_st σ 720 := by
  have := (o_st_frz hn h (719 - m)).2
  rw [show m + 1 + (719 - m) = 720 by omega] at this
  exact this.symm
theorem o_or {σ : St} {m : Nat} (hn : σ 0 0 ≤ 8) : d_or σ (p_dec (p_cs (σ 0 0) m)) := q_ok_cs hn m
def sp_orders (σ : St) (w : Int) : Int × St := (if ¬ (0 ≤ w ∧ w ≤ 1 ∨ 10 ≤ w ∧ w ≤ 15 ∨ 20 ≤ w ∧ w ≤ 25) then -2 else if 6 < σ 0 0 then -3 else if w = 0 then (o_st (nz σ) 720).1 else if w = 1 then (o_st (nz σ) 720).2.1 else if w < 20 then (if w - 10 < σ 0 0 then (p_dec (o_st (nz σ) 720).2.2.1 (w - 10).toNat : Int) else -6) else (if w - 20 < σ 0 0 then (p_dec (o_st (nz σ) 720).2.2.2 (w - 20).toNat : Int) else -6), σ)
/-- what the class keeps of ORDERS -/
def KV (σ : St) (M : mM) (s : Int × Int × Nat × Nat) : Prop := M 70 5 = s.1 ∧ M 70 6 = s.2.1 ∧ ∀ k, k < σ 0 0 → M 71 k = p_dec s.2.2.1 k ∧ M 72 k = p_dec s.2.2.2 k
def KO (σ : St) (M : mM) : Prop := M 70 7 ≠ 0 → KV σ M (o_st (nz σ) 720)
theorem kc_worthTogether {σ : St} {k : Nat → Int} {D : dD} {M : mM} (hw : Wf σ) (h1 : M 1 6 = σ 5 0) (hB : ∀ b, b < σ 5 0 → BR σ k D M b) : C_ kk_X4_worthTogether [v_P 30] M (fun r M' => M' = M ∧ r = o_sum σ D (σ 5 0)) := by
  have hnb := hw.2.2.2.1
  refine c_intro (by decide) rfl (Nat.le_of_ble_eq_true rfl) (by simp [m_dv, Value.category]) (wp_X4_worthTogether_0 ?_)
  have loop : ∀ (m b : Nat), b + m = σ 5 0 → X_ kk_X4_worthTogether 4 [v_P 30, v_I (o_sum σ D b), v_I (b : Int)] [] M (fun r M' => M' = M ∧ r = o_sum σ D (σ 5 0)) := by
    intro m
    induction m with
    | zero =>
      intro b hb
      refine wp_X4_worthTogether_4 ⟨fun _ => ⟨rfl, by rw [show b = σ 5 0 by omega]⟩, fun y => absurd y (by rw [h1]; omega)⟩
    | succ m ih =>
      intro b hb
      have hs := o_sum_le hw (D := D) b (by omega)
      have hl := n_worth_le hw (b := b) (h := (D 3 b).toNat) (by omega)
      refine wp_X4_worthTogether_4 ⟨fun y => absurd y (by rw [h1]; omega), fun _ => ?_⟩
      rw [Int.toNat_natCast, (hB b (by omega)).2.1]
      exact ⟨by omega, ⟨by omega, by omega⟩, ⟨by omega, by omega⟩, ih (b + 1) (by omega)⟩
  exact loop (σ 5 0) 0 (by omega)
theorem kc_note {M : mM} {n : Nat} {w x : Int} (hn : n ≤ 6) (h1 : M 1 0 = n) : C_ kk_X2_note [v_P 70, v_I w, v_I x] M (fun _ M' => M' 70 5 = (if x ≠ 0 ∨ M 70 5 < w then w else M 70 5) ∧ M' 70 6 = (if x ≠ 0 ∨ w < M 70 6 then w else M 70 6) ∧ (∀ k, k < n → M' 71 k = (if x ≠ 0 ∨ M 70 5 < w then M 73 k else M 71 k) ∧ M' 72 k = (if x ≠ 0 ∨ w < M 70 6 then M 73 k else M 72 k)) ∧ ∀ p, p ≠ 70 → p ≠ 71 → p ≠ 72 → M' p = M p) := by
  refine c_intro (by decide) rfl (Nat.le_of_ble_eq_true rfl) (by simp [m_dv, Value.category]) (wp_X2_note_0 ?_)
  rw [h1]
  have ar : ((0 : Int) ≤ 0 ∧ (0 : Int) ≤ 0 ∧ (0 : Int) ≤ (n : Int)) ∧ 0 + (n : Int) ≤ (6 : Nat) ∧ 0 + (n : Int) ≤ (6 : Nat) := by omega
  have z0 : Int.toNat 0 = 0 := rfl
  rw [z0, Int.toNat_natCast]
  have cp71 : ∀ (N : mM) (p : Nat) (k : Nat), m_cp N 73 0 p 0 n p k = if k < n then N 73 k else N p k := fun N p k => by
    rw [cp_eq]
    by_cases e : k < n
    · rw [if_pos ⟨rfl, by omega, by omega⟩, if_pos e, Nat.zero_add, Nat.sub_zero]
    · rw [if_neg (by omega), if_neg e]
  have cpne : ∀ (N : mM) (p q : Nat), q ≠ p → m_cp N 73 0 p 0 n q = N q := fun N p q hq => by
    funext k
    rw [cp_eq, if_neg (fun z => hq z.1)]
  have d1 : ∀ M2 : mM, M2 = m_cp (m_up M 70 5 w) 73 0 71 0 n → M2 1 0 = n ∧ M2 70 6 = M 70 6 ∧ M2 70 5 = w ∧ (∀ k, k < n → M2 71 k = M 73 k) ∧ (∀ k, M2 72 k = M 72 k) ∧ M2 73 = M 73 ∧ ∀ p, p ≠ 70 → p ≠ 71 → M2 p = M p := fun M2 e => by
    subst e
    refine ⟨?_, ?_, ?_, fun k hk => ?_, fun k => ?_, ?_, fun p hp hp2 => ?_⟩
    · rw [cpne _ _ 1 (by decide), up_row (by decide)]; exact h1
    · rw [cpne _ _ 70 (by decide), up_slot (by decide)]
    · rw [cpne _ _ 70 (by decide), up_hit]
    · rw [cp71, if_pos hk, up_row (by decide)]
    · rw [cpne _ _ 72 (by decide), up_row (by decide)]
    · rw [cpne _ _ 73 (by decide), up_row (by decide)]
    · rw [cpne _ _ p hp2, up_row hp]
  have d2 : ∀ M2 M5 : mM, M5 = m_cp (m_up M2 70 6 w) 73 0 72 0 n → M5 70 6 = w ∧ M5 70 5 = M2 70 5 ∧ (∀ k, k < n → M5 72 k = M2 73 k) ∧ (∀ k, M5 71 k = M2 71 k) ∧ ∀ p, p ≠ 70 → p ≠ 72 → M5 p = M2 p := fun M2 M5 e => by
    subst e
    refine ⟨?_, ?_, fun k hk => ?_, fun k => ?_, fun p hp hp2 => ?_⟩
    · rw [cpne _ _ 70 (by decide), up_hit]
    · rw [cpne _ _ 70 (by decide), up_slot (by decide)]
    · rw [cp71, if_pos hk, up_row (by decide)]
    · rw [cpne _ _ 71 (by decide), up_row (by decide)]
    · rw [cpne _ _ p hp2, up_row hp]
  refine ⟨fun q => ⟨ar, fun M2 e2 => ?_⟩, fun q => ⟨fun q2 => ⟨fun y => absurd q y, fun _ => ⟨fun q3 => ?_, fun q3 => ⟨ar, fun M14 e14 => ?_⟩⟩⟩, fun q2 => ⟨ar, fun M2 e2 => ?_⟩⟩⟩
  · obtain ⟨a1, a2, a3, a4, a5, a6, a7⟩ := d1 M2 e2
    rw [a1, Int.toNat_natCast]
    refine ⟨fun _ => ⟨ar, fun M5 e5 => ?_⟩, fun y => absurd y q⟩
    obtain ⟨b1, b2, b3, b4, b5⟩ := d2 M2 M5 e5
    rw [if_pos (Or.inl q), if_pos (Or.inl q)]
    refine ⟨by rw [b2, a3], b1, fun k hk => ?_, fun p p1 p2 p3 => by rw [b5 p p1 p3, a7 p p1 p2]⟩
    rw [if_pos (Or.inl q), if_pos (Or.inl q)]
    exact ⟨by rw [b4, a4 k hk], by rw [b3 k hk, a6]⟩
  · rw [if_neg (by omega), if_neg (by omega)]
    refine ⟨rfl, rfl, fun k hk => ?_, fun _ _ _ _ => rfl⟩
    rw [if_neg (by omega), if_neg (by omega)]
    exact ⟨rfl, rfl⟩
  · obtain ⟨b1, b2, b3, b4, b5⟩ := d2 M M14 e14
    rw [if_neg (by omega), if_pos (by omega)]
    refine ⟨b2, b1, fun k hk => ?_, fun p p1 p2 p3 => b5 p p1 p3⟩
    rw [if_neg (by omega), if_pos (by omega)]
    exact ⟨b4 k, b3 k hk⟩
  · obtain ⟨a1, a2, a3, a4, a5, a6, a7⟩ := d1 M2 e2
    rw [a1, a2, Int.toNat_natCast]
    refine ⟨fun y => absurd q y, fun _ => ⟨fun q3 => ?_, fun q3 => ⟨ar, fun M5 e5 => ?_⟩⟩⟩
    · rw [if_pos (by omega), if_neg (by omega)]
      refine ⟨a3, rfl, fun k hk => ?_, fun p p1 p2 p3 => a7 p p1 p2⟩
      rw [if_pos (by omega), if_neg (by omega)]
      exact ⟨a4 k hk, a5 k⟩
    · obtain ⟨b1, b2, b3, b4, b5⟩ := d2 M2 M5 e5
      rw [if_pos (by omega), if_pos (by omega)]
      refine ⟨by rw [b2, a3], b1, fun k hk => ?_, fun p p1 p2 p3 => by rw [b5 p p1 p3, a7 p p1 p2]⟩
      rw [if_pos (by omega), if_pos (by omega)]
      exact ⟨by rw [b4, a4 k hk], by rw [b3 k hk, a6]⟩
theorem kc_compare {σ : St} {M : mM} (hw : Wf σ) (h2 : Wf2 σ) (hn : σ 0 0 ≤ 6) (hh : HH σ M) (hK : KO σ M) : C_ kk_X2_compare [v_P 70] M (fun _ M' => KV σ M' (o_st (nz σ) 720) ∧ ∀ p, p < 30 ∨ 48 ≤ p ∧ p < 70 ∨ 74 ≤ p → M' p = M p) := by
  have ht := hw.2.2.2.2.2.2.1
  have hww := nz_wf hw
  have hw2 := nz_wf2 h2
  have hhh := nz_hh hh
  have hKV : KV σ = KV (nz σ) := rfl
  have hK' : M 70 7 ≠ 0 → KV (nz σ) M (o_st (nz σ) 720) := fun z => by
    have := hK z
    rw [hKV] at this
    exact this
  rw [hKV]
  have e0 : σ 0 0 = nz σ 0 0 := rfl
  have e13 : σ 13 0 = nz σ 13 0 := rfl
  rw [e0] at hn
  rw [e13] at ht
  generalize nz σ = τ at hn ht hww hw2 hhh hK' ⊢
  refine c_intro (by decide) rfl (Nat.le_of_ble_eq_true rfl) (by simp [m_dv, Value.category]) (wp_X2_compare_0 ?_)
  refine ⟨fun q => ⟨hK' q, fun _ _ => rfl⟩, fun q => ?_⟩
  rw [hhh.1.1]
  refine ⟨fun _ => ⟨by omega, ?_⟩, fun y => absurd y (by omega)⟩
  have z0 : Int.toNat 0 = 0 := rfl
  rw [z0, Int.toNat_natCast]
  have loop : ∀ (f m : Nat) (N : mM) (x1 : Int), m + f = 720 → (x1 ≠ 0 → q_in N 73 (τ 0 0) (p_dec (p_cs (τ 0 0) m))) → (x1 = 0 → 0 < m ∧ o_st τ m = o_st τ 720) → (0 < m → KV τ N (o_st τ m)) → (∀ p, p < 30 ∨ 48 ≤ p ∧ p < 70 ∨ 74 ≤ p → N p = M p) → X_ kk_X2_compare 47 [v_P 70, v_I x1, v_I (m : Int)] [] N (fun _ M' => KV τ M' (o_st τ 720) ∧ ∀ p, p < 30 ∨ 48 ≤ p ∧ p < 70 ∨ 74 ≤ p → M' p = M p) := by
    have upKV : ∀ (N : mM) (s : Int × Int × Nat × Nat), KV τ N s → KV τ (m_up N 70 7 1) s := fun N s h => by
      obtain ⟨a1, a2, a3⟩ := h
      refine ⟨by rw [up_slot (by decide)]; exact a1, by rw [up_slot (by decide)]; exact a2, fun k hk => ?_⟩
      rw [up_row (by decide), up_row (by decide)]
      exact a3 k hk
    intro f
    induction f with
    | zero =>
      intro m N x1 hm h73 h0 hKV hf
      have : m = 720 := by omega
      subst this
      exact wp_X2_compare_47 ⟨fun _ => ⟨upKV _ _ (hKV (by omega)), fun p hp => by rw [up_row (by omega)]; exact hf p hp⟩, fun y => absurd y (by omega)⟩
    | succ f ih =>
      intro m N x1 hm h73 h0 hKV hf
      refine wp_X2_compare_47 ⟨fun y => absurd y (by omega), fun _ => ⟨fun q1 => ?_, fun q1 => ?_⟩⟩
      · obtain ⟨hm0, he⟩ := h0 q1
        rw [← he]
        exact ⟨upKV _ _ (hKV hm0), fun p hp => by rw [up_row (by omega)]; exact hf p hp⟩
      · have hhN : HH τ N := HH_of hhh (fun p hp => hf p (by omega))
        have h73' := h73 q1
        rw [hhN.2.2.1]
        refine ⟨_, kc_open (T := (τ 13 0 : Int)) hww (q := 73) (by decide) hhN, fun r2 M3 _ _ e3 => ?_⟩
        obtain ⟨g1, g2, g3, g4⟩ := e3
        have hh3 : HH τ M3 := HH_of hhN (fun p hp => g4 p (by omega))
        refine ⟨_, kc_run hww hw2 (o_or (m := m) (by omega)) (by omega) (k0_ok hww) hh3 ⟨73, 6, g1, rfl, hn, Or.inr rfl, fun j hj => by rw [g4 73 (by omega)]; exact h73' j hj⟩ g2 g3, fun r9 M10 _ _ e10 => ?_⟩
        obtain ⟨dr, f10⟩ := e10
        have hh10 := dr.1
        have f10' : ∀ p, p < 30 ∨ 48 ≤ p → M10 p = N p := fun p hp => by rw [f10 p (by omega), g4 p (by omega)]
        refine ⟨_, kc_worthTogether hww hh10.2.1 dr.2.2.2.2.1, fun r16 M17 _ _ e17 => ?_⟩
        obtain ⟨e17a, rfl⟩ := e17
        subst e17a
        have ewa : o_sum τ (d_end τ (p_dec (p_cs (τ 0 0) m)) (τ 13 0) (k0 τ)) (τ 5 0) = o_wa τ (p_cs (τ 0 0) m) := rfl
        rw [ewa]
        have hwa := o_wa_le hww (p_cs (τ 0 0) m)
        obtain ⟨s1, s2, s3, s4⟩ := o_st_s (σ := τ) (m := m)
        -- behind note and stepOn
        have rest : ∀ (M24 : mM), KV τ M24 (o_st τ (m + 1)) → (∀ p, p ≠ 70 → p ≠ 71 → p ≠ 72 → M24 p = M17 p) → ∃ Qc29 : Int → mM → Prop, C_ kk_X2_stepOn [v_P 70] M24 Qc29 ∧ ∀ (r30 : Int) (M31 : mM), m_ir r30 → m_okM M31 → Qc29 r30 M31 → (m_ir ((m : Int) + 1)) ∧ X_ kk_X2_compare 47 [v_P 70, v_I r30, v_I ((m : Int) + 1)] [] M31 (fun _ M' => KV τ M' (o_st τ 720) ∧ ∀ p, p < 30 ∨ 48 ≤ p ∧ p < 70 ∨ 74 ≤ p → M' p = M p) := by
          intro M24 hk24 f24
          refine ⟨_, kc_stepOn hn (by rw [f24 1 (by decide) (by decide) (by decide)]; exact hh10.1.1) (o := p_dec (p_cs (τ 0 0) m)) (fun x hx => by rw [f24 73 (by decide) (by decide) (by decide), f10' 73 (by omega)]; exact h73' x hx), fun r30 M31 _ _ e31 => ⟨⟨by omega, by omega⟩, ?_⟩⟩
          obtain ⟨er, ein, efr⟩ := e31
          refine ih (m + 1) M31 r30 (by omega) (fun _ x hx => by rw [p_cs_nx (by omega) m x hx]; exact ein x hx) (fun hz => ⟨by omega, ?_⟩) (fun _ => ?_) (fun p hp => by rw [efr p (by omega), f24 p (by omega) (by omega) (by omega), f10' p (by omega)]; exact hf p hp)
          · by_cases e : p_pv (p_dec (p_cs (τ 0 0) m)) (τ 0 0 - 1) = 0
            · exact o_st_end (by omega) (by omega) e
            · rw [if_neg e] at er; omega
          · obtain ⟨a1, a2, a3⟩ := hk24
            refine ⟨by rw [efr 70 (by decide)]; exact a1, by rw [efr 70 (by decide)]; exact a2, fun k hk => ?_⟩
            rw [efr 71 (by decide), efr 72 (by decide)]
            exact a3 k hk
        refine ⟨fun q2 => ⟨_, kc_note hn hh10.1.1, fun r23 M24 _ _ e24 => rest M24 ?_ e24.2.2.2⟩, fun q2 => ⟨_, kc_note hn hh10.1.1, fun r23 M24 _ _ e24 => rest M24 ?_ e24.2.2.2⟩⟩
        · obtain ⟨a1, a2, a3⟩ := hKV (by omega)
          obtain ⟨b1, b2, b3, b4⟩ := e24
          have c1 : M17 70 5 = (o_st τ m).1 := by rw [f10' 70 (by omega)]; exact a1
          have c2 : M17 70 6 = (o_st τ m).2.1 := by rw [f10' 70 (by omega)]; exact a2
          rw [c1] at b1
          rw [c2] at b2
          simp only [c1, c2] at b3
          refine ⟨?_, ?_, fun k hk => ?_⟩
          · rw [b1, s1]
            by_cases e : (o_st τ m).1 < o_wa τ (p_cs (τ 0 0) m)
            · rw [if_pos (Or.inr e), if_pos e]
            · rw [if_neg (by omega), if_neg e]
          · rw [b2, s2]
            by_cases e : o_wa τ (p_cs (τ 0 0) m) < (o_st τ m).2.1
            · rw [if_pos (Or.inr e), if_pos e]
            · rw [if_neg (by omega), if_neg e]
          · have e73 : M17 73 k = p_dec (p_cs (τ 0 0) m) k := by rw [f10' 73 (by omega)]; exact h73' k hk
            have e71 : M17 71 k = p_dec (o_st τ m).2.2.1 k := by rw [f10' 71 (by omega)]; exact (a3 k hk).1
            have e72 : M17 72 k = p_dec (o_st τ m).2.2.2 k := by rw [f10' 72 (by omega)]; exact (a3 k hk).2
            rw [(b3 k hk).1, (b3 k hk).2, s3, s4, e73, e71, e72]
            constructor
            · by_cases e : (o_st τ m).1 < o_wa τ (p_cs (τ 0 0) m)
              · rw [if_pos (Or.inr e), if_pos e]
              · rw [if_neg (by omega), if_neg e]
            · by_cases e : o_wa τ (p_cs (τ 0 0) m) < (o_st τ m).2.1
              · rw [if_pos (Or.inr e), if_pos e]
              · rw [if_neg (by omega), if_neg e]
        · have em : m = 0 := by omega
          subst em
          obtain ⟨b1, b2, b3, b4⟩ := e24
          have i0 : (o_st τ 0).1 = -1 := rfl
          have i1 : (o_st τ 0).2.1 = 1000000000 := rfl
          rw [i0, if_pos (by omega)] at s1 s3
          rw [i1, if_pos (by omega)] at s2 s4
          rw [if_pos (by omega)] at b1 b2
          refine ⟨by rw [b1, s1], by rw [b2, s2], fun k hk => ?_⟩
          have e73 : M17 73 k = p_dec (p_cs (τ 0 0) 0) k := by rw [f10' 73 (by omega)]; exact h73' k hk
          rw [(b3 k hk).1, (b3 k hk).2, s3, s4, if_pos (by omega), if_pos (by omega), e73]
          exact ⟨rfl, rfl⟩
  refine loop 720 0 _ 1 (by omega) (fun _ x hx => ?_) (fun y => absurd y (by decide)) (fun y => absurd y (by omega)) (fun p hp => ?_)
  · rw [cp_eq, if_pos ⟨rfl, by omega, by omega⟩, Nat.zero_add, Nat.sub_zero, (hhh.1.2 x hx).2.2.2]
    have : p_dec (p_cs (τ 0 0) 0) x = x := p_dec_enc (fun y hy => by omega) x hx
    rw [this]
  · funext k
    rw [cp_eq, if_neg (by omega)]
