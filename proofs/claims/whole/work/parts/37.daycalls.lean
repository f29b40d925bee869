/-! sold, day, gain, cut -/
theorem inj_surj : ∀ (n : Nat) (o : Nat → Nat), (∀ p, p < n → o p < n) → (∀ i j, i < n → j < n → o i = o j → i = j) → ∀ l, l < n → ∃ p, p < n ∧ o p = l
  | 0, _, _, _ => fun l hl => absurd hl (Nat.not_lt_zero l)
  | n + 1, o, h1, h2 => by
    have g1 : ∀ p, p < n → (if o p = n then o n else o p) < n := by
      intro p hp
      have a := h1 p (by omega)
      have b := h1 n (by omega)
      have c : o p ≠ o n := fun e => by have := h2 p n (by omega) (by omega) e; omega
      split <;> omega
    have g2 : ∀ i j, i < n → j < n → (if o i = n then o n else o i) = (if o j = n then o n else o j) → i = j := by
      intro i j hi hj e
      by_cases a : o i = n
      · by_cases b : o j = n
        · exact h2 i j (by omega) (by omega) (by omega)
        · rw [if_pos a, if_neg b] at e
          have := h2 n j (by omega) (by omega) e
          omega
      · by_cases b : o j = n
        · rw [if_neg a, if_pos b] at e
          have := h2 i n (by omega) (by omega) e
          omega
        · rw [if_neg a, if_neg b] at e
          exact h2 i j (by omega) (by omega) e
    have ih := inj_surj n (fun p => if o p = n then o n else o p) g1 g2
    intro l hl
    by_cases hv : o n = l
    · exact ⟨n, by omega, hv⟩
    · by_cases hl2 : l = n
      · obtain ⟨p, hp, e⟩ := ih (o n) (by have := h1 n (by omega); omega)
        by_cases a : o p = n
        · exact ⟨p, by omega, by omega⟩
        · rw [if_neg a] at e
          have := h2 p n (by omega) (by omega) e
          omega
      · obtain ⟨p, hp, e⟩ := ih l (by omega)
        by_cases a : o p = n
        · rw [if_pos a] at e
          exact absurd e hv
        · rw [if_neg a] at e
          exact ⟨p, by omega, e⟩
theorem CR_fr {σ : St} {M M' : mM} (h : CR σ M) (hf : ∀ p, p < 30 ∨ p = 61 ∨ p = 76 → M' p = M p) (h75 : M' 75 2 = M 75 2) : CR σ M' := by
  obtain ⟨⟨h1, h2⟩, ⟨h3, h4, h5⟩, h6, h7, ⟨h8, h9⟩, h10, ⟨h11, h12⟩⟩ := h
  refine ⟨⟨?_, fun j hj => ?_⟩, ⟨?_, ?_, fun b hb => ?_⟩, fun j hj => ?_, fun b hb => ?_, ⟨?_, fun i hi => ?_⟩, fun l hl => ?_, ⟨?_, fun d hd => ?_⟩⟩
  · rw [hf 1 (by omega)]; exact h1
  · rw [hf 2 (by omega), hf 3 (by omega), hf 4 (by omega), hf 6 (by omega)]; exact h2 j hj
  · rw [hf 1 (by omega)]; exact h3
  · rw [hf 1 (by omega)]; exact h4
  · unfold HB1
    rw [hf (8 + 3 * b) (by omega), hf (8 + 3 * b + 1) (by omega), hf (8 + 3 * b + 2) (by omega)]; exact h5 b hb
  · rw [hf 5 (by omega)]; exact h6 j hj
  · rw [hf (8 + 3 * b) (by omega)]; exact h7 b hb
  · rw [hf 26 (by omega)]; exact h8
  · rw [hf 27 (by omega)]; exact h9 i hi
  · rw [hf 61 (by omega)]; exact h10 l hl
  · rw [h75]; exact h11
  · rw [hf 76 (by omega)]; exact h12 d hd
theorem MR_fr {σ : St} {M M' : mM} (h : MR σ M) (hf : ∀ p, 80 ≤ p ∧ p < 92 ∨ p = 101 ∨ p = 108 → M' p = M p) (h79 : ∀ i, i = 4 ∨ i = 8 ∨ i = 9 ∨ i = 11 ∨ i = 36 → M' 79 i = M 79 i) : MR σ M' := by
  unfold MR at h ⊢
  simp only [h79 4 (by decide), h79 8 (by decide), h79 9 (by decide), h79 11 (by decide), h79 36 (by decide), hf 80 (by decide), hf 81 (by decide), hf 82 (by decide), hf 83 (by decide), hf 84 (by decide), hf 85 (by decide), hf 86 (by decide), hf 87 (by decide), hf 88 (by decide), hf 89 (by decide), hf 90 (by decide), hf 91 (by decide), hf 101 (by decide), hf 108 (by decide)]
  exact h
/-- a call of the class that changes only rows of its own -/
theorem PC_fr {σ : St} {M M' : mM} {x : Int} (h : CR σ M) (hf : ∀ p, p < 30 ∨ 48 ≤ p → M' p = M p) : PC (x, σ) M x M' := ⟨rfl, CR_fr h (fun p hp => hf p (by omega)) (by rw [hf 75 (by omega)]), fun p hp => hf p (by omega), Or.inr fun p _ _ => hf p (by omega)⟩
def k0 (σ : St) (b : Nat) : Int := 100 - (σ 7 b : Int)
def kx (σ : St) (b0 : Nat) (c : Int) (b : Nat) : Int := if b = b0 then 100 - c else 100 - (σ 7 b : Int)
theorem k0_ok {σ : St} (hw : Wf σ) : ∀ b, b < σ 5 0 → 0 ≤ k0 σ b ∧ k0 σ b ≤ 100 := fun b hb => by
  have h5 := hw.2.2.2.1
  have h := (hw.2.2.2.2.1 b (by omega)).2.1
  unfold k0
  omega
theorem kx_ok {σ : St} (hw : Wf σ) {b0 : Nat} {c : Int} (hc : 0 ≤ c ∧ c ≤ 99) : ∀ b, b < σ 5 0 → 0 ≤ kx σ b0 c b ∧ kx σ b0 c b ≤ 100 := fun b hb => by
  have h5 := hw.2.2.2.1
  have h := (hw.2.2.2.2.1 b (by omega)).2.1
  unfold kx
  split <;> omega
theorem or_st {σ : St} (hw : Wf σ) : d_or σ (σ 4) := ⟨fun p hp => (hw.2.1 p hp).2.2.2, fun i j hi hj e => hw.2.2.1 i j hi hj e⟩
/-- the DAY as it is -/
def d_day (σ : St) : dD := d_end σ (σ 4) (σ 13 0) (k0 σ)
theorem kc_runAsItIs {σ : St} {M : mM} (hw : Wf σ) (h2 : Wf2 σ) (h : CR σ M) : C_ kk_X4_runAsItIs [v_P 30] M (fun _ M' => DR σ (σ 4) (σ 13 0) (k0 σ) (d_day σ) M' ∧ ∀ p, p < 30 ∨ 48 ≤ p → M' p = M p) := by
  have hn8 := hw.1
  have ht := hw.2.2.2.2.2.2.1
  have hh : HH σ M := ⟨h.1, h.2.1⟩
  refine c_intro (by decide) rfl (Nat.le_of_ble_eq_true rfl) (by simp [m_dv, Value.category]) (wp_X4_runAsItIs_0 ?_)
  rw [h.2.1.2.1]
  refine ⟨_, kc_open (T := (σ 13 0 : Int)) hw (q := 5) (by decide) hh, fun r2 M3 _ _ e3 => ?_⟩
  obtain ⟨g1, g2, g3, g4⟩ := e3
  have hh3 : HH σ M3 := HH_of hh (fun p hp => g4 p (by omega))
  refine ⟨_, kc_run hw h2 (or_st hw) (by omega) (k0_ok hw) hh3 ⟨5, 8, g1, rfl, hn8, Or.inl rfl, fun j hj => by rw [g4 5 (by omega)]; exact h.2.2.1 j hj⟩ g2 g3, fun r9 M10 _ _ e10 => ⟨e10.1, fun p hp => ?_⟩⟩
  rw [e10.2 p (by omega), g4 p (by omega)]
/-- what a buyer gains -/
def d_gn (σ : St) (D : dD) (b : Nat) : Int := (n_worth σ b (D 3 b).toNat : Int) - (σ 6 b - D 4 b)
def d_gain (σ : St) (b : Nat) (c T : Int) : Int := d_gn σ (d_end σ (σ 4) T (kx σ b c)) b
theorem d_gn_le {σ : St} {o : Nat → Nat} {T : Int} {k : Nat → Int} (hw : Wf σ) (ho : d_or σ o) (hT : 0 ≤ T) {b : Nat} (hb : b < 6) : -1000 ≤ d_gn σ (d_end σ o T k) b ∧ d_gn σ (d_end σ o T k) b ≤ 999 := by
  have h1 := n_worth_le hw (b := b) (h := (d_end σ o T k 3 b).toNat) hb
  have h2 := (d_ok_go (k := k) hw ho hT (σ 0 0)).2.1 b hb
  have h3 := (hw.2.2.2.2.1 b hb).1
  have e : d_end σ o T k = d_go σ o T k (σ 0 0) := rfl
  rw [← e] at h2
  unfold d_gn
  omega
theorem kc_gainOf {σ : St} {k : Nat → Int} {D : dD} {M : mM} {b : Nat} (hw : Wf σ) (hb : b < 6) (hB : BR σ k D M b) (h4 : 0 ≤ D 4 b ∧ D 4 b ≤ σ 6 b) : C_ kk_X4_gainOf [v_P 30, v_I (b : Int)] M (fun r M' => M' = M ∧ r = d_gn σ D b) := by
  obtain ⟨b1, b2, b3, b4, b5, b6⟩ := hB
  have h1 := n_worth_le hw (b := b) (h := (D 3 b).toNat) hb
  have h3 := (hw.2.2.2.2.1 b hb).1
  refine c_intro (by decide) rfl (Nat.le_of_ble_eq_true rfl) (by simp [m_dv, Value.category]) (wp_X4_gainOf_0 ?_)
  rw [Int.toNat_natCast, b2, b3]
  exact ⟨by omega, by omega, ⟨by omega, by omega⟩, rfl, rfl⟩
theorem d_end_ok {σ : St} {o : Nat → Nat} {T : Int} {k : Nat → Int} (hw : Wf σ) (ho : d_or σ o) (hT : 0 ≤ T) {b : Nat} (hb : b < 6) : 0 ≤ d_end σ o T k 3 b ∧ d_end σ o T k 3 b < ((2 ^ σ 0 0 : Nat) : Int) ∧ 0 ≤ d_end σ o T k 4 b ∧ d_end σ o T k 4 b ≤ σ 6 b := (d_ok_go (k := k) hw ho hT (σ 0 0)).2.1 b hb
theorem kc_gainWith {σ : St} {M : mM} {b : Nat} {c T : Int} (hw : Wf σ) (h2 : Wf2 σ) (h : CR σ M) (hb : b < σ 5 0) (hc : 0 ≤ c ∧ c ≤ 99) (hT : 0 ≤ T ∧ T ≤ 200) : C_ kk_X4_gainWith [v_P 30, v_I (b : Int), v_I c, v_I T] M (fun r M' => r = d_gain σ b c T ∧ ∀ p, p < 30 ∨ 48 ≤ p → M' p = M p) := by
  have hn8 := hw.1
  have hnb := hw.2.2.2.1
  have hh : HH σ M := ⟨h.1, h.2.1⟩
  refine c_intro (by decide) rfl (Nat.le_of_ble_eq_true rfl) (by simp [m_dv, Value.category]) (wp_X4_gainWith_0 ?_)
  refine ⟨_, kc_open (T := T) hw (q := 5) (by decide) hh, fun r2 M3 _ _ e3 => ⟨⟨by omega, by omega⟩, by omega, ?_⟩⟩
  obtain ⟨g1, g2, g3, g4⟩ := e3
  rw [Int.toNat_natCast]
  have hh3 : HH σ (m_up M3 39 b (100 - c)) := HH_of hh (fun p hp => by rw [up_row (by omega)]; exact g4 p (by omega))
  refine ⟨_, kc_run (k := kx σ b c) (T := T) hw h2 (or_st hw) (by omega) (kx_ok hw hc) hh3 ⟨5, 8, by rw [up_row (by omega)]; exact g1, rfl, hn8, Or.inl rfl, fun j hj => by rw [up_row (by omega), g4 5 (by omega)]; exact h.2.2.1 j hj⟩ (by rw [up_row (by omega)]; exact g2) (fun b' hb' => ?_), fun r11 M12 _ _ e12 => ?_⟩
  · obtain ⟨x1, x2, x3, x4, x5, x6⟩ := g3 b' hb'
    simp (disch := omega) only [up_row, up_slot, up_hit, su_row, su_slot, su_hit]
    refine ⟨x1, x2, x3, x4, x5, ?_⟩
    unfold kx
    by_cases e : b' = b
    · subst e
      rw [if_pos rfl, up_hit]
    · rw [if_neg e, up_slot e]
      exact x6
  · obtain ⟨⟨-, -, -, -, dB, -⟩, f12⟩ := e12
    refine ⟨_, kc_gainOf hw (by omega) (dB b hb) (d_end_ok hw (or_st hw) hT.1 (by omega)).2.2, fun r18 M19 _ _ e19 => ⟨e19.2, fun p hp => ?_⟩⟩
    rw [e19.1, f12 p (by omega), up_row (by omega)]
    exact g4 p (by omega)
/-- SOLD, DAY, GAIN -/
def sp_sold (σ : St) (l w : Int) : Int × St := (if ¬ (0 ≤ l ∧ l < σ 0 0) then -1 else if w < 0 ∨ 2 < w then -2 else d_day σ (5 + w.toNat) l.toNat, σ)
def sp_day (σ : St) (b w : Int) : Int × St := (if ¬ (0 ≤ b ∧ b < σ 5 0) then -1 else if w < 0 ∨ 3 < w then -2 else if w = 0 then d_day σ 3 b.toNat else if w = 1 then (n_worth σ b.toNat (d_day σ 3 b.toNat).toNat : Int) else if w = 2 then σ 6 b.toNat - d_day σ 4 b.toNat else d_day σ 4 b.toNat, σ)
def sp_gain (σ : St) (b : Int) : Int × St := (if ¬ (0 ≤ b ∧ b < σ 5 0) then -1000000001 else d_gn σ (d_day σ) b.toNat, σ)
theorem d_sold {σ : St} {o : Nat → Nat} {T : Int} {k : Nat → Int} (hw : Wf σ) (ho : d_or σ o) (hT : 0 ≤ T) {l : Nat} (hl : l < σ 0 0) : ∃ p, p < σ 0 0 ∧ o p = l ∧ (p : Int) < d_end σ o T k 0 (σ 2 (o p)) := by
  obtain ⟨p, hp, e⟩ := inj_surj (σ 0 0) o ho.1 ho.2 l hl
  exact ⟨p, hp, e, d_done hw ho hT p hp⟩
theorem kc_sold {σ : St} {M : mM} {l w : Int} (hw : Wf σ) (h2 : Wf2 σ) (h : CR σ M) : C_ kk_X10_sold [v_P 0, v_I l, v_I w] M (PC (sp_sold σ l w) M) := by
  have hn8 := hw.1
  have ht := hw.2.2.2.2.2.2.1
  refine c_intro (by decide) rfl (Nat.le_of_ble_eq_true rfl) (by simp [m_dv, Value.category]) (wp_X10_sold_0 ?_)
  rw [h.1.1]
  unfold sp_sold
  refine ⟨fun q => ?_, fun q => ?_⟩
  · rw [if_neg (fun z => z q)]
    refine ⟨fun q2 => ?_, fun q2 => ⟨_, kc_runAsItIs hw h2 h, fun r2 M3 _ _ e3 => ?_⟩⟩
    · rw [if_pos q2]; exact PC_same h
    · rw [if_neg q2]
      obtain ⟨⟨-, -, -, -, -, dS⟩, f3⟩ := e3
      obtain ⟨l', rfl⟩ := nat_of q.1
      obtain ⟨p, hp, ep, hd⟩ := d_sold (k := k0 σ) (T := (σ 13 0 : Int)) hw (or_st hw) (by omega) (l := l') (by omega)
      obtain ⟨s1, s2, s3⟩ := dS p hp hd
      rw [ep] at s1 s2 s3
      rw [Int.toNat_natCast]
      refine ⟨fun q3 => ⟨fun q4 => ⟨by omega, ?_⟩, fun q4 => ⟨by omega, ?_⟩⟩, fun q3 => ⟨by omega, ?_⟩⟩
      · rw [show w = 2 by omega, s3]; exact PC_fr h f3
      · rw [q4, s2]; exact PC_fr h f3
      · rw [q3, s1]; exact PC_fr h f3
  · rw [if_pos q]; exact PC_same h
theorem kc_day {σ : St} {M : mM} {b w : Int} (hw : Wf σ) (h2 : Wf2 σ) (h : CR σ M) : C_ kk_X10_day [v_P 0, v_I b, v_I w] M (PC (sp_day σ b w) M) := by
  have hnb := hw.2.2.2.1
  refine c_intro (by decide) rfl (Nat.le_of_ble_eq_true rfl) (by simp [m_dv, Value.category]) (wp_X10_day_0 ?_)
  rw [h.2.1.1]
  unfold sp_day
  refine ⟨fun q => ?_, fun q => ?_⟩
  · rw [if_neg (fun z => z q)]
    refine ⟨fun q2 => ?_, fun q2 => ⟨_, kc_runAsItIs hw h2 h, fun r2 M3 _ _ e3 => ?_⟩⟩
    · rw [if_pos q2]; exact PC_same h
    · rw [if_neg q2]
      obtain ⟨⟨-, -, -, -, dB, -⟩, f3⟩ := e3
      obtain ⟨b', rfl⟩ := nat_of q.1
      obtain ⟨b1, b2, b3, b4, b5, b6⟩ := dB b' (by omega)
      rw [Int.toNat_natCast, b1, b2, b3, b4]
      refine ⟨fun q3 => ⟨by omega, ?_⟩, fun q3 => ⟨by omega, ?_⟩, fun q3 => ⟨by omega, ?_⟩, fun q3 => ⟨by omega, ?_⟩⟩
      · rw [if_pos q3]; exact PC_fr h f3
      · rw [if_neg (by omega), if_pos q3]; exact PC_fr h f3
      · rw [if_neg (by omega), if_neg (by omega), if_pos q3]; exact PC_fr h f3
      · rw [if_neg (by omega), if_neg (by omega), if_neg (by omega)]; exact PC_fr h f3
  · rw [if_pos q]; exact PC_same h
theorem kc_gain {σ : St} {M : mM} {b : Int} (hw : Wf σ) (h2 : Wf2 σ) (h : CR σ M) : C_ kk_X10_gain [v_P 0, v_I b] M (PC (sp_gain σ b) M) := by
  have hnb := hw.2.2.2.1
  refine c_intro (by decide) rfl (Nat.le_of_ble_eq_true rfl) (by simp [m_dv, Value.category]) (wp_X10_gain_0 ?_)
  rw [h.2.1.1]
  unfold sp_gain
  refine ⟨fun q => ⟨_, kc_runAsItIs hw h2 h, fun r2 M3 _ _ e3 => ?_⟩, fun q => ?_⟩
  · rw [if_neg (fun z => z q)]
    obtain ⟨⟨-, -, -, -, dB, -⟩, f3⟩ := e3
    obtain ⟨b', rfl⟩ := nat_of q.1
    refine ⟨_, kc_gainOf hw (by omega) (dB b' (by omega)) (d_end_ok hw (or_st hw) (by omega) (by omega)).2.2, fun r9 M10 _ _ e10 => ?_⟩
    obtain ⟨e10a, rfl⟩ := e10
    subst e10a
    rw [Int.toNat_natCast]
    exact PC_fr h f3
  · rw [if_pos q]; exact PC_same h
/-- the best of n cuts -/
def c_mo (g : Int → Int) : Nat → Int × Int
  | 0 => (0, -1000000000)
  | c + 1 => if (c_mo g c).2 < g c then ((c : Int), g c) else c_mo g c
def sp_cut (σ : St) (b w : Int) : Int × St := (if ¬ (0 ≤ b ∧ b < σ 5 0) then -1000000001 else if w < 0 ∨ 1 < w then -1000000002 else if w = 0 then (c_mo (fun c => d_gain σ b.toNat c (σ 13 0)) 100).1 else (c_mo (fun c => d_gain σ b.toNat c (σ 13 0)) 100).2, σ)
theorem kc_cut {σ : St} {M : mM} {b w : Int} (hw : Wf σ) (h2 : Wf2 σ) (h : CR σ M) : C_ kk_X10_cut [v_P 0, v_I b, v_I w] M (PC (sp_cut σ b w) M) := by
  have hnb := hw.2.2.2.1
  have ht := hw.2.2.2.2.2.2.1
  refine c_intro (by decide) rfl (Nat.le_of_ble_eq_true rfl) (by simp [m_dv, Value.category]) (wp_X10_cut_0 ?_)
  rw [h.2.1.1]
  unfold sp_cut
  refine ⟨fun q => ?_, fun q => ?_⟩
  · rw [if_neg (fun z => z q)]
    refine ⟨fun q2 => ?_, fun q2 => ?_⟩
    · rw [if_pos q2]; exact PC_same h
    · rw [if_neg q2]
      obtain ⟨b', rfl⟩ := nat_of q.1
      rw [Int.toNat_natCast, h.2.1.2.1]
      refine ⟨_, kc_gainWith (T := (σ 13 0 : Int)) hw h2 h (by omega) (by omega) (by omega), fun r2 M3 _ _ e3 => ?_⟩
      obtain ⟨rfl, f3⟩ := e3
      generalize hg : (fun c => d_gain σ b' c (σ 13 0)) = g
      have hgx : ∀ c, d_gain σ b' c (σ 13 0) = g c := fun c => by rw [← hg]
      have loop : ∀ (m c : Nat) (N : mM), c + m = 100 → (∀ p, p < 30 ∨ 48 ≤ p → N p = M p) → X_ kk_X10_cut 49 [v_P 0, v_I (b' : Int), v_I w, v_I (c_mo g c).1, v_I (c_mo g c).2, v_I (c : Int), v_U] [] N (PC (if w = 0 then (c_mo g 100).1 else (c_mo g 100).2, σ) M) := by
        intro m
        induction m with
        | zero =>
          intro c N hc hf
          rw [show c = 100 by omega]
          refine wp_X10_cut_49 ⟨fun _ => ⟨fun z => ?_, fun z => ?_⟩, fun y => absurd y (by omega)⟩
          · rw [if_neg z]; exact PC_fr h hf
          · rw [if_pos z]; exact PC_fr h hf
        | succ m ih =>
          intro c N hc hf
          have hN : CR σ N := CR_fr h (fun p hp => hf p (by omega)) (by rw [hf 75 (by omega)])
          refine wp_X10_cut_49 ⟨fun y => absurd y (by omega), fun _ => ?_⟩
          rw [hN.2.1.2.1]
          refine ⟨_, kc_gainWith (T := (σ 13 0 : Int)) hw h2 hN (by omega) (by omega) (by omega), fun r2 M3 _ _ e3 => ?_⟩
          obtain ⟨rfl, f3⟩ := e3
          have nx := ih (c + 1) M3 (by omega) (fun p hp => by rw [f3 p hp]; exact hf p hp)
          rw [hgx]
          refine ⟨fun z => ⟨⟨by omega, by omega⟩, ?_⟩, fun z => ⟨⟨by omega, by omega⟩, ?_⟩⟩
          · have e : c_mo g (c + 1) = c_mo g c := by rw [c_mo, if_neg (by omega)]
            rw [e] at nx; exact nx
          · have e : c_mo g (c + 1) = ((c : Int), g c) := by rw [c_mo, if_pos (by omega)]
            rw [e] at nx; exact nx
      have hle := d_gn_le (k := kx σ b' 0) (T := (σ 13 0 : Int)) hw (or_st hw) (by omega) (b := b') (by omega)
      have e1 : c_mo g 1 = (0, g 0) := by
        rw [c_mo, if_pos]
        · rfl
        · rw [← hg]
          show (-1000000000 : Int) < d_gn σ (d_end σ (σ 4) (σ 13 0) (kx σ b' 0)) b'
          omega
      have nx := loop 99 1 M3 (by omega) f3
      rw [e1] at nx
      rw [hgx]
      exact nx
  · rw [if_pos q]; exact PC_same h
/-! the reference's -/
theorem MD_st {σ : St} {M M' : mM} (h : MR σ M) (hW : WL σ M') (hf : ∀ p, p ≠ 92 → M' p = M p) : MD σ (σ 4) (k0 σ) M' := by
  refine ⟨by rw [hf 79 (by decide)]; exact h.1, fun j hj => ?_, by rw [hf 79 (by decide)]; exact h.2.2.1, fun b hb => ?_, hW⟩
  · obtain ⟨a1, a2, a3, a4⟩ := h.2.1 j hj
    rw [hf 81 (by decide), hf 82 (by decide), hf 83 (by decide)]
    exact ⟨a2, a3, a4⟩
  · obtain ⟨a1, a2, a3⟩ := h.2.2.2.2.1 b hb
    rw [hf 84 (by decide), hf 85 (by decide), hf 86 (by decide), a2]
    exact ⟨a1, rfl, a3⟩
theorem PM_fr {σ : St} {M M' : mM} {x : Int} (h : MR σ M) (hf : ∀ p, p < 92 ∨ p = 101 ∨ p = 108 → M' p = M p) : PM (x, σ) M x M' := ⟨rfl, MR_fr h (fun p hp => hf p (by omega)) (fun i _ => by rw [hf 79 (by omega)]), fun p hp => hf p (by omega)⟩
theorem km_worthOfDay {σ : St} {M : mM} {b h : Nat} (hw : Wf σ) (hW : WL σ M) (hb : b < σ 5 0) (h96 : M 96 b = h) (hh : h < 2 ^ σ 0 0) : C_ kk_X11_worthOfDay [v_P 79, v_I (b : Int)] M (fun r M' => M' = M ∧ r = n_worth σ b h) := by
  have hnb := hw.2.2.2.1
  have p8 := pow8 hw
  refine c_intro (by decide) rfl (Nat.le_of_ble_eq_true rfl) (by simp [m_dv, Value.category]) (wp_X11_worthOfDay_0 ?_)
  rw [Int.toNat_natCast, h96, show (256 * (b : Int) + (h : Int)).toNat = 256 * b + h by omega, hW b h hb hh]
  exact ⟨⟨by omega, by omega⟩, by omega, ⟨by omega, by omega⟩, by omega, rfl, rfl⟩
theorem km_gainOf {σ : St} {o : Nat → Nat} {T : Int} {k : Nat → Int} {M : mM} {b : Nat} (hw : Wf σ) (ho : d_or σ o) (hT : 0 ≤ T ∧ T ≤ 200) (hk : ∀ b, b < σ 5 0 → 0 ≤ k b ∧ k b ≤ 100) (hM : MD σ o k M) (hb : b < σ 5 0) : C_ kk_X11_gainOf [v_P 79, v_I (b : Int), v_I T] M (fun r M' => r = d_gn σ (d_end σ o T k) b ∧ ∀ p, p < 93 ∨ 100 ≤ p → M' p = M p) := by
  have hnb := hw.2.2.2.1
  refine c_intro (by decide) rfl (Nat.le_of_ble_eq_true rfl) (by simp [m_dv, Value.category]) (wp_X11_gainOf_0 ?_)
  refine ⟨_, km_runDay hw ho hT hk hM, fun r2 M3 _ _ e3 => ?_⟩
  obtain ⟨⟨-, r2, -⟩, f3⟩ := e3
  have hM3 := MD_of hM f3
  obtain ⟨g1, g2, g3, g4⟩ := d_end_ok (k := k) (T := T) hw ho hT.1 (b := b) (by omega)
  have hle := d_gn_le (k := k) (T := T) hw ho hT.1 (b := b) (by omega)
  obtain ⟨x1, x2⟩ := r2 b hb
  have hc := (hw.2.2.2.2.1 b (by omega)).1
  refine ⟨_, km_worthOfDay (h := (d_end σ o T k 3 b).toNat) hw hM3.2.2.2.2 hb (by rw [x1]; omega) (by omega), fun r9 M10 _ _ e10 => ?_⟩
  obtain ⟨e10a, rfl⟩ := e10
  subst e10a
  rw [Int.toNat_natCast, (hM3.2.2.2.1 b hb).1, x2]
  exact ⟨by omega, by omega, ⟨by omega, by omega⟩, ⟨by unfold d_gn at hle; omega, by unfold d_gn at hle; omega⟩, rfl, f3⟩
theorem km_sold {σ : St} {M : mM} {l w : Int} (hw : Wf σ) (h : MR σ M) : C_ kk_X11_sold [v_P 79, v_I l, v_I w] M (PM (sp_sold σ l w) M) := by
  have hn8 := hw.1
  have ht := hw.2.2.2.2.2.2.1
  refine c_intro (by decide) rfl (Nat.le_of_ble_eq_true rfl) (by simp [m_dv, Value.category]) (wp_X11_sold_0 ?_)
  rw [h.1]
  unfold sp_sold
  refine ⟨by omega, fun q => ?_, fun q => ?_⟩
  · rw [if_neg (fun z => z q)]
    refine ⟨fun q2 => ⟨_, km_layWorths hw h, fun r2 M3 _ _ e3 => ?_⟩, fun q2 => ?_⟩
    · rw [if_neg (by omega)]
      obtain ⟨hW, f3⟩ := e3
      have hM3 := MD_st h hW f3
      rw [f3 79 (by decide), h.2.2.2.1]
      refine ⟨_, km_runDay hw (or_st hw) (T := (σ 13 0 : Int)) (by omega) (k0_ok hw) hM3, fun r9 M10 _ _ e10 => ?_⟩
      obtain ⟨⟨-, -, dS⟩, f10⟩ := e10
      have f : ∀ p, p < 92 ∨ p = 101 ∨ p = 108 → M10 p = M p := fun p hp => by rw [f10 p (by omega), f3 p (by omega)]
      obtain ⟨l', rfl⟩ := nat_of q.1
      obtain ⟨p, hp, ep, hd⟩ := d_sold (k := k0 σ) (T := (σ 13 0 : Int)) hw (or_st hw) (by omega) (l := l') (by omega)
      obtain ⟨s1, s2, s3⟩ := dS p hp hd
      rw [ep] at s1 s2 s3
      rw [Int.toNat_natCast]
      refine ⟨fun q3 => ⟨fun q4 => ⟨by omega, ?_⟩, fun q4 => ⟨by omega, ?_⟩⟩, fun q3 => ⟨by omega, ?_⟩⟩
      · rw [show w = 2 by omega, s3]; exact PM_fr h f
      · rw [q4, s2]; exact PM_fr h f
      · rw [q3, s1]; exact PM_fr h f
    · rw [if_pos (by omega)]; exact PM_same h
  · rw [if_pos q]; exact PM_same h
theorem km_day {σ : St} {M : mM} {b w : Int} (hw : Wf σ) (h : MR σ M) : C_ kk_X11_day [v_P 79, v_I b, v_I w] M (PM (sp_day σ b w) M) := by
  have hnb := hw.2.2.2.1
  have ht := hw.2.2.2.2.2.2.1
  refine c_intro (by decide) rfl (Nat.le_of_ble_eq_true rfl) (by simp [m_dv, Value.category]) (wp_X11_day_0 ?_)
  rw [h.2.2.1]
  unfold sp_day
  refine ⟨by omega, fun q => ?_, fun q => ?_⟩
  · rw [if_neg (fun z => z q)]
    refine ⟨fun q2 => ⟨_, km_layWorths hw h, fun r2 M3 _ _ e3 => ?_⟩, fun q2 => ?_⟩
    · rw [if_neg (by omega)]
      obtain ⟨hW, f3⟩ := e3
      have hM3 := MD_st h hW f3
      rw [f3 79 (by decide), h.2.2.2.1]
      refine ⟨_, km_runDay hw (or_st hw) (T := (σ 13 0 : Int)) (by omega) (k0_ok hw) hM3, fun r9 M10 _ _ e10 => ?_⟩
      obtain ⟨⟨-, dB, -⟩, f10⟩ := e10
      have f : ∀ p, p < 92 ∨ p = 101 ∨ p = 108 → M10 p = M p := fun p hp => by rw [f10 p (by omega), f3 p (by omega)]
      obtain ⟨b', rfl⟩ := nat_of q.1
      obtain ⟨x1, x2⟩ := dB b' (by omega)
      have hM10 := MD_of hM3 f10
      obtain ⟨g1, g2, g3, g4⟩ := d_end_ok (k := k0 σ) (T := (σ 13 0 : Int)) hw (or_st hw) (by omega) (b := b') (by omega)
      have hc := (hw.2.2.2.2.1 b' (by omega)).1
      rw [Int.toNat_natCast, x1, x2, (hM10.2.2.2.1 b' (by omega)).1]
      have ed : d_end σ (σ 4) (σ 13 0) (k0 σ) = d_day σ := rfl
      rw [ed] at g1 g2 g3 g4 x1 x2 ⊢
      refine ⟨fun q3 => ⟨fun q4 => ⟨fun q5 => ⟨by omega, ?_⟩, fun q5 => ⟨by omega, by omega, ⟨by omega, by omega⟩, ?_⟩⟩, fun q4 => ⟨_, km_worthOfDay (h := (d_day σ 3 b').toNat) hw hM10.2.2.2.2 (by omega) (by rw [x1]; omega) (by omega), fun r20 M21 _ _ e21 => ?_⟩⟩, fun q3 => ⟨by omega, ?_⟩⟩
      · rw [if_neg q3, if_neg q4, if_neg q5]; exact PM_fr h f
      · rw [if_neg q3, if_neg q4, if_pos q5]; exact PM_fr h f
      · obtain ⟨e21a, rfl⟩ := e21
        subst e21a
        rw [if_neg q3, if_pos q4]; exact PM_fr h f
      · rw [if_pos q3]; exact PM_fr h f
    · rw [if_pos (by omega)]; exact PM_same h
  · rw [if_pos q]; exact PM_same h
theorem km_gain {σ : St} {M : mM} {b : Int} (hw : Wf σ) (h : MR σ M) : C_ kk_X11_gain [v_P 79, v_I b] M (PM (sp_gain σ b) M) := by
  have hnb := hw.2.2.2.1
  have ht := hw.2.2.2.2.2.2.1
  refine c_intro (by decide) rfl (Nat.le_of_ble_eq_true rfl) (by simp [m_dv, Value.category]) (wp_X11_gain_0 ?_)
  rw [h.2.2.1]
  unfold sp_gain
  refine ⟨by omega, fun q => ⟨_, km_layWorths hw h, fun r2 M3 _ _ e3 => ?_⟩, fun q => ?_⟩
  · rw [if_neg (fun z => z q)]
    obtain ⟨hW, f3⟩ := e3
    have hM3 := MD_st h hW f3
    rw [f3 79 (by decide), h.2.2.2.1]
    obtain ⟨b', rfl⟩ := nat_of q.1
    refine ⟨_, km_gainOf hw (or_st hw) (T := (σ 13 0 : Int)) (by omega) (k0_ok hw) hM3 (by omega), fun r9 M10 _ _ e10 => ?_⟩
    obtain ⟨rfl, f10⟩ := e10
    rw [Int.toNat_natCast]
    exact PM_fr h (fun p hp => by rw [f10 p (by omega), f3 p (by omega)])
  · rw [if_pos q]; exact PM_same h
/-- with the cut c of the buyer b in row 85 -/
theorem MD_cut {σ : St} {M M' : mM} {b : Nat} {c : Int} (h : MR σ M) (hW : WL σ M') (hf : ∀ p, p < 92 → p ≠ 85 → M' p = M p) (h85 : ∀ i, i ≠ b → M' 85 i = M 85 i) (hc : M' 85 b = c) : MD σ (σ 4) (kx σ b c) M' := by
  refine ⟨by rw [hf 79 (by decide) (by decide)]; exact h.1, fun j hj => ?_, by rw [hf 79 (by decide) (by decide)]; exact h.2.2.1, fun b' hb => ?_, hW⟩
  · obtain ⟨a1, a2, a3, a4⟩ := h.2.1 j hj
    rw [hf 81 (by decide) (by decide), hf 82 (by decide) (by decide), hf 83 (by decide) (by decide)]
    exact ⟨a2, a3, a4⟩
  · obtain ⟨a1, a2, a3⟩ := h.2.2.2.2.1 b' hb
    rw [hf 84 (by decide) (by decide), hf 86 (by decide) (by decide)]
    refine ⟨a1, ?_, a3⟩
    unfold kx
    by_cases e : b' = b
    · subst e
      rw [if_pos rfl, hc]
    · rw [if_neg e, h85 b' e, a2]
theorem WL_of {σ : St} {M M' : mM} (h : WL σ M) (e : M' 92 = M 92) : WL σ M' := fun b h' hb hh => by rw [e]; exact h b h' hb hh
theorem km_cut {σ : St} {M : mM} {b w : Int} (hw : Wf σ) (h : MR σ M) : C_ kk_X11_cut [v_P 79, v_I b, v_I w] M (PM (sp_cut σ b w) M) := by
  have hnb := hw.2.2.2.1
  have ht := hw.2.2.2.2.2.2.1
  refine c_intro (by decide) rfl (Nat.le_of_ble_eq_true rfl) (by simp [m_dv, Value.category]) (wp_X11_cut_0 ?_)
  rw [h.2.2.1]
  unfold sp_cut
  refine ⟨by omega, fun q => ?_, fun q => ?_⟩
  · rw [if_neg (fun z => z q)]
    refine ⟨fun q2 => ⟨_, km_layWorths hw h, fun r2 M3 _ _ e3 => ?_⟩, fun q2 => ?_⟩
    · rw [if_neg (by omega)]
      obtain ⟨hW, f3⟩ := e3
      obtain ⟨b', rfl⟩ := nat_of q.1
      rw [Int.toNat_natCast, f3 85 (by decide)]
      refine ⟨by omega, ?_⟩
      generalize hg : (fun c => d_gain σ b' c (σ 13 0)) = g
      have hgx : ∀ c, d_gn σ (d_end σ (σ 4) (σ 13 0) (kx σ b' c)) b' = g c := fun c => by rw [← hg]; rfl
      have loop : ∀ (m c : Nat) (N : mM), c + m = 100 → WL σ N → (∀ p, p < 92 ∨ p = 101 ∨ p = 108 → p ≠ 85 → N p = M p) → (∀ i, i ≠ b' → N 85 i = M 85 i) → X_ kk_X11_cut 47 [v_P 79, v_I (b' : Int), v_I w, v_I (M 85 b'), v_I (c_mo g c).1, v_I (c_mo g c).2, v_I (c : Int), v_U] [] N (PM (if w = 0 then (c_mo g 100).1 else (c_mo g 100).2, σ) M) := by
        intro m
        induction m with
        | zero =>
          intro c N hc hWN hf h85
          have ff : ∀ p, p < 92 ∨ p = 101 ∨ p = 108 → m_up N 85 b' (M 85 b') p = M p := fun p hp => by
            by_cases e : p = 85
            · subst e
              funext i
              by_cases e2 : i = b'
              · subst e2; exact up_hit
              · rw [up_slot e2]; exact h85 i e2
            · rw [up_row e]; exact hf p hp e
          rw [show c = 100 by omega]
          refine wp_X11_cut_47 ⟨fun _ => ?_, fun y => absurd y (by omega)⟩
          rw [Int.toNat_natCast]
          refine ⟨by omega, fun z => ?_, fun z => ?_⟩
          · rw [if_neg z]; exact PM_fr h ff
          · rw [if_pos z]; exact PM_fr h ff
        | succ m ih =>
          intro c N hc hWN hf h85
          have hMD : MD σ (σ 4) (kx σ b' c) (m_up N 85 b' c) := MD_cut h (WL_of hWN (up_row (by decide))) (fun p hp hne => by rw [up_row hne]; exact hf p (by omega) hne) (fun i hi => by rw [up_slot hi]; exact h85 i hi) up_hit
          refine wp_X11_cut_47 ⟨fun y => absurd y (by omega), fun _ => ?_⟩
          rw [Int.toNat_natCast, hf 79 (by omega) (by omega), h.2.2.2.1]
          refine ⟨by omega, _, km_gainOf (T := (σ 13 0 : Int)) hw (or_st hw) (by omega) (kx_ok hw (by omega)) hMD (by omega), fun r4 M5 _ _ e5 => ?_⟩
          obtain ⟨rfl, f5⟩ := e5
          have nx := ih (c + 1) M5 (by omega) (WL_of hWN (by rw [f5 92 (by omega), up_row (by decide)])) (fun p hp hne => by rw [f5 p (by omega), up_row hne]; exact hf p hp hne) (fun i hi => by rw [f5 85 (by omega), up_slot hi]; exact h85 i hi)
          rw [hgx]
          refine ⟨fun z => ⟨⟨by omega, by omega⟩, ?_⟩, fun z => ⟨⟨by omega, by omega⟩, ?_⟩⟩
          · have e : c_mo g (c + 1) = c_mo g c := by rw [c_mo, if_neg (by omega)]
            rw [e] at nx; exact nx
          · have e : c_mo g (c + 1) = ((c : Int), g c) := by rw [c_mo, if_pos (by omega)]
            rw [e] at nx; exact nx
      exact loop 100 0 M3 (by omega) hW (fun p hp hne => f3 p (by omega)) (fun i _ => by rw [f3 85 (by decide)])
    · rw [if_pos (by omega)]; exact PM_same h
  · rw [if_pos q]; exact PM_same h
