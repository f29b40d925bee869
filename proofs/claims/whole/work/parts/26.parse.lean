/-! the signs: what they read as -/
abbrev P5 : Type := Nat × Nat × Nat × Nat × Nat
def p_step (c : Nat) : P5 → Option P5
  | (aw, ns, mn, dg, al) =>
    if aw = 1 then (if 97 + ns ≤ c ∧ c ≤ 101 then some (2, c - 96, mn, dg, al) else none)
    else if aw = 2 ∧ c = 61 then some (3, ns, mn, dg, al)
    else if aw = 0 ∨ aw = 2 then (if 49 ≤ c ∧ c ≤ 57 ∧ ns < 5 then some (1, ns, c - 48, dg, al) else none)
    else if aw = 4 ∧ c = 124 then (if al < 5 then some (0, 0, mn, 0, al + 1) else none)
    else (if 48 ≤ c ∧ c ≤ 57 ∧ dg < 3 then some (4, ns, mn, dg + 1, al) else none)
theorem p_step_eq (c aw ns mn dg al : Nat) : p_step c (aw, ns, mn, dg, al) =
    if aw = 1 then (if 97 + ns ≤ c ∧ c ≤ 101 then some (2, c - 96, mn, dg, al) else none)
    else if aw = 2 ∧ c = 61 then some (3, ns, mn, dg, al)
    else if aw = 0 ∨ aw = 2 then (if 49 ≤ c ∧ c ≤ 57 ∧ ns < 5 then some (1, ns, c - 48, dg, al) else none)
    else if aw = 4 ∧ c = 124 then (if al < 5 then some (0, 0, mn, 0, al + 1) else none)
    else (if 48 ≤ c ∧ c ≤ 57 ∧ dg < 3 then some (4, ns, mn, dg + 1, al) else none) := rfl
def p_run (σ : St) : Nat → Option P5
  | 0 => some (0, 0, 0, 0, 0)
  | i + 1 => (p_run σ i).bind (p_step (σ 18 i))
def p_n1 (c : Nat) (s : P5) (N : Nat → Nat) : Nat → Nat := fun a => if 3 ≤ s.1 ∧ ¬ c = 124 ∧ a = s.2.2.2.2 then N a * 10 + (c - 48) else N a
def p_w1 (c : Nat) (s : P5) (W : Nat → Nat → Nat) : Nat → Nat → Nat := fun a t => if s.1 = 1 ∧ a = s.2.2.2.2 ∧ t = c - 97 then s.2.2.1 else W a t
def p_num (σ : St) : Nat → Nat → Nat
  | 0 => fun _ => 0
  | i + 1 => match p_run σ i with
    | none => p_num σ i
    | some s => p_n1 (σ 18 i) s (p_num σ i)
def p_wan (σ : St) : Nat → Nat → Nat → Nat
  | 0 => fun _ _ => 0
  | i + 1 => match p_run σ i with
    | none => p_wan σ i
    | some s => p_w1 (σ 18 i) s (p_wan σ i)
def p_ok : P5 → Prop
  | (aw, ns, mn, dg, al) => aw ≤ 4 ∧ ns ≤ 5 ∧ al ≤ 5 ∧ (aw = 0 → ns = 0) ∧ (aw = 1 → 1 ≤ mn ∧ mn ≤ 9 ∧ ns < 5) ∧ (aw ≤ 3 → dg = 0) ∧ (aw = 4 → 1 ≤ dg ∧ dg ≤ 3)
def p_in : P5 → (Nat → Nat) → (Nat → Nat → Nat) → Prop
  | (aw, ns, mn, dg, al), N, W => (∀ a, N a ≤ 999) ∧ (∀ a t, W a t ≤ 9) ∧ (∀ a, al < a → N a = 0 ∧ ∀ t, W a t = 0) ∧ N al < 10 ^ dg ∧ ∀ t, ns ≤ t → W al t = 0
theorem p_step_ok {c : Nat} {s s' : P5} {N : Nat → Nat} {W : Nat → Nat → Nat} (h : p_ok s) (hi : p_in s N W) (hs : p_step c s = some s') : p_ok s' ∧ p_in s' (p_n1 c s N) (p_w1 c s W) := by
  obtain ⟨aw, ns, mn, dg, al⟩ := s
  obtain ⟨h1, h2, h3, h4, h5, h6, h7⟩ := h
  obtain ⟨i1, i2, i3, i4, i5⟩ := hi
  rw [p_step_eq] at hs
  by_cases e1 : aw = 1
  · subst e1
    rw [if_pos rfl] at hs
    split at hs
    · rename_i hc
      cases hs
      have hmn := h5 rfl
      refine ⟨⟨by omega, by omega, h3, fun q => by omega, fun q => by omega, fun _ => h6 (by omega), fun q => by omega⟩, fun a => ?_, fun a t => ?_, fun a ha => ⟨?_, fun t => ?_⟩, ?_, fun t ht => ?_⟩
      · unfold p_n1; rw [if_neg (fun q => by have := q.1; dsimp only at this; omega)]; exact i1 a
      · unfold p_w1
        split
        · exact hmn.2.1
        · exact i2 a t
      · unfold p_n1; rw [if_neg (fun q => by have := q.1; dsimp only at this; omega)]; exact (i3 a ha).1
      · unfold p_w1
        rw [if_neg (fun q => by have := q.2.1; dsimp only at this; omega)]
        exact (i3 a ha).2 t
      · unfold p_n1; rw [if_neg (fun q => by have := q.1; dsimp only at this; omega)]; exact i4
      · unfold p_w1
        rw [if_neg (fun q => by have := q.2.2; omega)]
        exact i5 t (by omega)
    · cases hs
  · rw [if_neg e1] at hs
    have W0 : p_w1 c (aw, ns, mn, dg, al) W = W := by
      funext a t
      unfold p_w1
      rw [if_neg (fun q => e1 q.1)]
    rw [W0]
    by_cases e2 : aw = 2 ∧ c = 61
    · rw [if_pos e2] at hs
      cases hs
      have N0 : p_n1 c (aw, ns, mn, dg, al) N = N := by
        funext a
        unfold p_n1
        rw [if_neg (fun q => by have := q.1; dsimp only at this; omega)]
      rw [N0]
      exact ⟨⟨by omega, h2, h3, fun q => by omega, fun q => by omega, fun _ => h6 (by omega), fun q => by omega⟩, i1, i2, i3, i4, i5⟩
    · rw [if_neg e2] at hs
      by_cases e3 : aw = 0 ∨ aw = 2
      · rw [if_pos e3] at hs
        have N0 : p_n1 c (aw, ns, mn, dg, al) N = N := by
          funext a
          unfold p_n1
          rw [if_neg (fun q => by have := q.1; dsimp only at this; omega)]
        rw [N0]
        split at hs
        · rename_i hc
          cases hs
          exact ⟨⟨by omega, h2, h3, fun q => by omega, fun _ => ⟨by omega, by omega, hc.2.2⟩, fun _ => h6 (by omega), fun q => by omega⟩, i1, i2, i3, i4, i5⟩
        · cases hs
      · rw [if_neg e3] at hs
        by_cases e4 : aw = 4 ∧ c = 124
        · rw [if_pos e4] at hs
          have N0 : p_n1 c (aw, ns, mn, dg, al) N = N := by
            funext a
            unfold p_n1
            rw [if_neg (fun q => q.2.1 e4.2)]
          rw [N0]
          split at hs
          · rename_i hc
            cases hs
            refine ⟨⟨by omega, by omega, by omega, fun _ => rfl, fun q => by omega, fun _ => rfl, fun q => by omega⟩, i1, i2, fun a ha => i3 a (by omega), ?_, fun t _ => (i3 (al + 1) (by omega)).2 t⟩
            rw [(i3 (al + 1) (by omega)).1]
            decide
          · cases hs
        · rw [if_neg e4] at hs
          split at hs
          · rename_i hc
            cases hs
            have p3 : 10 ^ dg * 10 ≤ 1000 := by
              rcases (show dg = 0 ∨ dg = 1 ∨ dg = 2 by omega) with rfl | rfl | rfl <;> decide
            refine ⟨⟨by omega, h2, h3, fun q => by omega, fun q => by omega, fun q => by omega, fun _ => ⟨by omega, by omega⟩⟩, fun a => ?_, i2, fun a ha => ⟨?_, (i3 a ha).2⟩, ?_, i5⟩
            · unfold p_n1
              split
              · rename_i hq
                have := hq.2.2
                dsimp only at this
                subst this
                omega
              · exact i1 a
            · unfold p_n1
              rw [if_neg (fun q => by have := q.2.2; dsimp only at this; omega)]
              exact (i3 a ha).1
            · unfold p_n1
              rw [if_pos ⟨by dsimp only; omega, by omega, rfl⟩, Nat.pow_succ]
              omega
          · cases hs
theorem p_num_s {σ : St} {i : Nat} {s : P5} (h : p_run σ i = some s) : p_num σ (i + 1) = p_n1 (σ 18 i) s (p_num σ i) := by
  rw [p_num, h]
theorem p_wan_s {σ : St} {i : Nat} {s : P5} (h : p_run σ i = some s) : p_wan σ (i + 1) = p_w1 (σ 18 i) s (p_wan σ i) := by
  rw [p_wan, h]
theorem p_run_s {σ : St} {i : Nat} {s : P5} (h : p_run σ i = some s) : p_run σ (i + 1) = p_step (σ 18 i) s := by
  rw [p_run, h]
  rfl
theorem p_run_ok {σ : St} : ∀ {i : Nat} {s : P5}, p_run σ i = some s → p_ok s ∧ p_in s (p_num σ i) (p_wan σ i)
  | 0, s, h => by
    cases h
    exact ⟨⟨by omega, by omega, by omega, fun _ => rfl, fun q => by omega, fun _ => rfl, fun q => by omega⟩, fun _ => Nat.zero_le _, fun _ _ => Nat.zero_le _, fun _ _ => ⟨rfl, fun _ => rfl⟩, by show 0 < 10 ^ 0; decide, fun _ _ => rfl⟩
  | i + 1, s', h => by
    cases hr : p_run σ i with
    | none => rw [p_run, hr] at h; cases h
    | some s =>
      have ih := p_run_ok hr
      rw [p_run_s hr] at h
      rw [p_num_s hr, p_wan_s hr]
      exact p_step_ok ih.1 ih.2 h
/-- THE FAULT: from the sign i on, m signs left -/
def n_fl (σ : St) : Nat → Nat → Int
  | 0, i => match p_run σ i with
    | none => i
    | some s => if s.1 = 4 then -6 else i
  | m + 1, i => match p_run σ (i + 1) with
    | none => i
    | some _ => n_fl σ m (i + 1)
def n_fault (σ : St) : Int := n_fl σ (σ 17 0) 0
theorem n_fl_end {σ : St} : ∀ {m i : Nat}, n_fl σ m i = -6 → ∃ s, p_run σ (i + m) = some s ∧ s.1 = 4
  | 0, i, h => by
    unfold n_fl at h
    cases hr : p_run σ i with
    | none => rw [hr] at h; dsimp only at h; omega
    | some s =>
      rw [hr] at h
      dsimp only at h
      by_cases e : s.1 = 4
      · first | exact ⟨s, rfl, e⟩ | exact ⟨s, hr, e⟩
      · rw [if_neg e] at h; omega
  | m + 1, i, h => by
    unfold n_fl at h
    cases hr : p_run σ (i + 1) with
    | none => rw [hr] at h; dsimp only at h; omega
    | some s =>
      rw [hr] at h
      dsimp only at h
      obtain ⟨s', h1, h2⟩ := n_fl_end h
      exact ⟨s', by rw [show i + (m + 1) = i + 1 + m by omega]; exact h1, h2⟩
theorem n_fl_ge {σ : St} : ∀ {m i : Nat}, n_fl σ m i = -6 ∨ 0 ≤ n_fl σ m i
  | 0, i => by
    unfold n_fl
    cases hr : p_run σ i with
    | none => dsimp only; omega
    | some s =>
      dsimp only
      split
      · exact Or.inl rfl
      · omega
  | m + 1, i => by
    unfold n_fl
    cases hr : p_run σ (i + 1) with
    | none => dsimp only; omega
    | some s => exact n_fl_ge
/-! the class's signs -/
def SR (s : P5) (N : Nat → Nat) (W : Nat → Nat → Nat) (M : mM) : Prop := M 26 4 = s.2.2.2.2 ∧ M 26 5 = s.1 ∧ (s.1 = 1 → M 26 6 = s.2.2.1) ∧ M 26 7 = s.2.1 ∧ M 26 8 = s.2.2.2.1 ∧ ∀ a, a ≤ s.2.2.2.2 → M 28 a = N a ∧ M 29 a = n_pack (W a)
def Fr9 (M M' : mM) : Prop := (∀ p, p ≠ 26 → p ≠ 28 → p ≠ 29 → M' p = M p) ∧ M' 26 1 = M 26 1
theorem Fr9_rfl {M : mM} : Fr9 M M := ⟨fun _ _ _ _ => rfl, rfl⟩
theorem Fr9_trans {M M1 M2 : mM} (h1 : Fr9 M M1) (h2 : Fr9 M1 M2) : Fr9 M M2 := ⟨fun p a b c => (h2.1 p a b c).trans (h1.1 p a b c), h2.2.trans h1.2⟩
theorem Fr9_up {M : mM} {j : Nat} {v : Int} (hj : j ≠ 1) : Fr9 M (m_up M 26 j v) := ⟨fun p a _ _ => up_row a, up_slot (fun q => hj q.symm)⟩
theorem Fr9_up2 {M : mM} {p j : Nat} {v : Int} (hp : p = 28 ∨ p = 29) : Fr9 M (m_up M p j v) := ⟨fun q a b c => up_row (by omega), by rw [up_row (by omega)]⟩
theorem kc_begin {M : mM} {a : Nat} (ha : a < 6) : C_ kk_X9_begin [v_P 26, v_I (a : Int)] M (fun _ M' => M' 26 4 = a ∧ M' 26 5 = 0 ∧ M' 26 7 = 0 ∧ M' 26 8 = 0 ∧ M' 28 a = 0 ∧ M' 29 a = 0 ∧ (∀ b, b ≠ a → M' 28 b = M 28 b ∧ M' 29 b = M 29 b) ∧ Fr9 M M') := by
  refine c_intro (by decide) rfl (Nat.le_of_ble_eq_true rfl) (by simp [m_dv, Value.category]) (wp_X9_begin_0 ⟨by omega, by omega, fun M3 e3 => ?_⟩)
  subst e3
  rw [Int.toNat_natCast]
  refine ⟨by simp (disch := omega) only [up_row, up_slot, up_hit, su_row, su_slot, su_hit], by simp (disch := omega) only [up_row, up_slot, up_hit, su_row, su_slot, su_hit], by simp (disch := omega) only [up_row, up_slot, up_hit, su_row, su_slot, su_hit], by simp (disch := omega) only [up_row, up_slot, up_hit, su_row, su_slot, su_hit], by simp (disch := omega) only [up_row, up_slot, up_hit, su_row, su_slot, su_hit], by simp (disch := omega) only [up_row, up_slot, up_hit, su_row, su_slot, su_hit], fun b hb => ⟨by simp (disch := omega) only [up_row, up_slot, up_hit, su_row, su_slot, su_hit], by simp (disch := omega) only [up_row, up_slot, up_hit, su_row, su_slot, su_hit]⟩, ?_⟩
  exact Fr9_trans (Fr9_trans (Fr9_trans (Fr9_trans (Fr9_trans (Fr9_up (by decide)) (Fr9_up2 (by decide))) (Fr9_up2 (by decide))) (Fr9_up (by decide))) (Fr9_up (by decide))) (Fr9_up (by decide))
/-- what one sign does -/
def TQ (c : Nat) (s : P5) (N : Nat → Nat) (W : Nat → Nat → Nat) (M : mM) (r : Int) (M' : mM) : Prop := Fr9 M M' ∧ ((p_step c s = none ∧ r = 0) ∨ ∃ s', p_step c s = some s' ∧ r = 1 ∧ SR s' (p_n1 c s N) (p_w1 c s W) M')
theorem pack_w1 {W : Nat → Nat} {t v : Nat} (ht : t < 5) (h0 : W t = 0) : n_pack (fun u => if u = t then v else W u) = n_pack W + v * 2 ^ (5 * t) := by
  unfold n_pack
  rcases (show t = 0 ∨ t = 1 ∨ t = 2 ∨ t = 3 ∨ t = 4 by omega) with rfl | rfl | rfl | rfl | rfl <;> simp [h0] <;> omega
theorem kc_takes {M : mM} {c : Nat} {s : P5} {N : Nat → Nat} {W : Nat → Nat → Nat} (hc : c ≤ 126) (ho : p_ok s) (hi : p_in s N W) (h : SR s N W M) : C_ kk_X9_takes [v_P 26, v_I (c : Int)] M (fun r M' => (r = 0 ∨ r = 1) ∧ TQ c s N W M r M') := by
  obtain ⟨aw, ns, mn, dg, al⟩ := s
  obtain ⟨o1, o2, o3, o4, o5, o6, o7⟩ := ho
  obtain ⟨i1, i2, i3, i4, i5⟩ := hi
  obtain ⟨r1, r2, r3, r4, r5, r6⟩ := h
  dsimp only at r1 r2 r3 r4 r5 r6
  have N0 : aw ≤ 2 → p_n1 c (aw, ns, mn, dg, al) N = N := by
    intro q
    funext a
    unfold p_n1
    rw [if_neg (fun z => by have := z.1; dsimp only at this; omega)]
  have W0 : aw ≠ 1 → p_w1 c (aw, ns, mn, dg, al) W = W := by
    intro q
    funext a t
    unfold p_w1
    rw [if_neg (fun z => q z.1)]
  have cCount : (aw = 0 ∨ aw = 2 ∧ c ≠ 61) → C_ kk_X9_takesCount [v_P 26, v_I (c : Int)] M (fun r M' => (r = 0 ∨ r = 1) ∧ TQ c (aw, ns, mn, dg, al) N W M r M') := by
    intro ha
    have hst : p_step c (aw, ns, mn, dg, al) = if 49 ≤ c ∧ c ≤ 57 ∧ ns < 5 then some (1, ns, c - 48, dg, al) else none := by
      rw [p_step_eq]
      rw [if_neg (by omega), if_neg (by omega), if_pos (by omega)]
    have no : ¬ (49 ≤ c ∧ c ≤ 57 ∧ ns < 5) → (((0 : Int) = 0 ∨ (0 : Int) = 1) ∧ TQ c (aw, ns, mn, dg, al) N W M 0 M) := fun q => ⟨Or.inl rfl, Fr9_rfl, Or.inl ⟨by rw [hst, if_neg q], rfl⟩⟩
    refine c_intro (by decide) rfl (Nat.le_of_ble_eq_true rfl) (by simp [m_dv, Value.category]) (wp_X9_takesCount_0 ?_)
    rw [r4]
    refine ⟨fun q => no (by omega), fun q => ⟨fun q2 => no (by omega), fun q2 => ⟨fun q3 => ⟨⟨by omega, by omega⟩, Or.inr rfl, Fr9_trans (Fr9_up (by decide)) (Fr9_up (by decide)), Or.inr ⟨_, by rw [hst, if_pos (by omega)], rfl, ?_⟩⟩, fun q3 => no (by omega)⟩⟩⟩
    rw [N0 (by omega), W0 (by omega)]
    refine ⟨by simp (disch := omega) only [up_row, up_slot, up_hit, su_row, su_slot, su_hit]; exact r1, by simp (disch := omega) only [up_row, up_slot, up_hit, su_row, su_slot, su_hit]; rfl, fun _ => by simp (disch := omega) only [up_row, up_slot, up_hit, su_row, su_slot, su_hit]; (try dsimp only); omega, by simp (disch := omega) only [up_row, up_slot, up_hit, su_row, su_slot, su_hit]; exact r4, by simp (disch := omega) only [up_row, up_slot, up_hit, su_row, su_slot, su_hit]; exact r5, fun a ha => by simp (disch := omega) only [up_row, up_slot, up_hit, su_row, su_slot, su_hit]; exact r6 a ha⟩
  have cDigit : (aw = 3 ∨ aw = 4 ∧ c ≠ 124) → C_ kk_X9_takesDigit [v_P 26, v_I (c : Int)] M (fun r M' => (r = 0 ∨ r = 1) ∧ TQ c (aw, ns, mn, dg, al) N W M r M') := by
    intro ha
    have hst : p_step c (aw, ns, mn, dg, al) = if 48 ≤ c ∧ c ≤ 57 ∧ dg < 3 then some (4, ns, mn, dg + 1, al) else none := by
      rw [p_step_eq]
      rw [if_neg (by omega), if_neg (by omega), if_neg (by omega), if_neg (by omega)]
    have no : ¬ (48 ≤ c ∧ c ≤ 57 ∧ dg < 3) → (((0 : Int) = 0 ∨ (0 : Int) = 1) ∧ TQ c (aw, ns, mn, dg, al) N W M 0 M) := fun q => ⟨Or.inl rfl, Fr9_rfl, Or.inl ⟨by rw [hst, if_neg q], rfl⟩⟩
    refine c_intro (by decide) rfl (Nat.le_of_ble_eq_true rfl) (by simp [m_dv, Value.category]) (wp_X9_takesDigit_0 ?_)
    rw [r5, r1]
    have hN := i1 al
    have r28 := (r6 al (Nat.le_refl _)).1
    rw [Int.toNat_natCast, r28]
    refine ⟨fun q => no (by omega), fun q => ⟨fun q2 => no (by omega), fun q2 => ⟨fun q3 => ⟨by omega, ⟨by omega, by omega⟩, ⟨by omega, by omega⟩, ⟨by omega, by omega⟩, by omega, fun M6 e6 => ⟨⟨by omega, by omega⟩, Or.inr rfl, ?_, Or.inr ⟨_, by rw [hst, if_pos (by omega)], rfl, ?_⟩⟩⟩, fun q3 => no (by omega)⟩⟩⟩
    · subst e6
      exact Fr9_trans (Fr9_trans (Fr9_up2 (by decide)) (Fr9_up (by decide))) (Fr9_up (by decide))
    · subst e6
      rw [W0 (by omega)]
      refine ⟨by simp (disch := omega) only [up_row, up_slot, up_hit, su_row, su_slot, su_hit]; exact r1, by simp (disch := omega) only [up_row, up_slot, up_hit, su_row, su_slot, su_hit]; rfl, fun z => by dsimp only at z; omega, by simp (disch := omega) only [up_row, up_slot, up_hit, su_row, su_slot, su_hit]; exact r4, by simp (disch := omega) only [up_row, up_slot, up_hit, su_row, su_slot, su_hit]; (try dsimp only); omega, fun a ha2 => ?_⟩
      dsimp only at ha2
      by_cases e : a = al
      · subst e
        simp (disch := omega) only [up_row, up_slot, up_hit, su_row, su_slot, su_hit]
        refine ⟨?_, (r6 a ha2).2⟩
        unfold p_n1
        rw [if_pos ⟨by dsimp only; omega, by omega, rfl⟩]
        omega
      · simp (disch := omega) only [up_row, up_slot, up_hit, su_row, su_slot, su_hit]
        refine ⟨?_, (r6 a ha2).2⟩
        unfold p_n1
        rw [if_neg (fun z => e z.2.2)]
        exact (r6 a ha2).1
  refine c_intro (by decide) rfl (Nat.le_of_ble_eq_true rfl) (by simp [m_dv, Value.category]) (wp_X9_takes_0 ?_)
  rw [r2]
  refine ⟨fun q => ⟨_, cCount (Or.inl (by omega)), fun r M' _ _ e => ⟨e.1, e⟩⟩, fun q => ?_, fun q => ⟨fun q2 => ⟨_, cCount (Or.inr ⟨by omega, by omega⟩), fun r M' _ _ e => ⟨e.1, e⟩⟩, fun q2 => ?_⟩, fun q => ⟨_, cDigit (Or.inl (by omega)), fun r M' _ _ e => ⟨e.1, e⟩⟩, fun q => ⟨fun q2 => ⟨_, cDigit (Or.inr ⟨by omega, by omega⟩), fun r M' _ _ e => ⟨e.1, e⟩⟩, fun q2 => ?_⟩⟩
  · have ha : aw = 1 := by omega
    subst ha
    have hmn := o5 rfl
    have r26 := r3 rfl
    have hst : p_step c (1, ns, mn, dg, al) = if 97 + ns ≤ c ∧ c ≤ 101 then some (2, c - 96, mn, dg, al) else none := by
      rw [p_step_eq]
      rw [if_pos rfl]
    have no : ¬ (97 + ns ≤ c ∧ c ≤ 101) → (((0 : Int) = 0 ∨ (0 : Int) = 1) ∧ TQ c (1, ns, mn, dg, al) N W M 0 M) := fun q => ⟨Or.inl rfl, Fr9_rfl, Or.inl ⟨by rw [hst, if_neg q], rfl⟩⟩
    refine ⟨_, c_intro (by decide) rfl (Nat.le_of_ble_eq_true rfl) (by simp [m_dv, Value.category]) (wp_X9_takesLetter_0 (Q := fun r M' => (r = 0 ∨ r = 1) ∧ TQ c (1, ns, mn, dg, al) N W M r M') ?_), fun r M' _ _ e => ⟨e.1, e⟩⟩
    rw [r4, r1, r26]
    refine ⟨⟨by omega, by omega⟩, fun q2 => no (by omega), fun q2 => ⟨fun q3 => ⟨by omega, ?_⟩, fun q3 => no (by omega)⟩⟩
    have ec : (c : Int) - 97 = ((c - 97 : Nat) : Int) := by omega
    rw [ec]
    refine ⟨_, c_one (s := c - 97) (by omega), fun r4' M5 _ _ e5 => ?_⟩
    obtain ⟨rfl, rfl⟩ := e5
    have r29 := (r6 al (Nat.le_refl _)).2
    have hpl : n_pack (W al) < 2 ^ 24 := g_lt (fun t _ => by have := i2 al t; omega)
    have hp2 : 2 ^ (5 * (c - 97)) ≤ 2 ^ 20 := Nat.pow_le_pow_right (by decide) (by omega)
    have hp3 : mn * 2 ^ (5 * (c - 97)) ≤ 9 * 2 ^ 20 := Nat.mul_le_mul hmn.2.1 hp2
    have em : (mn : Int) * ((2 ^ (5 * (c - 97)) : Nat) : Int) = ((mn * 2 ^ (5 * (c - 97)) : Nat) : Int) := by rw [Int.natCast_mul]
    rw [Int.toNat_natCast, r29]
    rw [em]
    generalize hg : mn * 2 ^ (5 * (c - 97)) = g at hp3
    refine ⟨⟨by omega, by omega⟩, ⟨by omega, by omega⟩, by omega, fun M13 e13 => ⟨⟨by omega, by omega⟩, Or.inr rfl, ?_, Or.inr ⟨_, by rw [hst, if_pos (by omega)], rfl, ?_⟩⟩⟩
    · subst e13
      exact Fr9_trans (Fr9_trans (Fr9_up2 (by decide)) (Fr9_up (by decide))) (Fr9_up (by decide))
    · subst e13
      rw [N0 (by omega)]
      refine ⟨by simp (disch := omega) only [up_row, up_slot, up_hit, su_row, su_slot, su_hit]; exact r1, by simp (disch := omega) only [up_row, up_slot, up_hit, su_row, su_slot, su_hit]; rfl, fun z => by dsimp only at z; omega, by simp (disch := omega) only [up_row, up_slot, up_hit, su_row, su_slot, su_hit]; (try dsimp only); omega, by simp (disch := omega) only [up_row, up_slot, up_hit, su_row, su_slot, su_hit]; exact r5, fun a ha2 => ?_⟩
      dsimp only at ha2
      by_cases e : a = al
      · subst e
        simp (disch := omega) only [up_row, up_slot, up_hit, su_row, su_slot, su_hit]
        refine ⟨(r6 a ha2).1, ?_⟩
        have e1 : p_w1 c (1, ns, mn, dg, a) W a = fun u => if u = c - 97 then mn else W a u := by
          funext u
          unfold p_w1
          dsimp only
          by_cases z : u = c - 97
          · rw [if_pos ⟨rfl, rfl, z⟩, if_pos z]
          · rw [if_neg (fun y => z y.2.2), if_neg z]
        rw [e1, pack_w1 (by omega) (i5 _ (by omega)), hg]
        omega
      · simp (disch := omega) only [up_row, up_slot, up_hit, su_row, su_slot, su_hit]
        refine ⟨(r6 a ha2).1, ?_⟩
        have e1 : p_w1 c (1, ns, mn, dg, al) W a = W a := by
          funext u
          unfold p_w1
          rw [if_neg (fun y => e y.2.1)]
        rw [e1]
        exact (r6 a ha2).2
  · have ha : aw = 2 := by omega
    subst ha
    have hst : p_step c (2, ns, mn, dg, al) = some (3, ns, mn, dg, al) := by
      rw [p_step_eq]
      rw [if_neg (by omega), if_pos ⟨rfl, by omega⟩]
    refine ⟨_, c_intro (by decide) rfl (Nat.le_of_ble_eq_true rfl) (by simp [m_dv, Value.category]) (wp_X9_takesEquals_0 (Q := fun r M' => (r = 0 ∨ r = 1) ∧ TQ c (2, ns, mn, dg, al) N W M r M') ⟨Or.inr rfl, Fr9_up (by decide), Or.inr ⟨_, hst, rfl, ?_⟩⟩), fun r M' _ _ e => ⟨e.1, e⟩⟩
    rw [N0 (by omega), W0 (by omega)]
    exact ⟨by simp (disch := omega) only [up_row, up_slot, up_hit, su_row, su_slot, su_hit]; exact r1, by simp (disch := omega) only [up_row, up_slot, up_hit, su_row, su_slot, su_hit]; rfl, fun z => by dsimp only at z; omega, by simp (disch := omega) only [up_row, up_slot, up_hit, su_row, su_slot, su_hit]; exact r4, by simp (disch := omega) only [up_row, up_slot, up_hit, su_row, su_slot, su_hit]; exact r5, fun a ha => by simp (disch := omega) only [up_row, up_slot, up_hit, su_row, su_slot, su_hit]; exact r6 a ha⟩
  · have ha : aw = 4 := by omega
    subst ha
    have hst : p_step c (4, ns, mn, dg, al) = if al < 5 then some (0, 0, mn, 0, al + 1) else none := by
      rw [p_step_eq]
      rw [if_neg (by omega), if_neg (by omega), if_neg (by omega), if_pos ⟨rfl, by omega⟩]
    refine ⟨_, c_intro (by decide) rfl (Nat.le_of_ble_eq_true rfl) (by simp [m_dv, Value.category]) (wp_X9_takesBar_0 (Q := fun r M' => (r = 0 ∨ r = 1) ∧ TQ c (4, ns, mn, dg, al) N W M r M') ?_), fun r M' _ _ e => ⟨e.1, e⟩⟩
    rw [r1]
    refine ⟨fun q3 => ⟨⟨by omega, by omega⟩, _, kc_begin (a := al + 1) (by omega), fun r3 M4 _ _ e4 => ?_⟩, fun q3 => ⟨Or.inl rfl, Fr9_rfl, Or.inl ⟨by rw [hst, if_neg (by omega)], rfl⟩⟩⟩
    obtain ⟨b1, b2, b3, b4, b5, b6, b7, b8⟩ := e4
    refine ⟨Or.inr rfl, b8, Or.inr ⟨_, by rw [hst, if_pos (by omega)], rfl, ?_⟩⟩
    have N1 : p_n1 c (4, ns, mn, dg, al) N = N := by
      funext a
      unfold p_n1
      rw [if_neg (fun z => z.2.1 (by omega))]
    rw [N1, W0 (by omega)]
    refine ⟨b1, b2, fun z => by dsimp only at z; omega, b3, b4, fun a ha => ?_⟩
    dsimp only at ha
    by_cases e : a = al + 1
    · subst e
      obtain ⟨z1, z2⟩ := i3 (al + 1) (by omega)
      rw [b5, b6, z1]
      refine ⟨rfl, ?_⟩
      have : n_pack (W (al + 1)) = 0 := by
        unfold n_pack
        rw [z2, z2, z2, z2, z2]
      rw [this]
      rfl
    · rw [(b7 a e).1, (b7 a e).2]
      exact r6 a (by omega)
