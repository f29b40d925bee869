/-! THE STATE THAT BOTH SIDES HOLD: 0 lots, 1 sort, 2 clock, 3 least, 4 order, 5 buyers, 6 coin, 7 cut, 8 mark, 9 alternatives of a buyer, 10 what an alternative (6 b + i) brings, 11 what it wants (5 a + sort), 12 left out (bits), 13 top, 14 prices, 15 lessons, 16 their tops, 17 signs, 18 their codes -/
abbrev St : Type := Nat → Nat → Nat
def s_up (σ : St) (f i v : Nat) : St := fun a b => if a = f ∧ b = i then v else σ a b
theorem up_row {M : mM} {p j q : Nat} {v : Int} (h : q ≠ p) : m_up M p j v q = M q := by
  funext i
  exact m_up_ne (Or.inl h)
theorem up_slot {M : mM} {p j i : Nat} {v : Int} (h : i ≠ j) : m_up M p j v p i = M p i := m_up_ne (Or.inr h)
theorem up_hit {M : mM} {p j : Nat} {v : Int} : m_up M p j v p j = v := m_up_same M p j v
theorem su_row {σ : St} {f i g v : Nat} (h : g ≠ f) : s_up σ f i v g = σ g := by
  funext k
  unfold s_up
  rw [if_neg (fun q => h q.1)]
theorem su_slot {σ : St} {f i k v : Nat} (h : k ≠ i) : s_up σ f i v f k = σ f k := by
  unfold s_up
  rw [if_neg (fun q => h q.2)]
theorem su_hit {σ : St} {f i v : Nat} : s_up σ f i v f i = v := by
  unfold s_up
  rw [if_pos ⟨rfl, rfl⟩]
/-- so many of each sort, five bits each -/
def n_need (σ : St) (a : Nat) : Nat := σ 11 (5 * a) + 32 * (σ 11 (5 * a + 1) + 32 * (σ 11 (5 * a + 2) + 32 * (σ 11 (5 * a + 3) + 32 * σ 11 (5 * a + 4))))
/-- what holds of every state -/
def Wf (σ : St) : Prop :=
  σ 0 0 ≤ 8 ∧ (∀ j, j < σ 0 0 → σ 1 j < 5 ∧ σ 2 j < 3 ∧ σ 3 j ≤ 200 ∧ σ 4 j < σ 0 0) ∧ (∀ i j, i < σ 0 0 → j < σ 0 0 → σ 4 i = σ 4 j → i = j) ∧
  σ 5 0 ≤ 6 ∧ (∀ b, b < 6 → σ 6 b ≤ 1000 ∧ σ 7 b ≤ 99 ∧ σ 8 b ≤ 99 ∧ σ 9 b ≤ 6 ∧ σ 12 b < 2 ^ σ 9 b ∧ ∀ i, i < σ 9 b → σ 10 (6 * b + i) ≤ 999 ∧ ∀ s, s < 5 → σ 11 (5 * (6 * b + i) + s) ≤ 9) ∧
  (∀ b, σ 5 0 ≤ b → b < 6 → σ 6 b = 200 ∧ σ 7 b = 10 ∧ σ 8 b = 50 ∧ σ 9 b = 0) ∧ (1 ≤ σ 13 0 ∧ σ 13 0 ≤ 200) ∧ (∀ l, l < 8 → σ 14 l ≤ 1000) ∧
  σ 15 0 ≤ 8 ∧ (∀ d, d < σ 15 0 → 1 ≤ σ 16 d ∧ σ 16 d ≤ 200) ∧ σ 17 0 ≤ 50 ∧ (∀ i, i < σ 17 0 → 33 ≤ σ 18 i ∧ σ 18 i ≤ 126)
/-- the hall of the class: a buyer's bits left out are those of 'left' and 'trial' together -/
def HL (σ : St) (M : mM) : Prop := M 1 0 = σ 0 0 ∧ ∀ j, j < σ 0 0 → M 2 j = ((2 ^ (5 * σ 1 j) : Nat) : Int) ∧ M 3 j = σ 2 j ∧ M 4 j = σ 3 j ∧ M 6 j = j
def HB1 (σ : St) (M : mM) (b : Nat) : Prop := M (8 + 3 * b) 0 = σ 6 b ∧ M (8 + 3 * b) 1 = σ 7 b ∧ M (8 + 3 * b) 2 = σ 8 b ∧ M (8 + 3 * b) 3 = σ 9 b ∧ m_or (M (8 + 3 * b) 6) (M (8 + 3 * b) 7) = σ 12 b ∧ ∀ i, i < σ 9 b → M (8 + 3 * b + 1) i = σ 10 (6 * b + i) ∧ M (8 + 3 * b + 2) i = n_need σ (6 * b + i)
def HB (σ : St) (M : mM) : Prop := M 1 6 = σ 5 0 ∧ M 1 8 = σ 13 0 ∧ ∀ b, b < 6 → HB1 σ M b
def HO (σ : St) (M : mM) : Prop := ∀ j, j < σ 0 0 → M 5 j = σ 4 j
def HT (σ : St) (M : mM) : Prop := ∀ b, b < 6 → M (8 + 3 * b) 6 = σ 12 b ∧ M (8 + 3 * b) 7 = 0
def HS (σ : St) (M : mM) : Prop := M 26 1 = σ 17 0 ∧ ∀ i, i < σ 17 0 → M 27 i = σ 18 i
def HP (σ : St) (M : mM) : Prop := ∀ l, l < 8 → M 61 l = σ 14 l
def HE (σ : St) (M : mM) : Prop := M 75 2 = σ 15 0 ∧ ∀ d, d < σ 15 0 → M 76 d = σ 16 d
/-- the class holds σ -/
def CR (σ : St) (M : mM) : Prop := HL σ M ∧ HB σ M ∧ HO σ M ∧ HT σ M ∧ HS σ M ∧ HP σ M ∧ HE σ M
/-- the reference holds σ -/
def MR (σ : St) (M : mM) : Prop :=
  M 79 4 = σ 0 0 ∧ (∀ j, j < σ 0 0 → M 80 j = σ 1 j ∧ M 81 j = σ 2 j ∧ M 82 j = σ 3 j ∧ M 83 j = σ 4 j) ∧
  M 79 8 = σ 5 0 ∧ M 79 9 = σ 13 0 ∧ (∀ b, b < σ 5 0 → M 84 b = σ 6 b ∧ M 85 b = σ 7 b ∧ M 86 b = σ 8 b) ∧
  (∀ b, b < 6 → M 90 b = σ 9 b ∧ M 91 b = σ 12 b ∧ ∀ i, i < σ 9 b → M 89 (6 * b + i) = σ 10 (6 * b + i) ∧ ∀ s, s < 5 → M 88 (5 * (6 * b + i) + s) = σ 11 (5 * (6 * b + i) + s)) ∧
  M 79 11 = σ 17 0 ∧ (∀ i, i < σ 17 0 → M 87 i = σ 18 i) ∧ (∀ l, l < 8 → M 101 l = σ 14 l) ∧ M 79 36 = σ 15 0 ∧ (∀ d, d < σ 15 0 → M 108 d = σ 16 d)
/-- the class writes nothing of the reference's, and the other way round -/
def FrC (M M' : mM) : Prop := ∀ p, 79 ≤ p → M' p = M p
def FrM (M M' : mM) : Prop := ∀ p, p < 79 → M' p = M p
/-- what is kept of ORDERS and BREAK is forgotten, or as it was -/
def FrK (M M' : mM) : Prop := (M' 70 7 = 0 ∧ M' 74 4 = 0) ∨ ∀ p, 70 ≤ p → p < 75 → M' p = M p
theorem CR_of {σ : St} {M M' : mM} (h : CR σ M) (hf : ∀ p, p < 79 → M' p = M p) : CR σ M' := by
  obtain ⟨⟨h1, h2⟩, ⟨h3, h4, h5⟩, h6, h7, ⟨h8, h9⟩, h10, ⟨h11, h12⟩⟩ := h
  refine ⟨⟨?_, fun j hj => ?_⟩, ⟨?_, ?_, fun b hb => ?_⟩, fun j hj => ?_, fun b hb => ?_, ⟨?_, fun i hi => ?_⟩, fun l hl => ?_, ⟨?_, fun d hd => ?_⟩⟩
  · rw [hf 1 (by omega)]; exact h1
  · rw [hf 2 (by omega), hf 3 (by omega), hf 4 (by omega), hf 6 (by omega)]; exact h2 j hj
  · rw [hf 1 (by omega)]; exact h3
  · rw [hf 1 (by omega)]; exact h4
  · unfold HB1
    rw [hf (8 + 3 * b) (by omega), hf (8 + 3 * b + 1) (by omega), hf (8 + 3 * b + 2) (by omega)]; exact h5 b hb
  · rw [hf 5 (by omega)]; exact h6 j hj
  · rw [hf (8 + 3 * b) (by omega)]; exact h7 b hb
  · rw [hf 26 (by omega)]; exact h8
  · rw [hf 27 (by omega)]; exact h9 i hi
  · rw [hf 61 (by omega)]; exact h10 l hl
  · rw [hf 75 (by omega)]; exact h11
  · rw [hf 76 (by omega)]; exact h12 d hd
theorem MR_of {σ : St} {M M' : mM} (h : MR σ M) (hf : ∀ p, 79 ≤ p → M' p = M p) : MR σ M' := by
  unfold MR at h ⊢
  simp only [hf 79 (by omega), hf 80 (by omega), hf 81 (by omega), hf 82 (by omega), hf 83 (by omega), hf 84 (by omega), hf 85 (by omega), hf 86 (by omega), hf 87 (by omega), hf 88 (by omega), hf 89 (by omega), hf 90 (by omega), hf 91 (by omega), hf 101 (by omega), hf 108 (by omega)]
  exact h
/-! the calls' own answers: what is answered, the state behind it -/
def sp_lot (σ : St) (a b c : Int) : Int × St := if a < 0 ∨ 4 < a ∨ b < 0 ∨ 2 < b ∨ c < 0 ∨ 200 < c then (-2, σ) else if 8 ≤ σ 0 0 then (-4, σ) else (σ 0 0, s_up (s_up (s_up (s_up (s_up σ 1 (σ 0 0) a.toNat) 2 (σ 0 0) b.toNat) 3 (σ 0 0) c.toNat) 4 (σ 0 0) (σ 0 0)) 0 0 (σ 0 0 + 1))
theorem c_forget {M : mM} : C_ kk_X10_forget [v_P 0] M (fun _ M' => M' = m_up (m_up M 70 7 0) 74 4 0) :=
  c_intro (by decide) rfl (Nat.le_of_ble_eq_true rfl) (by simp [m_dv, Value.category]) (wp_X10_forget_0 rfl)
theorem c_one {M : mM} {s : Nat} (hs : s < 5) : C_ kk_X3_one [v_I s] M (fun r M' => M' = M ∧ r = ((2 ^ (5 * s) : Nat) : Int)) :=
  c_intro (by decide) rfl (Nat.le_of_ble_eq_true rfl) (by simp [m_dv, Value.category]) (wp_X3_one_0 ⟨⟨by omega, by omega⟩, rfl, b_shl1 (l := 5 * s) (by omega)⟩)
theorem kc_lot {σ : St} {M : mM} {a b c : Int} (hw : Wf σ) (h : CR σ M) : C_ kk_X10_lot [v_P 0, v_I a, v_I b, v_I c] M (fun r M' => r = (sp_lot σ a b c).1 ∧ CR (sp_lot σ a b c).2 M' ∧ FrC M M' ∧ FrK M M') := by
  have triv : FrC M M ∧ FrK M M := ⟨fun _ _ => rfl, Or.inr fun _ _ _ => rfl⟩
  have h10 := h.1.1
  refine c_intro (by decide) rfl (Nat.le_of_ble_eq_true rfl) (by simp [m_dv, Value.category]) (wp_X10_lot_0 ⟨fun q => ?_, fun q1 => ⟨fun q => ?_, fun q2 => ⟨fun q => ?_, fun q3 => ⟨fun q4 => ?_, fun q4 => ?_⟩⟩⟩⟩)
  · unfold sp_lot; rw [if_pos (by omega)]; exact ⟨rfl, h, triv⟩
  · unfold sp_lot; rw [if_pos (by omega)]; exact ⟨rfl, h, triv⟩
  · unfold sp_lot; rw [if_pos (by omega)]; exact ⟨rfl, h, triv⟩
  · rw [h10] at q4
    obtain ⟨a', rfl⟩ : ∃ n : Nat, a = n := ⟨a.toNat, by omega⟩
    obtain ⟨b', rfl⟩ : ∃ n : Nat, b = n := ⟨b.toNat, by omega⟩
    obtain ⟨c', rfl⟩ : ∃ n : Nat, c = n := ⟨c.toNat, by omega⟩
    unfold sp_lot
    rw [if_neg (by omega), if_neg (by omega)]
    refine ⟨_, c_forget, fun r2 M3 _ _ e3 => ?_⟩
    have h3 : M3 1 0 = σ 0 0 := by rw [e3]; simp (disch := omega) only [up_row]; exact h10
    refine ⟨fun r M' => r = σ 0 0 ∧ M' = m_up (m_up (m_up (m_up (m_up (m_up M3 2 (σ 0 0) ((2 ^ (5 * a') : Nat) : Int)) 3 (σ 0 0) b') 4 (σ 0 0) c') 5 (σ 0 0) (σ 0 0)) 6 (σ 0 0) (σ 0 0)) 1 0 (σ 0 0 + 1), c_intro (by decide) rfl (Nat.le_of_ble_eq_true rfl) (by simp [m_dv, Value.category]) (wp_X6_addLot_0 ⟨_, c_one (s := a') (by omega), fun r4 M4 _ _ e4 => ?_⟩), fun r9 M10 _ _ e10 => ?_⟩
    · obtain ⟨rfl, rfl⟩ := e4
      simp only [h3, Int.toNat_natCast]
      refine ⟨by omega, by omega, by omega, fun M11 e11 => ⟨by omega, by omega, fun M15 e15 => ⟨⟨by omega, by omega⟩, ⟨by omega, by omega⟩, by omega, ?_⟩⟩⟩
      rw [e15, e11]
    · obtain ⟨rfl, rfl⟩ := e10
      subst e3
      obtain ⟨⟨g1, g2⟩, ⟨g3, g4, g5⟩, g6, g7, ⟨g8, g9⟩, g10, ⟨g11, g12⟩⟩ := h
      refine ⟨rfl, ⟨⟨?_, fun j hj => ?_⟩, ⟨?_, ?_, fun b hb => ?_⟩, fun j hj => ?_, fun b hb => ?_, ⟨?_, fun i hi => ?_⟩, fun l hl => ?_, ⟨?_, fun d hd => ?_⟩⟩, fun p hp => ?_, Or.inl ⟨?_, ?_⟩⟩
      · simp (disch := omega) only [up_row, up_slot, up_hit, su_row, su_slot, su_hit]; omega
      · simp (disch := omega) only [up_row, up_slot, up_hit, su_row, su_slot, su_hit, Int.toNat_natCast] at hj ⊢
        by_cases e : j = σ 0 0
        · subst e
          simp (disch := omega) only [up_row, up_slot, up_hit, su_row, su_slot, su_hit]
          exact ⟨trivial, trivial, trivial, trivial⟩
        · simp (disch := omega) only [up_row, up_slot, up_hit, su_row, su_slot, su_hit]
          exact g2 j (by omega)
      · simp (disch := omega) only [up_row, up_slot, up_hit, su_row, su_slot, su_hit]; exact g3
      · simp (disch := omega) only [up_row, up_slot, up_hit, su_row, su_slot, su_hit]; exact g4
      · unfold HB1 n_need
        simp (disch := omega) only [up_row, up_slot, up_hit, su_row, su_slot, su_hit]
        exact g5 b hb
      · simp (disch := omega) only [up_row, up_slot, up_hit, su_row, su_slot, su_hit] at hj ⊢
        by_cases e : j = σ 0 0
        · subst e
          simp (disch := omega) only [up_row, up_slot, up_hit, su_row, su_slot, su_hit]
        · simp (disch := omega) only [up_row, up_slot, up_hit, su_row, su_slot, su_hit]
          exact g6 j (by omega)
      · simp (disch := omega) only [up_row, up_slot, up_hit, su_row, su_slot, su_hit]; exact g7 b hb
      · simp (disch := omega) only [up_row, up_slot, up_hit, su_row, su_slot, su_hit]; exact g8
      · simp (disch := omega) only [up_row, up_slot, up_hit, su_row, su_slot, su_hit] at hi ⊢; exact g9 i hi
      · simp (disch := omega) only [up_row, up_slot, up_hit, su_row, su_slot, su_hit]; exact g10 l hl
      · simp (disch := omega) only [up_row, up_slot, up_hit, su_row, su_slot, su_hit]; exact g11
      · simp (disch := omega) only [up_row, up_slot, up_hit, su_row, su_slot, su_hit] at hd ⊢; exact g12 d hd
      · simp (disch := omega) only [up_row]
      · simp (disch := omega) only [up_row, up_slot, up_hit]
      · simp (disch := omega) only [up_row, up_slot, up_hit]
  · rw [h10] at q4
    unfold sp_lot; rw [if_neg (by omega), if_pos (by omega)]; exact ⟨rfl, h, triv⟩
