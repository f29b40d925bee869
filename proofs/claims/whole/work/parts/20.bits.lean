/-! bits of the machine's ints, as natural numbers -/
theorem b_nI (n : Nat) : Int32.ofInt (n : Int) = nI n := by
  apply Int32.toBitVec_inj.1
  show BitVec.ofInt 32 (n : Int) = BitVec.ofNat 32 n
  exact BitVec.ofInt_natCast 32 n
theorem b_toInt {n : Nat} (h : n < 2 ^ 31) : (nI n).toInt = (n : Int) := nI_toInt h
theorem fa_and (a b : Nat) : nI a &&& nI b = nI (a &&& b) := by
  apply Int32.toBitVec_inj.1
  show BitVec.ofNat 32 a &&& BitVec.ofNat 32 b = BitVec.ofNat 32 (a &&& b)
  apply BitVec.eq_of_getLsbD_eq
  intro i hi
  simp [hi]
theorem fa_or (a b : Nat) : nI a ||| nI b = nI (a ||| b) := by
  apply Int32.toBitVec_inj.1
  show BitVec.ofNat 32 a ||| BitVec.ofNat 32 b = BitVec.ofNat 32 (a ||| b)
  apply BitVec.eq_of_getLsbD_eq
  intro i hi
  simp [hi]
theorem b_and {a b : Nat} (ha : a < 2 ^ 31) : m_and (a : Int) (b : Int) = ((a &&& b : Nat) : Int) := by
  unfold m_and
  rw [b_nI, b_nI, fa_and, b_toInt (Nat.lt_of_le_of_lt Nat.and_le_left ha)]
theorem b_and' {a b : Nat} (hb : b < 2 ^ 31) : m_and (a : Int) (b : Int) = ((a &&& b : Nat) : Int) := by
  unfold m_and
  rw [b_nI, b_nI, fa_and, b_toInt (Nat.lt_of_le_of_lt Nat.and_le_right hb)]
theorem b_or {a b : Nat} (ha : a < 2 ^ 31) (hb : b < 2 ^ 31) : m_or (a : Int) (b : Int) = ((a ||| b : Nat) : Int) := by
  unfold m_or
  rw [b_nI, b_nI, fa_or, b_toInt (Nat.or_lt_two_pow ha hb)]
theorem b_31 {l : Nat} (h : l < 32) : (nI l &&& 31) = nI l := by
  show nI l &&& nI (2 ^ 5 - 1) = nI l
  rw [fa_and, Nat.and_two_pow_sub_one_eq_mod, Nat.mod_eq_of_lt h]
theorem b_sm {l : Nat} (h : l < 32) : ((nI l).toBitVec.smod 32).toNat = l := by
  have e : ∀ l : Fin 32, ((nI l.val).toBitVec.smod 32).toNat = l.val := by decide
  exact e ⟨l, h⟩
theorem b_shl {a l : Nat} (hl : l < 32) (h : a * 2 ^ l < 2 ^ 31) : m_shl (a : Int) (l : Int) = ((a * 2 ^ l : Nat) : Int) := by
  unfold m_shl
  rw [b_nI, b_nI, b_31 hl, pk_shlN _ l (b_sm hl) (by omega), b_toInt h]
theorem b_shl1 {l : Nat} (hl : l < 31) : m_shl 1 (l : Int) = ((2 ^ l : Nat) : Int) := by
  have h : 2 ^ l < 2 ^ 31 := Nat.pow_lt_pow_right (by decide) hl
  have := b_shl (a := 1) (l := l) (by omega) (by omega)
  rw [Nat.one_mul] at this
  exact this
theorem b_shr {a l : Nat} (hl : l < 32) (h : a < 2 ^ 31) : m_shr (a : Int) (l : Int) = ((a / 2 ^ l : Nat) : Int) := by
  unfold m_shr
  have h2 : a / 2 ^ l ≤ a := Nat.div_le_self _ _
  rw [b_nI, b_nI, b_31 hl, pk_shrN h _ l (b_sm hl), b_toInt (by omega)]
/-- the bit l of a -/
theorem b_bit {a l : Nat} (hl : l < 32) (h : a < 2 ^ 31) : m_and (m_shr (a : Int) (l : Int)) 1 = if a.testBit l then 1 else 0 := by
  rw [b_shr hl h]
  have e := b_and' (a := a / 2 ^ l) (b := 1) (by decide)
  rw [show ((1 : Nat) : Int) = 1 from rfl] at e
  rw [e, Nat.and_one_is_mod, Nat.testBit_eq_decide_div_mod_eq]
  have h2 : a / 2 ^ l % 2 < 2 := Nat.mod_lt _ (by decide)
  rcases (show a / 2 ^ l % 2 = 0 ∨ a / 2 ^ l % 2 = 1 by omega) with q | q <;> simp [q]
/-- a without the bits of b -/
def b_nd (a b : Nat) : Nat := a ^^^ (a &&& b)
theorem b_nd_bit (a b i : Nat) : (b_nd a b).testBit i = (a.testBit i && !b.testBit i) := by
  unfold b_nd
  rw [Nat.testBit_xor, Nat.testBit_and]
  cases a.testBit i <;> cases b.testBit i <;> rfl
theorem b_nd_le (a b : Nat) : b_nd a b ≤ a := by
  apply Nat.le_of_testBit
  intro i h
  rw [b_nd_bit] at h
  cases h1 : a.testBit i
  · rw [h1] at h; cases h
  · rfl
theorem b_not {a b : Nat} (ha : a < 2 ^ 31) : m_and (a : Int) (m_xor (b : Int) (-1)) = ((b_nd a b : Nat) : Int) := by
  unfold m_and m_xor
  rw [m_ofI]
  have e : Int32.ofInt (a : Int) &&& (Int32.ofInt (b : Int) ^^^ Int32.ofInt (-1)) = nI (b_nd a b) := by
    rw [b_nI, b_nI]
    apply Int32.toBitVec_inj.1
    show BitVec.ofNat 32 a &&& (BitVec.ofNat 32 b ^^^ BitVec.ofInt 32 (-1)) = BitVec.ofNat 32 (b_nd a b)
    apply BitVec.eq_of_getLsbD_eq
    intro i hi
    have e1 : BitVec.ofInt 32 (-1) = BitVec.allOnes 32 := by decide
    rw [e1]
    simp only [BitVec.getLsbD_and, BitVec.getLsbD_xor, BitVec.getLsbD_ofNat, BitVec.getLsbD_allOnes, b_nd_bit, hi, decide_true, Bool.true_and, Bool.xor_true]
  rw [e, b_toInt (Nat.lt_of_le_of_lt (b_nd_le a b) ha)]
theorem b_not' {a b : Nat} (ha : a < 2 ^ 31) : m_and (m_xor (b : Int) (-1)) (a : Int) = ((b_nd a b : Nat) : Int) := by
  rw [← b_not ha]
  unfold m_and
  congr 1
  apply Int32.toBitVec_inj.1
  exact BitVec.and_comm _ _
/-! what a memory holds behind a write -/
theorem up_eq {M : mM} {p j a b : Nat} {v : Int} : m_up M p j v a b = if a = p ∧ b = j then v else M a b := rfl
theorem cp_eq {M : mM} {qa sp qb dp n a b : Nat} : m_cp M qa sp qb dp n a b = if a = qb ∧ dp ≤ b ∧ b < dp + n then M qa (sp + (b - dp)) else M a b := rfl
