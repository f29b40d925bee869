/-! THE SMALL MACHINE: memory by places, mathematical ints, over the kit's rows -/
abbrev mM : Type := Nat → Nat → Int
abbrev mV : Type := Int ⊕ Int ⊕ Nat ⊕ Bool
abbrev v_I (x : Int) : mV := .inl x
abbrev v_L (x : Int) : mV := .inr (.inl x)
abbrev v_P (p : Nat) : mV := .inr (.inr (.inl p))
abbrev v_S : mV := .inr (.inr (.inr true))
abbrev v_U : mV := .inr (.inr (.inr false))
abbrev m_ir (x : Int) : Prop := -2147483648 ≤ x ∧ x ≤ 2147483647
def m_dv (ad : Nat → Nat) (b : Nat) : mV → Value
  | .inl x => .int (Int32.ofInt x)
  | .inr (.inl x) => .long (Int32.ofInt x).toInt64
  | .inr (.inr (.inl p)) => .ref (ad p)
  | .inr (.inr (.inr _)) => .ref b
def m_ok : mV → Prop
  | .inl x => m_ir x
  | .inr (.inl x) => m_ir x
  | _ => True
def m_oks (l : List mV) : Prop := ∀ v ∈ l, m_ok v
def m_okM (M : mM) : Prop := ∀ p j, m_ir (M p j)
def m_up (M : mM) (p j : Nat) (v : Int) : mM := fun a b => if a = p ∧ b = j then v else M a b
theorem m_up_same (M : mM) (p j : Nat) (v : Int) : m_up M p j v p j = v := by simp [m_up]
theorem m_up_ne {M : mM} {p j a b : Nat} {v : Int} (h : a ≠ p ∨ b ≠ j) : m_up M p j v a b = M a b := by
  unfold m_up
  rw [if_neg]
  intro q
  rcases h with h | h
  · exact h q.1
  · exact h q.2
theorem m_okM_up {M : mM} {p j : Nat} {v : Int} (h : m_okM M) (hv : m_ir v) : m_okM (m_up M p j v) := by
  intro a b
  unfold m_up
  split
  · exact hv
  · exact h a b
theorem m_oks_nil : m_oks [] := fun _ h => by cases h
theorem m_oks_cons {v : mV} {l : List mV} (h1 : m_ok v) (h2 : m_oks l) : m_oks (v :: l) := fun w h => by
  rcases List.mem_cons.mp h with rfl | h
  · exact h1
  · exact h2 w h
theorem m_oks_tail {v : mV} {l : List mV} (h : m_oks (v :: l)) : m_oks l := fun w hw => h w (List.mem_cons_of_mem _ hw)
theorem m_oks_head {v : mV} {l : List mV} (h : m_oks (v :: l)) : m_ok v := h v List.mem_cons_self
theorem m_oks_at {l : List mV} {i : Nat} {v : mV} (h : m_oks l) (hi : l[i]? = some v) : m_ok v := h v (List.mem_of_getElem? hi)
theorem m_oks_set {l : List mV} {i : Nat} {v : mV} (h : m_oks l) (hv : m_ok v) : m_oks (l.set i v) := fun w hw => by
  rcases List.mem_or_eq_of_mem_set hw with q | q
  · exact h w q
  · exact q ▸ hv
/-! ints -/
theorem m_toInt {x : Int} (h : m_ir x) : (Int32.ofInt x).toInt = x := Int32.toInt_ofInt_of_le (by have := h.1; omega) (by have := h.2; omega)
theorem m_lt {x y : Int} (hx : m_ir x) (hy : m_ir y) : Int32.ofInt x < Int32.ofInt y ↔ x < y := by rw [Int32.lt_iff_toInt_lt, m_toInt hx, m_toInt hy]
theorem m_le {x y : Int} (hx : m_ir x) (hy : m_ir y) : Int32.ofInt x ≤ Int32.ofInt y ↔ x ≤ y := by rw [Int32.le_iff_toInt_le, m_toInt hx, m_toInt hy]
theorem m_eq {x y : Int} (hx : m_ir x) (hy : m_ir y) : Int32.ofInt x = Int32.ofInt y ↔ x = y := by
  constructor
  · intro h
    have := congrArg Int32.toInt h
    rwa [m_toInt hx, m_toInt hy] at this
  · intro h
    rw [h]
theorem m_zero : (0 : Int32) = Int32.ofInt 0 := by decide
theorem m_ir0 : m_ir 0 := ⟨by omega, by omega⟩
theorem m_irI (x : Int32) : m_ir x.toInt := ⟨Int32.le_toInt x, by have := Int32.toInt_lt x; omega⟩
theorem m_ofI (x : Int32) : Int32.ofInt x.toInt = x := Int32.ofInt_toInt x
theorem m_in {i : Int} {n : Nat} (h : m_ir i) (h0 : 0 ≤ i) (h1 : i < n) : vp_in (Int32.ofInt i) n := vp_in_iff.mpr (by rw [m_toInt h]; exact ⟨h0, h1⟩)
theorem m_clamp {i : Int} (h : m_ir i) : (Int32.ofInt i).toNatClampNeg = i.toNat := by
  show (Int32.ofInt i).toInt.toNat = i.toNat
  rw [m_toInt h]
def m_and (x y : Int) : Int := (Int32.ofInt x &&& Int32.ofInt y).toInt
def m_or (x y : Int) : Int := (Int32.ofInt x ||| Int32.ofInt y).toInt
def m_xor (x y : Int) : Int := (Int32.ofInt x ^^^ Int32.ofInt y).toInt
def m_shl (x y : Int) : Int := (Int32.ofInt x <<< (Int32.ofInt y &&& 31)).toInt
def m_shr (x y : Int) : Int := (Int32.ofInt x >>> (Int32.ofInt y &&& 31)).toInt
def m_ushr (x y : Int) : Int := ((Int32.ofInt x).toUInt32 >>> ((Int32.ofInt y).toUInt32 &&& Int32.toUInt32 31)).toInt32.toInt
/-! cells -/
def m_fv (ad : Nat → Nat) (M : mM) (p ci j : Nat) : Value := if m_fk ci j = 2 then .ref (ad (m_gg p j)) else if m_fk ci j = 3 then .ref (ad (M p j).toNat) else .int (Int32.ofInt (M p j))
def m_cell (cI cB cA : ClassId) (ad : Nat → Nat) (M : mM) (p : Nat) : va_E :=
  if (m_sh p).1 = 20 then .inl (cI, (m_sh p).2, .inl (fun j => Int32.ofInt (M p j)))
  else if (m_sh p).1 = 21 then .inl (cB, (m_sh p).2, .inr (.inr (.inr (.inr (fun j => some (ad (m_gg p j)))))))
  else if (m_sh p).1 = 22 then .inl (cA, (m_sh p).2, .inr (.inr (.inr (.inr (fun j => some (ad (m_gg p j)))))))
  else .inr ((m_sh p).1, (List.range (m_sh p).2).map (m_fv ad M p (m_sh p).1))
def m_ws (cI cB cA : ClassId) (ad : Nat → Nat) (M : mM) : va_W := (List.range 111).map (fun p => (ad p, m_cell cI cB cA ad M p))
abbrev m_tys (cI cB cA : ClassId) : List (ClassId × FieldType) := [(cI, .int), (cB, .object "FallClocks$Buyer"), (cA, .array .int)]
theorem m_shlt {p k n : Nat} (h : m_sh p = (k, n)) (hk : k < 99) : p < 111 := by
  rcases Nat.lt_or_ge p 111 with q | q
  · exact q
  · exfalso
    unfold m_sh at h
    rw [List.getElem?_eq_none (by show 111 ≤ p; exact q)] at h
    cases h
    omega
theorem m_ws_at {cI cB cA : ClassId} {ad : Nat → Nat} {M : mM} {p : Nat} (h : p < 111) : (m_ws cI cB cA ad M)[p]? = some (ad p, m_cell cI cB cA ad M p) := by
  unfold m_ws
  rw [List.getElem?_map, List.getElem?_range h]
  rfl
theorem m_cell_i {cI cB cA : ClassId} {ad : Nat → Nat} {M : mM} {p n : Nat} (h : m_sh p = (20, n)) : m_cell cI cB cA ad M p = .inl (cI, n, .inl (fun j => Int32.ofInt (M p j))) := by
  unfold m_cell
  rw [h]
  simp
theorem m_cell_b {cI cB cA : ClassId} {ad : Nat → Nat} {M : mM} {p n : Nat} (h : m_sh p = (21, n)) : m_cell cI cB cA ad M p = .inl (cB, n, .inr (.inr (.inr (.inr (fun j => some (ad (m_gg p j))))))) := by
  unfold m_cell
  rw [h]
  simp
theorem m_cell_a {cI cB cA : ClassId} {ad : Nat → Nat} {M : mM} {p n : Nat} (h : m_sh p = (22, n)) : m_cell cI cB cA ad M p = .inl (cA, n, .inr (.inr (.inr (.inr (fun j => some (ad (m_gg p j))))))) := by
  unfold m_cell
  rw [h]
  simp
theorem m_cell_o {cI cB cA : ClassId} {ad : Nat → Nat} {M : mM} {p ci n : Nat} (h : m_sh p = (ci, n)) (hc : ci < 20) : m_cell cI cB cA ad M p = .inr (ci, (List.range n).map (m_fv ad M p ci)) := by
  unfold m_cell
  rw [h]
  rw [if_neg (by show ¬ ci = 20; omega), if_neg (by show ¬ ci = 21; omega), if_neg (by show ¬ ci = 22; omega)]
theorem m_ws_up {cI cB cA : ClassId} {ad : Nat → Nat} {M M' : mM} {p : Nat} {x : va_E} (h : p < 111) (hx : m_cell cI cB cA ad M' p = x) (ho : ∀ q, q ≠ p → ∀ j, M' q j = M q j) : (m_ws cI cB cA ad M).set p (ad p, x) = m_ws cI cB cA ad M' := by
  subst hx
  apply List.ext_getElem?
  intro i
  rw [List.getElem?_set]
  by_cases hi : p = i
  · subst hi
    have hl : p < (m_ws cI cB cA ad M).length := by simp [m_ws]; exact h
    rw [if_pos rfl, if_pos hl, m_ws_at h]
  · rw [if_neg hi]
    by_cases hl : i < 111
    · rw [m_ws_at hl, m_ws_at hl]
      have e : ∀ j, M' i j = M i j := ho i (fun q => hi q.symm)
      have e2 : M' i = M i := funext e
      unfold m_cell m_fv
      simp only [e2]
    · rw [List.getElem?_eq_none (by simp [m_ws]; omega), List.getElem?_eq_none (by simp [m_ws]; omega)]
/-- what a method is: its name, its bytes, its locals, what it returns, its frames, its locals' room, the script (of the law alone) -/
abbrev mI : Type := MethodName × ByteArray × Nat × Option FieldType × Nat × Nat × Option (Nat × (Nat → Int))
def m_C (k : mI) (p : Program) (R : Room) (s : State) (m : MethodId) (args : Array Value) (meth : Method) (c : Code) (cells slots : Nat) : Prop :=
  p.tables.exec = Jvm.exec ∧ c.code = k.2.1 ∧ c.maxLocals = k.2.2.1 ∧ s.vm.findClass k.1.cls = some m.cls ∧ (∀ w ∈ lw_gd, w.before args s = true) ∧ meth.sig.returnType = k.2.2.2.1 ∧ meth.locks = false ∧ k.2.2.2.2.1 ≤ R.frames ∧ k.2.2.2.2.2.1 ≤ R.locals ∧ cells ≤ R.cells ∧ slots ≤ R.slots
def m_Sc (k : mI) (s : State) (A : Nat → Prop) (b : Nat) : Prop := (∀ q, s.heap.size ≤ q → A q) ∧ ∀ L xs, k.2.2.2.2.2.2 = some (L, xs) → va_X b L (fun j => Int32.ofInt (xs j)) s s.heap ∧ b < s.heap.size ∧ ¬ A b
def m_Wd (D : va_G) (cI cB cA : ClassId) (ad : Nat → Nat) (A : Nat → Prop) (s : State) (H : Heap) (locs : List Loc) (M : mM) : Prop :=
  va_K D vwCl (m_tys cI cB cA) s ∧ va_P D vwCl (m_ws cI cB cA ad M) H ∧ va_D A (m_ws cI cB cA ad M) ∧ va_S A s.heap H locs
def m_L (ad : Nat → Nat) (b : Nat) (nL : Nat) (lr : Array Slot) (ls : List mV) : Prop := lr.size = nL ∧ lv_wf lr ∧ ls.length ≤ nL ∧ ∀ (i : Nat) (v : mV), ls[i]? = some v → v ≠ v_U → lr[i]? = some (.val (m_dv ad b v)) ∧ (m_dv ad b v).category = 1
def m_ends (k : mI) (pc : Nat) (r : Int) : Prop := (k.2.2.2.1 = none ∧ r = 0 ∧ decode k.2.1 pc = .ok (.return_, 1)) ∨ (∃ ty, k.2.2.2.1 = some ty ∧ narrow ty (.int (Int32.ofInt r)) = .int (Int32.ofInt r) ∧ decode k.2.1 pc = .ok (.ireturn, 1))
def m_rs (k : mI) (r : Int) : List Value := match k.2.2.2.1 with
  | none => []
  | some _ => [.int (Int32.ofInt r)]
/-- from here the method comes to its end with Q -/
def X_ (k : mI) (pc : Nat) (ls st : List mV) (M : mM) (Q : Int → mM → Prop) : Prop :=
  ∀ (p : Program) (l : Launch) (e : Env) (R : Room) (s : State) (m : MethodId) (args : Array Value) (below : List Frame) (meth : Method) (c : Code) (cells slots : Nat) (Qw : State → Prop) (D : va_G) (cI cB cA : ClassId) (ad : Nat → Nat) (A : Nat → Prop) (b : Nat) (H : Heap) (locs : List Loc) (lr : Array Slot),
    m_C k p R s m args meth c cells slots → m_Sc k s A b → m_oks ls → m_oks st → m_okM M → m_Wd D cI cB cA ad A s H locs M → m_L ad b k.2.2.1 lr ls →
    (∀ (r : Int) (M' : mM) (H' : Heap) (locs' : List Loc) (lr' : Array Slot) (pc' : Nat), m_ir r → m_okM M' → Q r M' → m_Wd D cI cB cA ad A s H' locs' M' → m_ends k pc' r → W p l e R s m args below meth c H' locs' cells slots Qw (F0 m pc' lr' (m_rs k r))) →
    W p l e R s m args below meth c H locs cells slots Qw (F0 m pc lr (st.map (m_dv ad b)))
/-- a method's contract -/
def m_Qc (ret : Option FieldType) (Q : Int → mM → Prop) (B : mM → State → Prop) (A : Nat → Prop) : Array Value → State → Outcome → State → Prop := match ret with
  | none => va_Qv (fun M' => m_okM M' ∧ Q 0 M') B A
  | some _ => va_Qi (fun r M' => ∃ z : Int, r = Int32.ofInt z ∧ m_ir z ∧ m_okM M' ∧ Q z M') B A
def m_ws0 (k : mI) : List Cond := Cond.code k.1 k.2.1 k.2.2.1 k.2.2.2.1 :: lw_gd
def m_rm (k : mI) : Room := { frames := k.2.2.2.2.1, cells := 0, slots := 0, locals := k.2.2.2.2.2.1 }
def C_ (k : mI) (as : List mV) (M : mM) (Q : Int → mM → Prop) : Prop :=
  m_oks as → m_okM M → ∀ (l : Launch) (D : va_G) (cI cB cA : ClassId) (ad : Nat → Nat) (b sz : Nat),
    Met l k.1 (m_ws0 k) (m_rm k) (va_Pc (as.map (m_dv ad b)) (fun U => U.heap.size = sz ∧ va_P D vwCl (m_ws cI cB cA ad M) U.heap ∧ va_K D vwCl (m_tys cI cB cA) U ∧ va_D (fun _ => True) (m_ws cI cB cA ad M)))
      (m_Qc k.2.2.2.1 Q (fun M' t => va_P D vwCl (m_ws cI cB cA ad M') t.heap ∧ va_K D vwCl (m_tys cI cB cA) t ∧ va_D (va_A (m_ws cI cB cA ad M) sz) (m_ws cI cB cA ad M')) (va_A (m_ws cI cB cA ad M) sz)) 0 0 (va_A (m_ws cI cB cA ad M) sz)
