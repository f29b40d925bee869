/-! THE OBJECTS ARE MADE: a machine of its own. A slot is an int, null or a place; places are made in the order of their numbers -/
abbrev yV : Type := Int ⊕ Option Nat
abbrev yM : Type := Nat → Nat → yV
def y_def (p j : Nat) : yV := if (m_sh p).1 = 20 then .inl 0 else if (m_sh p).1 = 21 ∨ (m_sh p).1 = 22 then .inr none else if m_fk (m_sh p).1 j ≤ 1 then .inl 0 else .inr none
def y_val (ad : Nat → Nat) : yV → Value
  | .inl x => .int (Int32.ofInt x)
  | .inr none => .null
  | .inr (some q) => .ref (ad q)
def y_int : yV → Int
  | .inl x => x
  | .inr _ => 0
def y_ref : yV → Option Nat
  | .inl _ => none
  | .inr r => r
def y_cell (cI cB cA : ClassId) (ad : Nat → Nat) (K : yM) (p : Nat) : va_E :=
  if (m_sh p).1 = 20 then .inl (cI, (m_sh p).2, .inl (fun j => Int32.ofInt (y_int (K p j))))
  else if (m_sh p).1 = 21 then .inl (cB, (m_sh p).2, .inr (.inr (.inr (.inr (fun j => (y_ref (K p j)).map ad)))))
  else if (m_sh p).1 = 22 then .inl (cA, (m_sh p).2, .inr (.inr (.inr (.inr (fun j => (y_ref (K p j)).map ad)))))
  else .inr ((m_sh p).1, (List.range (m_sh p).2).map (fun j => y_val ad (K p j)))
def y_ws (cI cB cA : ClassId) (ad : Nat → Nat) (n : Nat) (K : yM) : va_W := (List.range n).map (fun p => (ad p, y_cell cI cB cA ad K p))
def y_up (K : yM) (p j : Nat) (v : yV) : yM := fun a b => if a = p ∧ b = j then v else K a b
def y_rows (K : yM) (p N : Nat) : yM := fun a b => if a = p ∧ b < N then .inr (some (p + 1 + b)) else K a b
def y_ok (n : Nat) (K : yM) : Prop := (∀ p j, n ≤ p → K p j = y_def p j) ∧ (∀ p j q, K p j = .inr (some q) → q < n) ∧ ∀ p j, (m_sh p).1 = 20 → K p j = .inl 0
theorem y_def_r {p j q : Nat} : ¬ y_def p j = .inr (some q) := by
  unfold y_def
  intro h
  split at h
  · cases h
  · split at h
    · cases h
    · split at h <;> cases h
theorem y_ok_0 : y_ok 0 y_def := ⟨fun _ _ _ => rfl, fun _ _ _ h => absurd h y_def_r, fun p j h => by unfold y_def; rw [if_pos h]⟩
theorem y_ok_s {n n' : Nat} {K : yM} (hn : n ≤ n') (h : y_ok n K) : y_ok n' K := ⟨fun p j hp => h.1 p j (by omega), fun p j q hq => by have := h.2.1 p j q hq; omega, h.2.2⟩
theorem y_ok_up {n p j : Nat} {K : yM} {v : yV} (h : y_ok n K) (hp : p < n) (hk : (m_sh p).1 ≠ 20) (hv : ∀ q, v = .inr (some q) → q < n) : y_ok n (y_up K p j v) := by
  refine ⟨fun a b ha => ?_, fun a b q hq => ?_, fun a b ha => ?_⟩
  · unfold y_up
    rw [if_neg (by omega)]
    exact h.1 a b ha
  · unfold y_up at hq
    split at hq
    · exact hv q hq
    · exact h.2.1 a b q hq
  · unfold y_up
    rw [if_neg (fun z => hk (by rw [← z.1]; exact ha))]
    exact h.2.2 a b ha
theorem y_val_ad {ad ad' : Nat → Nat} {n : Nat} {v : yV} (ha : ∀ q, q < n → ad' q = ad q) (hv : ∀ q, v = .inr (some q) → q < n) : y_val ad' v = y_val ad v := by
  cases v with
  | inl x => rfl
  | inr r =>
    cases r with
    | none => rfl
    | some q => show Value.ref (ad' q) = .ref (ad q); rw [ha q (hv q rfl)]
theorem y_ref_ad {ad ad' : Nat → Nat} {n : Nat} {v : yV} (ha : ∀ q, q < n → ad' q = ad q) (hv : ∀ q, v = .inr (some q) → q < n) : (y_ref v).map ad' = (y_ref v).map ad := by
  cases v with
  | inl x => rfl
  | inr r =>
    cases r with
    | none => rfl
    | some q => show some (ad' q) = some (ad q); rw [ha q (hv q rfl)]
theorem y_cell_ad {cI cB cA : ClassId} {ad ad' : Nat → Nat} {n : Nat} {K : yM} (ha : ∀ q, q < n → ad' q = ad q) (h : ∀ p j q, K p j = .inr (some q) → q < n) (p : Nat) : y_cell cI cB cA ad' K p = y_cell cI cB cA ad K p := by
  unfold y_cell
  have e1 : (fun j => (y_ref (K p j)).map ad') = fun j => (y_ref (K p j)).map ad := funext fun j => y_ref_ad ha (h p j)
  have e2 : (fun j => y_val ad' (K p j)) = fun j => y_val ad (K p j) := funext fun j => y_val_ad ha (h p j)
  rw [e1, e2]
theorem y_at {cI cB cA : ClassId} {ad : Nat → Nat} {n p : Nat} {K : yM} (h : p < n) : (y_ws cI cB cA ad n K)[p]? = some (ad p, y_cell cI cB cA ad K p) := by
  unfold y_ws
  rw [List.getElem?_map, List.getElem?_range h]
  rfl
theorem y_push {cI cB cA : ClassId} {ad ad' : Nat → Nat} {n : Nat} {K : yM} {q : Nat} {x : va_E} (h : y_ok n K) (ha : ∀ q, q < n → ad' q = ad q) (hq : ad' n = q) (hx : y_cell cI cB cA ad' K n = x) : y_ws cI cB cA ad n K ++ [(q, x)] = y_ws cI cB cA ad' (n + 1) K := by
  unfold y_ws
  rw [List.range_succ, List.map_append, List.map_singleton, hq, hx]
  congr 1
  refine List.map_congr_left (fun p hp => ?_)
  rw [y_cell_ad ha h.2.1, ha p (List.mem_range.mp hp)]
theorem y_set {cI cB cA : ClassId} {ad : Nat → Nat} {n p : Nat} {K K' : yM} {x : va_E} (hp : p < n) (hx : y_cell cI cB cA ad K' p = x) (ho : ∀ q, q ≠ p → K' q = K q) : (y_ws cI cB cA ad n K).set p (ad p, x) = y_ws cI cB cA ad n K' := by
  subst hx
  apply List.ext_getElem?
  intro i
  rw [List.getElem?_set]
  by_cases hi : p = i
  · subst hi
    have hl : p < (y_ws cI cB cA ad n K).length := by simp [y_ws]; exact hp
    rw [if_pos rfl, if_pos hl, y_at hp]
  · rw [if_neg hi]
    by_cases hl : i < n
    · rw [y_at hl, y_at hl]
      have e2 : K' i = K i := ho i (fun q => hi q.symm)
      unfold y_cell
      simp only [e2]
    · rw [List.getElem?_eq_none (by simp [y_ws]; omega), List.getElem?_eq_none (by simp [y_ws]; omega)]
theorem y_up_ne {K : yM} {p j q : Nat} {v : yV} (h : q ≠ p) : y_up K p j v q = K q := by
  funext b
  unfold y_up
  rw [if_neg (fun z => h z.1)]
theorem y_cell_o {cI cB cA : ClassId} {ad : Nat → Nat} {K : yM} {p ci N : Nat} (h : m_sh p = (ci, N)) (hc : ci < 20) : y_cell cI cB cA ad K p = .inr (ci, (List.range N).map (fun j => y_val ad (K p j))) := by
  unfold y_cell
  rw [h]
  rw [if_neg (by show ¬ ci = 20; omega), if_neg (by show ¬ ci = 21; omega), if_neg (by show ¬ ci = 22; omega)]
theorem y_cell_i {cI cB cA : ClassId} {ad : Nat → Nat} {K : yM} {p N : Nat} (h : m_sh p = (20, N)) : y_cell cI cB cA ad K p = .inl (cI, N, .inl (fun j => Int32.ofInt (y_int (K p j)))) := by
  unfold y_cell
  rw [h]
  rfl
theorem y_cell_b {cI cB cA : ClassId} {ad : Nat → Nat} {K : yM} {p N : Nat} (h : m_sh p = (21, N)) : y_cell cI cB cA ad K p = .inl (cB, N, .inr (.inr (.inr (.inr (fun j => (y_ref (K p j)).map ad))))) := by
  unfold y_cell
  rw [h]
  rfl
theorem y_cell_a {cI cB cA : ClassId} {ad : Nat → Nat} {K : yM} {p N : Nat} (h : m_sh p = (22, N)) : y_cell cI cB cA ad K p = .inl (cA, N, .inr (.inr (.inr (.inr (fun j => (y_ref (K p j)).map ad))))) := by
  unfold y_cell
  rw [h]
  rfl
theorem y_fs_set {ad : Nat → Nat} {K : yM} {p N j : Nat} {v : yV} : ((List.range N).map (fun i => y_val ad (K p i))).set j (y_val ad v) = (List.range N).map (fun i => y_val ad (y_up K p j v p i)) := by
  apply List.ext_getElem?
  intro i
  rw [List.getElem?_set]
  by_cases hi : j = i
  · subst hi
    rw [if_pos rfl]
    by_cases hl : j < N
    · rw [if_pos (by simpa using hl), List.getElem?_map, List.getElem?_range hl]
      show some _ = some (y_val ad (y_up K p j v p j))
      unfold y_up
      rw [if_pos ⟨rfl, rfl⟩]
    · rw [if_neg (by simpa using hl), List.getElem?_eq_none (by simpa using hl)]
  · rw [if_neg hi, List.getElem?_map, List.getElem?_map]
    by_cases hl : i < N
    · rw [List.getElem?_range hl]
      show some _ = some (y_val ad (y_up K p j v p i))
      unfold y_up
      rw [if_neg (fun z => hi z.2.symm)]
    · rw [List.getElem?_eq_none (by simpa using hl)]
      rfl
/-- what the tables say beside the good words -/
def y_X (s : State) : Prop := va_AO "FallClocks$Buyer" s ∧ va_AOA .int s ∧ va_Nw (.methodLinkNest "FallClocks$Hall" 37 ⟨"FallClocks$Buyer", "<init>", "()V"⟩ "FallClocks") s ∧ va_Nw (.methodLinkNest "FallClocks" 18 ⟨"FallClocks$Signs", "<init>", "()V"⟩ "FallClocks") s
theorem y_X_warm {s U : State} (hW : s.WarmedH U.vm) (h : y_X s) : y_X U := ⟨h.1.moved hW.alike, h.2.1.moved hW.alike, va_Nw.warmM hW h.2.2.1, va_Nw.warmM hW h.2.2.2⟩
theorem y_X_same {s U : State} (hv : s.vm = U.vm) (h : y_X s) : y_X U := ⟨h.1.moved (by rw [← hv]; exact Vm.Alike.refl _), h.2.1.moved (by rw [← hv]; exact Vm.Alike.refl _), va_Nw.same rfl hv h.2.2.1, va_Nw.same rfl hv h.2.2.2⟩
def y_C (k : mI) (p : Program) (R : Room) (s : State) (m : MethodId) (args : Array Value) (meth : Method) (c : Code) : Prop :=
  p.tables.exec = Jvm.exec ∧ c.code = k.2.1 ∧ c.maxLocals = k.2.2.1 ∧ s.vm.findClass k.1.cls = some m.cls ∧ (∀ w ∈ lw_gd, w.before args s = true) ∧ k.2.2.2.2.1 ≤ R.frames ∧ k.2.2.2.2.2.1 ≤ R.locals ∧ y_X s ∧ (k.2.2.2.2.2.2 = none → meth.name = k.1.name)
def y_Wd (D : va_G) (cI cB cA : ClassId) (ad : Nat → Nat) (A : Nat → Prop) (s : State) (H : Heap) (locs : List Loc) (n : Nat) (K : yM) : Prop :=
  va_K D vwCl (m_tys cI cB cA) s ∧ va_P D vwCl (y_ws cI cB cA ad n K) H ∧ va_D A (y_ws cI cB cA ad n K) ∧ va_S A s.heap H locs ∧ y_ok n K
abbrev yE : Type := Nat × List mV × Nat × yM × Nat × Nat
/-- from here the method comes to the end E: its pc, its locals, so many places, their slots, so many cells and slots made -/
def Y_ (k : mI) (pc : Nat) (ls st : List mV) (n : Nat) (K : yM) (cu su : Nat) (E : yE) : Prop :=
  ∀ (p : Program) (l : Launch) (e : Env) (R : Room) (s : State) (m : MethodId) (args : Array Value) (below : List Frame) (meth : Method) (c : Code) (Qw : State → Prop) (D : va_G) (cI cB cA : ClassId) (ad : Nat → Nat) (A : Nat → Prop) (b : Nat) (H : Heap) (locs : List Loc) (lr : Array Slot),
    y_C k p R s m args meth c → (∀ q, s.heap.size ≤ q → A q) → E.2.2.2.2.1 ≤ R.cells → E.2.2.2.2.2 ≤ R.slots → y_Wd D cI cB cA ad A s H locs n K → m_L ad b k.2.2.1 lr ls →
    (∀ (ad' : Nat → Nat) (H' : Heap) (locs' : List Loc) (lr' : Array Slot), (∀ q, q < n → ad' q = ad q) → y_Wd D cI cB cA ad' A s H' locs' E.2.2.1 E.2.2.2.1 → m_L ad' b k.2.2.1 lr' E.2.1 → W p l e R s m args below meth c H' locs' E.2.2.2.2.1 E.2.2.2.2.2 Qw (F0 m E.1 lr' [])) →
    W p l e R s m args below meth c H locs cu su Qw (F0 m pc lr (st.map (m_dv ad b)))
/-- the places of a list are made -/
def y_lt (n : Nat) (l : List mV) : Bool := l.all fun v => match v with
  | .inr (.inr (.inl p)) => decide (p < n)
  | _ => true
theorem y_dv {ad ad' : Nat → Nat} {n b : Nat} {v : mV} (ha : ∀ q, q < n → ad' q = ad q) (hv : ∀ p, v = v_P p → p < n) : m_dv ad' b v = m_dv ad b v := by
  match v with
  | .inl x => rfl
  | .inr (.inl x) => rfl
  | .inr (.inr (.inl p)) => show Value.ref (ad' p) = .ref (ad p); rw [ha p (hv p rfl)]
  | .inr (.inr (.inr _)) => rfl
theorem y_lt_at {n : Nat} {l : List mV} (h : y_lt n l = true) {p : Nat} (hm : v_P p ∈ l) : p < n := by
  have := List.all_eq_true.mp h _ hm
  simpa using this
theorem y_st {ad ad' : Nat → Nat} {n b : Nat} {l : List mV} (ha : ∀ q, q < n → ad' q = ad q) (h : y_lt n l = true) : l.map (m_dv ad' b) = l.map (m_dv ad b) := List.map_congr_left (fun v hv => y_dv ha (fun p hp => y_lt_at h (by rw [← hp]; exact hv)))
theorem y_L {ad ad' : Nat → Nat} {n b nL : Nat} {lr : Array Slot} {ls : List mV} (ha : ∀ q, q < n → ad' q = ad q) (h : y_lt n ls = true) (hL : m_L ad b nL lr ls) : m_L ad' b nL lr ls := by
  refine ⟨hL.1, hL.2.1, hL.2.2.1, fun i v hi hv => ?_⟩
  rw [y_dv ha (fun p hp => y_lt_at h (by rw [← hp]; exact List.mem_of_getElem? hi))]
  exact hL.2.2.2 i v hi hv
section YR
variable {k : mI} {pc : Nat} {ls st : List mV} {n : Nat} {K : yM} {cu su : Nat} {E : yE}
theorem y_end {lsE : List mV} {pcE : Nat} : Y_ k pcE lsE [] n K cu su (pcE, lsE, n, K, cu, su) := by
  intro p l e R s m args below meth c Qw D cI cB cA ad A b H locs lr hC hA hc hs hW hL hret
  exact hret ad H locs lr (fun _ _ => rfl) hW hL
theorem ya_iconst {x : Int} (hd : decode k.2.1 pc = .ok (.iconst x, 1)) (h : Y_ k (pc + 1) ls (v_I x :: st) n K cu su E) : Y_ k pc ls st n K cu su E := by
  intro p l e R s m args below meth c Qw D cI cB cA ad A b H locs lr hC hA hc hs hW hL hret
  refine lv_iconst hC.1 hC.2.1 hd rfl ?_
  exact h p l e R s m args below meth c Qw D cI cB cA ad A b H locs lr hC hA hc hs hW hL hret
theorem ya_bipush {x : Int} (hd : decode k.2.1 pc = .ok (.bipush x, 2)) (hv : (Int8.ofInt x).toInt32 = Int32.ofInt x) (h : Y_ k (pc + 2) ls (v_I x :: st) n K cu su E) : Y_ k pc ls st n K cu su E := by
  intro p l e R s m args below meth c Qw D cI cB cA ad A b H locs lr hC hA hc hs hW hL hret
  refine lv_bipush hC.1 hC.2.1 hd hv ?_
  exact h p l e R s m args below meth c Qw D cI cB cA ad A b H locs lr hC hA hc hs hW hL hret
theorem ya_sipush {x : Int} (hd : decode k.2.1 pc = .ok (.sipush x, 3)) (hv : (Int16.ofInt x).toInt32 = Int32.ofInt x) (h : Y_ k (pc + 3) ls (v_I x :: st) n K cu su E) : Y_ k pc ls st n K cu su E := by
  intro p l e R s m args below meth c Qw D cI cB cA ad A b H locs lr hC hA hc hs hW hL hret
  refine lv_sipush hC.1 hC.2.1 hd hv ?_
  exact h p l e R s m args below meth c Qw D cI cB cA ad A b H locs lr hC hA hc hs hW hL hret
theorem ya_aload_n {f : Fin 4} {i q : Nat} (hd : decode k.2.1 pc = .ok (.aload_n f, 1)) (hi : (f : Nat) = i) (hl : ls[i]? = some (v_P q)) (h : Y_ k (pc + 1) ls (v_P q :: st) n K cu su E) : Y_ k pc ls st n K cu su E := by
  intro p l e R s m args below meth c Qw D cI cB cA ad A b H locs lr hC hA hc hs hW hL hret
  refine lv_aload_n hC.1 hC.2.1 hd hi (hL.2.2.2 i _ hl (fun q => by cases q)).1 ?_
  exact h p l e R s m args below meth c Qw D cI cB cA ad A b H locs lr hC hA hc hs hW hL hret
theorem ya_iload_n {f : Fin 4} {i : Nat} {x : Int} (hd : decode k.2.1 pc = .ok (.iload_n f, 1)) (hi : (f : Nat) = i) (hl : ls[i]? = some (v_I x)) (h : Y_ k (pc + 1) ls (v_I x :: st) n K cu su E) : Y_ k pc ls st n K cu su E := by
  intro p l e R s m args below meth c Qw D cI cB cA ad A b H locs lr hC hA hc hs hW hL hret
  refine lv_iload_n hC.1 hC.2.1 hd hi (hL.2.2.2 i _ hl (fun q => by cases q)).1 ?_
  exact h p l e R s m args below meth c Qw D cI cB cA ad A b H locs lr hC hA hc hs hW hL hret
theorem ya_dup {v : mV} (hd : decode k.2.1 pc = .ok (.dup, 1)) (hv : ∀ ad b, (m_dv ad b v).category = 1) (h : Y_ k (pc + 1) ls (v :: v :: st) n K cu su E) : Y_ k pc ls (v :: st) n K cu su E := by
  intro p l e R s m args below meth c Qw D cI cB cA ad A b H locs lr hC hA hc hs hW hL hret
  refine lv_dup hC.1 hC.2.1 hd (hv ad b) ?_
  exact h p l e R s m args below meth c Qw D cI cB cA ad A b H locs lr hC hA hc hs hW hL hret
theorem ya_istore_n {f : Fin 4} {i : Nat} {x : Int} {ls' : List mV} (hd : decode k.2.1 pc = .ok (.istore_n f, 1)) (hi : (f : Nat) = i) (hn : i < k.2.2.1) (he : ls.set i (v_I x) = ls') (h : Y_ k (pc + 1) ls' st n K cu su E) : Y_ k pc ls (v_I x :: st) n K cu su E := by
  subst he
  intro p l e R s m args below meth c Qw D cI cB cA ad A b H locs lr hC hA hc hs hW hL hret
  refine lv_istore_n hC.1 hC.2.1 hd hi (m_L_has hL) hn rfl (fun lr2 hl2 => ?_)
  exact h p l e R s m args below meth c Qw D cI cB cA ad A b H locs lr2 hC hA hc hs hW (m_L_set (v := v_I x) hL rfl hl2) hret
theorem ya_astore_n {f : Fin 4} {i q : Nat} {ls' : List mV} (hd : decode k.2.1 pc = .ok (.astore_n f, 1)) (hi : (f : Nat) = i) (hn : i < k.2.2.1) (he : ls.set i (v_P q) = ls') (h : Y_ k (pc + 1) ls' st n K cu su E) : Y_ k pc ls (v_P q :: st) n K cu su E := by
  subst he
  intro p l e R s m args below meth c Qw D cI cB cA ad A b H locs lr hC hA hc hs hW hL hret
  refine lv_astore_n hC.1 hC.2.1 hd hi (m_L_has hL) hn rfl (fun lr2 hl2 => ?_)
  exact h p l e R s m args below meth c Qw D cI cB cA ad A b H locs lr2 hC hA hc hs hW (m_L_set (v := v_P q) hL rfl hl2) hret
theorem ya_iinc {i : Nat} {d x : Int} {ls' : List mV} (hd : decode k.2.1 pc = .ok (.iinc i d, 3)) (hl : ls[i]? = some (v_I x)) (hn : i < k.2.2.1) (he : ls.set i (v_I (x + d)) = ls') (h : Y_ k (pc + 3) ls' st n K cu su E) : Y_ k pc ls st n K cu su E := by
  subst he
  intro p l e R s m args below meth c Qw D cI cB cA ad A b H locs lr hC hA hc hs hW hL hret
  obtain ⟨kk, hkk⟩ := List.getElem?_of_mem (m_lv_mem (ad := ad) (b := b).mpr ⟨_, hl, (fun q => by cases q), rfl⟩ : (i, m_dv ad b (v_I x)) ∈ m_lv ad b ls)
  refine lv_iinc hC.1 hC.2.1 hd (m_L_has hL) (k := kk) hkk (v := Int32.ofInt (x + d)) (by rw [Int32.ofInt_add]) hn rfl (fun lr2 hl2 => ?_)
  exact h p l e R s m args below meth c Qw D cI cB cA ad A b H locs lr2 hC hA hc hs hW (m_L_set (v := v_I (x + d)) hL rfl hl2) hret
theorem ya_goto {off : Int} {tgt : Nat} (hd : decode k.2.1 pc = .ok (.goto off, 3)) (ht : (pc : Int) + off = (tgt : Int)) (h : Y_ k tgt ls st n K cu su E) : Y_ k pc ls st n K cu su E := by
  intro p l e R s m args below meth c Qw D cI cB cA ad A b H locs lr hC hA hc hs hW hL hret
  refine lv_goto hC.1 hC.2.1 hd ht ?_
  exact h p l e R s m args below meth c Qw D cI cB cA ad A b H locs lr hC hA hc hs hW hL hret
theorem ya_ge_y {x y off : Int} {tgt : Nat} (hd : decode k.2.1 pc = .ok (.if_icmp .ge off, 3)) (ht : (pc : Int) + off = (tgt : Int)) (hx : Int32.ofInt y ≤ Int32.ofInt x) (h : Y_ k tgt ls st n K cu su E) : Y_ k pc ls (v_I y :: v_I x :: st) n K cu su E := by
  intro p l e R s m args below meth c Qw D cI cB cA ad A b H locs lr hC hA hc hs hW hL hret
  exact lv_icmp_ge hC.1 hC.2.1 hd ht (fun _ => h p l e R s m args below meth c Qw D cI cB cA ad A b H locs lr hC hA hc hs hW hL hret) (fun q => absurd hx q)
theorem ya_ge_n {x y off : Int} {tgt : Nat} (hd : decode k.2.1 pc = .ok (.if_icmp .ge off, 3)) (ht : (pc : Int) + off = (tgt : Int)) (hx : ¬ Int32.ofInt y ≤ Int32.ofInt x) (h : Y_ k (pc + 3) ls st n K cu su E) : Y_ k pc ls (v_I y :: v_I x :: st) n K cu su E := by
  intro p l e R s m args below meth c Qw D cI cB cA ad A b H locs lr hC hA hc hs hW hL hret
  exact lv_icmp_ge hC.1 hC.2.1 hd ht (fun q => absurd q hx) (fun _ => h p l e R s m args below meth c Qw D cI cB cA ad A b H locs lr hC hA hc hs hW hL hret)
theorem ya_objInit {idx q : Nat} (hd : decode k.2.1 pc = .ok (.invokespecial idx, 3)) (hl : Cond.methodLink k.1.cls idx objectInit ∈ lw_gd) (hi : Cond.instanceMethod objectInit ∈ lw_gd) (hcd : Cond.code objectInit ⟨#[0xb1]⟩ 1 none ∈ lw_gd) (hf : 1 ≤ k.2.2.2.2.1) (hl2 : 20 ≤ k.2.2.2.2.2.1) (h8 : ∀ ad b, ((st.map (m_dv ad b)).map fun v => v.category).sum ≤ 8) (h : Y_ k (pc + 3) ls st n K cu su E) : Y_ k pc ls (v_P q :: st) n K cu su E := by
  intro p l e R s m args below meth c Qw D cI cB cA ad A b H locs lr hC hA hc hs hW hL hret
  have hT := hC.2.2.2.2.1
  have hr := lv_room (m := m) (pc := pc) (ls := lr) (rest := (v_P q :: st).map (m_dv ad b)) (h8 ad b)
  refine W.objInit hC.1 hC.2.1 hC.2.2.2.1 (hT _ hl) (hT _ hi) (hT _ hcd) rfl (by rw [hC.2.2.1]; exact hL.1) (a := ad q) (rest := st.map (m_dv ad b)) rfl hd (Nat.le_trans hf hC.2.2.2.2.2.1) (Nat.le_trans (by omega) (Nat.le_trans hl2 hC.2.2.2.2.2.2.1)) ?_
  exact h p l e R s m args below meth c Qw D cI cB cA ad A b H locs lr hC hA hc hs hW hL hret
theorem y_ci {ci N : Nat} {C : String} {T : u_T} (hc : vwCl[ci]? = some (C, T, N)) : ci < 20 := by
  have := (List.getElem?_eq_some_iff.mp hc).1
  simp at this
  omega
theorem ya_get {idx q ci N j x : Nat} {C : String} {T : u_T} {ty0 : Nat → FieldType} (hd : decode k.2.1 pc = .ok (.getfield idx, 3)) (hs : m_sh q = (ci, N)) (hcf : m_cls ci N C T ty0) (hf : m_fl k.1.cls idx T j) (hj : j < N) (hq : q < n) (hv : K q j = .inr (some x)) (h : Y_ k (pc + 3) ls (v_P x :: st) n K cu su E) : Y_ k pc ls (v_P q :: st) n K cu su E := by
  intro p l e R s m args below meth c Qw D cI cB cA ad A b H locs lr hC hA hc hss hW hL hret
  obtain ⟨hin, hty, hnm, hcl⟩ := hcf
  refine va_get (D := D) (C := C) (T := T) hC.1 hC.2.1 hC.2.2.2.2.1 hin hC.2.2.2.1 hW.1 hW.2.1 q (fs := (List.range N).map (fun j => y_val ad (K q j))) (by rw [y_at hq, y_cell_o hs (y_ci hcl)]) hcl j hj (hC.2.2.2.2.1 _ hf) (fun _ h9 => h9) (v := .ref (ad x)) (by rw [List.getElem?_map, List.getElem?_range hj]; show some (y_val ad (K q j)) = _; rw [hv]; rfl) hd ?_
  exact h p l e R s m args below meth c Qw D cI cB cA ad A b H locs lr hC hA hc hss hW hL hret
/-- behind a field's store -/
theorem y_put_W {D : va_G} {cI cB cA : ClassId} {ad : Nat → Nat} {A : Nat → Prop} {s : State} {H1 : Heap} {locs1 : List Loc} {q ci N j : Nat} {v : yV} (hs : m_sh q = (ci, N)) (hci : ci < 20) (hq : q < n) (hv : ∀ x, v = .inr (some x) → x < n) (hK : va_K D vwCl (m_tys cI cB cA) s) (hok : y_ok n K)
    (hP1 : va_P D vwCl ((y_ws cI cB cA ad n K).set q (ad q, .inr (ci, ((List.range N).map (fun j => y_val ad (K q j))).set j (y_val ad v)))) H1) (hD1 : va_D A ((y_ws cI cB cA ad n K).set q (ad q, .inr (ci, ((List.range N).map (fun j => y_val ad (K q j))).set j (y_val ad v))))) (hS1 : va_S A s.heap H1 locs1) : y_Wd D cI cB cA ad A s H1 locs1 n (y_up K q j v) := by
  have e3 := y_set (cI := cI) (cB := cB) (cA := cA) (ad := ad) (K := K) (K' := y_up K q j v) hq (y_cell_o hs hci) (fun a ha => y_up_ne ha)
  rw [y_fs_set, e3] at hP1 hD1
  exact ⟨hK, hP1, hD1, hS1, y_ok_up hok hq (by rw [hs]; show ci ≠ 20; omega) hv⟩
theorem ya_putI {x : Int} {idx q ci N j : Nat} {C : String} {T : u_T} {ty0 : Nat → FieldType} (hd : decode k.2.1 pc = .ok (.putfield idx, 3)) (hs : m_sh q = (ci, N)) (hcf : m_cls ci N C T ty0) (hf : m_fl k.1.cls idx T j) (hj : j < N) (hfin : (T j).2.2.2 = false) (hr : ty0 j = .int) (hq : q < n) (h : Y_ k (pc + 3) ls st n (y_up K q j (.inl x)) cu su E) : Y_ k pc ls (v_I x :: v_P q :: st) n K cu su E := by
  intro p l e R s m args below meth c Qw D cI cB cA ad A b H locs lr hC hA hc hss hW hL hret
  obtain ⟨hin, hty, hnm, hcl⟩ := hcf
  refine va_put (D := D) (C := C) (T := T) (v := y_val ad (.inl x)) hC.1 hC.2.1 hC.2.2.2.2.1 hin ty0 hty hnm hC.2.2.2.1 hW.1 hW.2.1 hW.2.2.1 hW.2.2.2.1 q (fs := (List.range N).map (fun j => y_val ad (K q j))) (by rw [y_at hq, y_cell_o hs (y_ci hcl)]) hcl j hj (hC.2.2.2.2.1 _ hf) (fun _ h9 => h9) hfin (hty j hj) (by rw [hr]; rfl) (by rw [hr]; rfl) (by simpa using hj) hd (fun H1 locs1 hP1 hD1 hS1 => ?_)
  exact h p l e R s m args below meth c Qw D cI cB cA ad A b H1 locs1 lr hC hA hc hss (y_put_W hs (y_ci hcl) hq (fun _ z => by cases z) hW.1 hW.2.2.2.2 hP1 hD1 hS1) hL hret
theorem ya_putR {idx q ci N j x : Nat} {C : String} {T : u_T} {ty0 : Nat → FieldType} (hd : decode k.2.1 pc = .ok (.putfield idx, 3)) (hs : m_sh q = (ci, N)) (hcf : m_cls ci N C T ty0) (hf : m_fl k.1.cls idx T j) (hj : j < N) (hfin : (T j).2.2.2 = false) (hr : (∀ a, narrow (ty0 j) (.ref a) = .ref a) ∧ ∀ a, fits (ty0 j) (.ref a) = true) (hq : q < n) (hx : x < n) (h : Y_ k (pc + 3) ls st n (y_up K q j (.inr (some x))) cu su E) : Y_ k pc ls (v_P x :: v_P q :: st) n K cu su E := by
  intro p l e R s m args below meth c Qw D cI cB cA ad A b H locs lr hC hA hc hss hW hL hret
  obtain ⟨hin, hty, hnm, hcl⟩ := hcf
  refine va_put (D := D) (C := C) (T := T) (v := y_val ad (.inr (some x))) hC.1 hC.2.1 hC.2.2.2.2.1 hin ty0 hty hnm hC.2.2.2.1 hW.1 hW.2.1 hW.2.2.1 hW.2.2.2.1 q (fs := (List.range N).map (fun j => y_val ad (K q j))) (by rw [y_at hq, y_cell_o hs (y_ci hcl)]) hcl j hj (hC.2.2.2.2.1 _ hf) (fun _ h9 => h9) hfin (hty j hj) (hr.1 _) (hr.2 _) (by simpa using hj) hd (fun H1 locs1 hP1 hD1 hS1 => ?_)
  exact h p l e R s m args below meth c Qw D cI cB cA ad A b H1 locs1 lr hC hA hc hss (y_put_W hs (y_ci hcl) hq (fun _ z => by cases z; exact hx) hW.1 hW.2.2.2.2 hP1 hD1 hS1) hL hret
theorem ya_putF {idx q ci N j x : Nat} {C : String} {T : u_T} {ty0 : Nat → FieldType} (hd : decode k.2.1 pc = .ok (.putfield idx, 3)) (hs : m_sh q = (ci, N)) (hcf : m_cls ci N C T ty0) (hf : m_fl k.1.cls idx T j) (hj : j < N) (hfin : (T j).2.2.2 = true) (hnm0 : k.1.name = "<init>" ∧ k.2.2.2.2.2.2 = none) (hdecl : (T j).1 = k.1.cls) (hr : (∀ a, narrow (ty0 j) (.ref a) = .ref a) ∧ ∀ a, fits (ty0 j) (.ref a) = true) (hq : q < n) (hx : x < n) (h : Y_ k (pc + 3) ls st n (y_up K q j (.inr (some x))) cu su E) : Y_ k pc ls (v_P x :: v_P q :: st) n K cu su E := by
  intro p l e R s m args below meth c Qw D cI cB cA ad A b H locs lr hC hA hc hss hW hL hret
  obtain ⟨hin, hty, hnm, hcl⟩ := hcf
  refine va_putF (D := D) (C := C) (T := T) (v := y_val ad (.inr (some x))) hC.1 hC.2.1 hC.2.2.2.2.1 hin ty0 hty hnm hC.2.2.2.1 hW.1 hW.2.1 hW.2.2.1 hW.2.2.2.1 q (fs := (List.range N).map (fun j => y_val ad (K q j))) (by rw [y_at hq, y_cell_o hs (y_ci hcl)]) hcl j hj (hC.2.2.2.2.1 _ hf) (fun _ h9 => h9) hfin (by rw [hC.2.2.2.2.2.2.2.2 hnm0.2]; exact hnm0.1) hdecl (hty j hj) (hr.1 _) (hr.2 _) (by simpa using hj) hd (fun H1 locs1 hP1 hD1 hS1 => ?_)
  exact h p l e R s m args below meth c Qw D cI cB cA ad A b H1 locs1 lr hC hA hc hss (y_put_W hs (y_ci hcl) hq (fun _ z => by cases z; exact hx) hW.1 hW.2.2.2.2 hP1 hD1 hS1) hL hret
end YR
