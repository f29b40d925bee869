/-! calls of the small machine -/
theorem m_goodIn {k : mI} (h : Cond.code k.1 k.2.1 k.2.2.1 k.2.2.2.1 ∈ lw_gd) : GoodIn lw_gd (m_ws0 k) := by
  intro w hw
  have hm : w ∈ lw_gd := by
    rcases List.mem_cons.mp hw with rfl | q
    · exact h
    · exact q
  exact ⟨hm, good_of_word (List.mem_filter.mp hm).2⟩
def m_nm (k : mI) (n : Nat) : Prop := k.1.cls ≠ "java/lang/invoke/MethodHandle" ∧ k.1.cls ≠ "java/lang/invoke/VarHandle" ∧ (parseMethodDescriptor k.1.desc).map (fun d => d.parameters.length) = some n
/-- a method that is called on an object; a static one: what the tables say of it -/
def m_MV (k : mI) (n : Nat) : Prop := Cond.code k.1 k.2.1 k.2.2.1 k.2.2.2.1 ∈ lw_gd ∧ Cond.initialized k.1.cls ∈ lw_gd ∧ m_nm k n ∧ Cond.instanceMethod k.1 ∈ lw_gd ∧ Cond.selects k.1.cls k.1 k.1 ∈ lw_gd
def m_MS (k : mI) (n : Nat) : Prop := Cond.code k.1 k.2.1 k.2.2.1 k.2.2.2.1 ∈ lw_gd ∧ Cond.initialized k.1.cls ∈ lw_gd ∧ m_nm k n ∧ Cond.static k.1 ∈ lw_gd
def m_rv (k : mI) (r : Int) : List mV := match k.2.2.2.1 with
  | none => []
  | some _ => [v_I r]
theorem m_blind {D : va_G} {cI cB cA : ClassId} {ad : Nat → Nat} {M : mM} {sz : Nat} {av : List Value} : FrameBlind (va_Pc av (fun U => U.heap.size = sz ∧ va_P D vwCl (m_ws cI cB cA ad M) U.heap ∧ va_K D vwCl (m_tys cI cB cA) U ∧ va_D (fun _ => True) (m_ws cI cB cA ad M))) := by
  intro a U g mk q
  obtain ⟨q0, q1, qP, qK, qD⟩ := q
  exact ⟨q0, q1, qP, va_K.moved (u := U) (U := U.calling g mk a) (Vm.Alike.refl U.vm) qK, qD⟩
section MC
variable {k : mI} {pc : Nat} {ls st : List mV} {M : mM} {Q : Int → mM → Prop}
/-- behind a call -/
theorem m_behind {p : Program} {l : Launch} {e : Env} {R : Room} {s : State} {m : MethodId} {args : Array Value} {below : List Frame} {meth : Method} {c : Code} {cells slots : Nat} {Qw : State → Prop} {D : va_G} {cI cB cA : ClassId} {ad : Nat → Nat} {A : Nat → Prop} {b : Nat} {H : Heap} {locs : List Loc} {lr : Array Slot} {k' : mI} {a : Array Value} {st0 : List Value} {Qc : Int → mM → Prop}
    (hC : m_C k p R s m args meth c cells slots) (hSc : m_Sc k s A b) (hls : m_oks ls) (hst : m_oks st) (hW : m_Wd D cI cB cA ad A s H locs M) (hL : m_L ad b k.2.2.1 lr ls)
    (hret : ∀ (r : Int) (M' : mM) (H' : Heap) (locs' : List Loc) (lr' : Array Slot) (pc' : Nat), m_ir r → m_okM M' → Q r M' → m_Wd D cI cB cA ad A s H' locs' M' → m_ends k pc' r → W p l e R s m args below meth c H' locs' cells slots Qw (F0 m pc' lr' (m_rs k r)))
    (h : ∀ r M', m_ir r → m_okM M' → Qc r M' → X_ k (pc + 3) ls (m_rv k' r ++ st) M' Q)
    (hr : va_Run p l e R s m args below meth c H locs cells slots 0 0 (F0 m pc lr st0) (st.map (m_dv ad b)) (m_Qc k'.2.2.2.1 Qc (fun M' t => va_P D vwCl (m_ws cI cB cA ad M') t.heap ∧ va_K D vwCl (m_tys cI cB cA) t ∧ va_D (va_A (m_ws cI cB cA ad M) H.size) (m_ws cI cB cA ad M')) (va_A (m_ws cI cB cA ad M) H.size) a) (va_A (m_ws cI cB cA ad M) H.size)) :
    W p l e R s m args below meth c H locs cells slots Qw (F0 m pc lr st0) := by
  obtain ⟨hK, hP, hD, hS⟩ := hW
  have hF : ∀ q, va_A (m_ws cI cB cA ad M) H.size q → A q := by
    intro q hq
    rcases hq with ⟨i, x, hi⟩ | hq
    · exact hD.2 i (q, x) hi
    · exact hSc.1 q (Nat.le_trans hS.1 hq)
  obtain ⟨y', cc', nL', ret', fr', lo', sc'⟩ := k'
  cases ret' with
  | none =>
    refine va_callv (a := a) (post := fun M' => m_okM M' ∧ Qc 0 M') hr hS (fun q _ hq => hF q hq) hF (fun u t H1 locs1 ht hvm hw hB hz1 hk1 hS1 => ?_)
    obtain ⟨hP1, hK1, hD1⟩ := hB
    rw [ht] at hP1
    exact h 0 u m_ir0 hw.1 hw.2 p l e R s m args below meth c cells slots Qw D cI cB cA ad A b H1 locs1 lr hC hSc hls hst hw.1 ⟨hK, hP1, hD1.weaken (fun _ q _ hq => hF q.1 hq), hS1⟩ hL hret
  | some ty =>
    refine va_calli (a := a) (post := fun r M' => ∃ z : Int, r = Int32.ofInt z ∧ m_ir z ∧ m_okM M' ∧ Qc z M') hr hS (fun q _ hq => hF q hq) hF (fun r u t H1 locs1 ht hvm hw hB hz1 hk1 hS1 => ?_)
    obtain ⟨hP1, hK1, hD1⟩ := hB
    rw [ht] at hP1
    obtain ⟨z, rfl, hz, hM1, hq1⟩ := hw
    exact h z u hz hM1 hq1 p l e R s m args below meth c cells slots Qw D cI cB cA ad A b H1 locs1 lr hC hSc hls (m_oks_cons (v := v_I z) hz hst) hM1 ⟨hK, hP1, hD1.weaken (fun _ q _ hq => hF q.1 hq), hS1⟩ hL hret
theorem m_callB {p : Program} {R : Room} {s : State} {m : MethodId} {args : Array Value} {meth : Method} {c : Code} {cells slots idx n : Nat} {k' : mI} (hC : m_C k p R s m args meth c cells slots) (h1 : Cond.code k'.1 k'.2.1 k'.2.2.1 k'.2.2.2.1 ∈ lw_gd) (h2 : Cond.initialized k'.1.cls ∈ lw_gd) (h3 : m_nm k' n) (hl : Cond.methodLink k.1.cls idx k'.1 ∈ lw_gd) (hR : k'.2.2.2.2.1 + 1 ≤ k.2.2.2.2.1 ∧ 8 + (k'.2.2.1 + 11) + k'.2.2.2.2.2.1 ≤ k.2.2.2.2.2.1) :
    CallB R s args k.1.cls idx k'.1 k'.2.1 k'.2.2.1 k'.2.2.2.1 (m_ws0 k') (m_rm k') 0 0 n :=
  callB_of n hC.2.2.2.2.1 (m_goodIn h1) rfl rfl rfl (hC.2.2.2.2.1 _ h2) (hC.2.2.2.2.1 _ hl) h3 ⟨Nat.le_trans hR.1 hC.2.2.2.2.2.2.2.1, Nat.le_trans hR.2 hC.2.2.2.2.2.2.2.2.1⟩
theorem x_callV {k' : mI} {idx q ci n nn : Nat} {T : u_T} {as : List mV} {Qc : Int → mM → Prop} (hd : decode k.2.1 pc = .ok (.invokevirtual idx, 3)) (hm : m_MV k' as.length) (hl : Cond.methodLink k.1.cls idx k'.1 ∈ lw_gd) (hR : k'.2.2.2.2.1 + 1 ≤ k.2.2.2.2.1 ∧ 8 + (k'.2.2.1 + 11) + k'.2.2.2.2.2.1 ≤ k.2.2.2.2.2.1)
    (hs : m_sh q = (ci, n)) (hcl : vwCl[ci]? = some (k'.1.cls, T, nn)) (h8 : ∀ ad b, ((st.map (m_dv ad b)).map fun v => v.category).sum ≤ 8) (hc : C_ k' (v_P q :: as) M Qc)
    (h : ∀ r M', m_ir r → m_okM M' → Qc r M' → X_ k (pc + 3) ls (m_rv k' r ++ st) M' Q) : X_ k pc ls (as.reverse ++ v_P q :: st) M Q := by
  intro p l e R s m args below meth c cells slots Qw D cI cB cA ad A b H locs lr hC hSc hls hst hM hW hL hret
  have hci : ci < 20 := by
    have := (List.getElem?_eq_some_iff.mp hcl).1
    simp at this
    omega
  have ho1 : m_oks (v_P q :: as) := fun v hv => hst v (by
    rcases List.mem_cons.mp hv with rfl | hv
    · exact List.mem_append_right _ List.mem_cons_self
    · exact List.mem_append_left _ (List.mem_reverse.mpr hv))
  have ho2 : m_oks st := fun v hv => hst v (List.mem_append_right _ (List.mem_cons_of_mem _ hv))
  refine m_behind (k' := k') (a := (Value.ref (ad q) :: as.map (m_dv ad b)).toArray) hC hSc hls ho2 hW hL hret h ?_
  exact va_runV (As := as.map (m_dv ad b)) (rest := st.map (m_dv ad b)) (b := ad q) (nL := k.2.2.1) ⟨hC.1, hC.2.1, hC.2.2.1, hC.2.2.2.1, hC.2.2.2.2.1⟩ (hc ho1 hM l D cI cB cA ad b H.size) ⟨m_callB (n := as.length) hC hm.1 hm.2.1 hm.2.2.1 hl hR, hC.2.2.2.2.1 _ hm.2.2.2.1, hC.2.2.2.2.1 _ hm.2.2.2.2⟩
    ⟨m_blind, va_recv hW.1 hW.2.1 (ci := ci) (q0 := q) hcl (m_at_o hs hci), fun U hU hWm => ⟨rfl, by rw [hU], by rw [hU]; exact hW.2.1, va_K.moved hWm.alike hW.1, hW.2.2.1.weaken (fun _ _ _ _ => trivial)⟩⟩ rfl (by rw [List.length_map]) hL.1 (by simp [m_dv]) (lv_room (h8 ad b)) hd ⟨hC.2.2.2.2.2.2.2.2.2.1, hC.2.2.2.2.2.2.2.2.2.2⟩
theorem x_callS {k' : mI} {idx : Nat} {as : List mV} {Qc : Int → mM → Prop} (hd : decode k.2.1 pc = .ok (.invokestatic idx, 3)) (hm : m_MS k' as.length) (hl : Cond.methodLink k.1.cls idx k'.1 ∈ lw_gd) (hR : k'.2.2.2.2.1 + 1 ≤ k.2.2.2.2.1 ∧ 8 + (k'.2.2.1 + 11) + k'.2.2.2.2.2.1 ≤ k.2.2.2.2.2.1)
    (h8 : ∀ ad b, ((st.map (m_dv ad b)).map fun v => v.category).sum ≤ 8) (hc : C_ k' as M Qc)
    (h : ∀ r M', m_ir r → m_okM M' → Qc r M' → X_ k (pc + 3) ls (m_rv k' r ++ st) M' Q) : X_ k pc ls (as.reverse ++ st) M Q := by
  intro p l e R s m args below meth c cells slots Qw D cI cB cA ad A b H locs lr hC hSc hls hst hM hW hL hret
  have ho1 : m_oks as := fun v hv => hst v (List.mem_append_left _ (List.mem_reverse.mpr hv))
  have ho2 : m_oks st := fun v hv => hst v (List.mem_append_right _ hv)
  refine m_behind (k' := k') (a := (as.map (m_dv ad b)).toArray) hC hSc hls ho2 hW hL hret h ?_
  exact va_runS (As := as.map (m_dv ad b)) (rest := st.map (m_dv ad b)) (nL := k.2.2.1) ⟨hC.1, hC.2.1, hC.2.2.1, hC.2.2.2.1, hC.2.2.2.2.1⟩ (hc ho1 hM l D cI cB cA ad b H.size) ⟨m_callB (n := as.length) hC hm.1 hm.2.1 hm.2.2.1 hl hR, hC.2.2.2.2.1 _ hm.2.2.2⟩
    ⟨m_blind, fun U hU hWm => ⟨rfl, by rw [hU], by rw [hU]; exact hW.2.1, va_K.moved hWm.alike hW.1, hW.2.2.1.weaken (fun _ _ _ _ => trivial)⟩⟩ rfl (by rw [List.length_map]) hL.1 (by simp) (lv_room (h8 ad b)) hd ⟨hC.2.2.2.2.2.2.2.2.2.1, hC.2.2.2.2.2.2.2.2.2.2⟩
theorem m_args1 (vs : List Value) : ∀ (i j : Nat) (v : Value), (∀ w ∈ vs, w.category = 1) → vs[j]? = some v → (i + j, v) ∈ lv_args i vs := by
  induction vs with
  | nil => intro i j v _ h; simp at h
  | cons w vs ih =>
    intro i j v hw h
    have e : lv_args i (w :: vs) = (i, w) :: lv_args (i + 1) vs := by
      show (i, w) :: lv_args (if w.category = 2 then i + 2 else i + 1) vs = _
      rw [if_neg (by rw [hw w List.mem_cons_self]; decide)]
    rw [e]
    cases j with
    | zero =>
      cases h
      exact List.mem_cons_self
    | succ j =>
      have := ih (i + 1) j v (fun x hx => hw x (List.mem_cons_of_mem _ hx)) h
      rw [show i + 1 + j = i + (j + 1) by omega] at this
      exact List.mem_cons_of_mem _ this
theorem m_sl1 (vs : List Value) (h : ∀ w ∈ vs, w.category = 1) : (lg_sl vs).length = vs.length := by
  induction vs with
  | nil => rfl
  | cons w vs ih =>
    have e : lg_sl (w :: vs) = [.val w] ++ lg_sl vs := by
      unfold lg_sl
      rw [List.flatMap_cons, if_neg (by rw [h w List.mem_cons_self]; decide)]
    rw [e, List.length_append, ih (fun x hx => h x (List.mem_cons_of_mem _ hx))]
    simp
    omega
/-- a method's contract out of its walk -/
theorem c_intro {as : List mV} (hp : plainName k.1.cls = true) (hsc : k.2.2.2.2.2.2 = none) (hn : as.length ≤ k.2.2.1) (h1 : ∀ v ∈ as, ∀ ad b, (m_dv ad b v).category = 1) (h : X_ k 0 (as ++ List.replicate (k.2.2.1 - as.length) v_U) [] M Q) : C_ k as M Q := by
  intro hok hM l D cI cB cA ad b sz
  refine Met.ofW (cc := k.2.1) (maxL := k.2.2.1) (ret := k.2.2.2.1) hp rfl ?_
  intro p e s m args below meth c s₁ B hml hv
  obtain ⟨rfl, hsz, hP, hK, hD0⟩ := hv
  have hts := atoms_spec (ws := m_ws0 k) B.pre
  have hown : s.vm.findClass k.1.cls = some m.cls := findClass_of_methodNamed B.named
  have hlocks := B.notSynchronized
  subst hsz
  have hcat : ∀ w ∈ as.map (m_dv ad b), w.category = 1 := by
    intro w hw
    obtain ⟨v, hv, rfl⟩ := List.mem_map.mp hw
    exact h1 v hv ad b
  have hl := lv_entry (as.map (m_dv ad b)) (n := k.2.2.1) (by rw [m_sl1 _ hcat, List.length_map]; exact hn)
  rw [lg_entry_eq]
  generalize (lg_sl (as.map (m_dv ad b)) ++ List.replicate (k.2.2.1 - (lg_sl (as.map (m_dv ad b))).length) Slot.unset).toArray = lr at hl ⊢
  have hL : m_L ad b k.2.2.1 lr (as ++ List.replicate (k.2.2.1 - as.length) v_U) := by
    refine ⟨hl.1, hl.2.1, by simp; omega, fun i v hi hv => ?_⟩
    by_cases hlt : i < as.length
    · rw [List.getElem?_append_left hlt] at hi
      have hi2 : (as.map (m_dv ad b))[i]? = some (m_dv ad b v) := by rw [List.getElem?_map, hi]; rfl
      have := m_args1 (as.map (m_dv ad b)) 0 i _ hcat hi2
      rw [Nat.zero_add] at this
      exact ⟨hl.2.2 _ this, hcat _ (List.mem_of_getElem? hi2)⟩
    · rw [List.getElem?_append_right (by omega)] at hi
      exact absurd (List.eq_of_mem_replicate (List.mem_of_getElem? hi)) hv
  have hok2 : m_oks (as ++ List.replicate (k.2.2.1 - as.length) v_U) := by
    intro v hv
    rcases List.mem_append.mp hv with q | q
    · exact hok v q
    · rw [List.eq_of_mem_replicate q]
      exact trivial
  refine h p l e (headSpec (m_ws0 k) (m_rm k)).room s m (as.map (m_dv ad b)).toArray below meth c 0 0 _ D cI cB cA ad (va_A (m_ws cI cB cA ad M) s.heap.size) b s.heap [] lr
    ⟨B.exec, B.bytes, hml, hown, fun w hw => hts w (List.mem_cons_of_mem _ hw), B.returns, hlocks, Nat.le_refl _, Nat.le_refl _, Nat.zero_le _, Nat.zero_le _⟩ ⟨fun q hq => Or.inr hq, fun L xs hq => by rw [hsc] at hq; cases hq⟩ hok2 m_oks_nil hM ⟨hK, hP, hD0.self, va_S.rf⟩ hL ?_
  intro r M' H' locs' lr' pc' hr hM' hQ hW' hends
  obtain ⟨hK', hP', hD', hS'⟩ := hW'
  have hrt := B.returns
  obtain ⟨y', cc', nL', ret', fr', lo', sc'⟩ := k
  rcases hends with ⟨e1, e2, hdg⟩ | ⟨ty, e1, hnar, hdg⟩
  · dsimp only at e1
    subst e1
    subst e2
    exact W.vret B.exec B.bytes hrt (fun t ht hWm => ⟨⟨M', rfl, ⟨hM', hQ⟩, by rw [ht]; exact hP', va_K.moved hWm.alike hK', hD'⟩, hS'.F ht⟩) hS'.2.2 hdg
  · dsimp only at e1
    subst e1
    exact W.zret B.exec B.bytes hrt hnar (fun t ht hWm => ⟨⟨Int32.ofInt r, M', rfl, ⟨r, rfl, hr, hM', hQ⟩, by rw [ht]; exact hP', va_K.moved hWm.alike hK', hD'⟩, hS'.F ht⟩) hS'.2.2 hdg
end MC
