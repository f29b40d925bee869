/-! the rules of the small machine -/
/-- what the tables say of a class; of a field link -/
def m_cls (ci n : Nat) (C : String) (T : u_T) (ty0 : Nat → FieldType) : Prop := (∀ w ∈ u_ws C T n, w ∈ lw_gd) ∧ (∀ k, k < n → parseFieldDescriptor (T k).2.2.1 = some (ty0 k)) ∧ (∀ a, a < n → ∀ b, b < n → a ≠ b → (T a).2.1 ≠ (T b).2.1) ∧ vwCl[ci]? = some (C, T, n)
def m_fl (own : String) (idx : Nat) (T : u_T) (j : Nat) : Prop := Cond.fieldLink own idx (T j).1 (T j).2.1 (T j).2.2.1 ∈ lw_gd
theorem cf_X0 : m_cls 0 5 RX0 TX0 tyX0 := ⟨inF_X0, tyX0_ok, nmX0, rfl⟩
theorem cf_X1 : m_cls 1 8 RX1 TX1 tyX1 := ⟨inF_X1, tyX1_ok, nmX1, rfl⟩
theorem cf_X2 : m_cls 2 8 RX2 TX2 tyX2 := ⟨inF_X2, tyX2_ok, nmX2, rfl⟩
theorem cf_X4 : m_cls 3 17 RX4 TX4 tyX4 := ⟨inF_X4, tyX4_ok, nmX4, rfl⟩
theorem cf_X5 : m_cls 4 6 RX5 TX5 tyX5 := ⟨inF_X5, tyX5_ok, nmX5, rfl⟩
theorem cf_X6 : m_cls 5 9 RX6 TX6 tyX6 := ⟨inF_X6, tyX6_ok, nmX6, rfl⟩
theorem cf_X7 : m_cls 6 6 RX7 TX7 tyX7 := ⟨inF_X7, tyX7_ok, nmX7, rfl⟩
theorem cf_X8 : m_cls 7 7 RX8 TX8 tyX8 := ⟨inF_X8, tyX8_ok, nmX8, rfl⟩
theorem cf_X9 : m_cls 8 9 RX9 TX9 tyX9 := ⟨inF_X9, tyX9_ok, nmX9, rfl⟩
theorem cf_X10 : m_cls 9 9 RX10 TX10 tyX10 := ⟨inF_X10, tyX10_ok, nmX10, rfl⟩
theorem cf_X11 : m_cls 10 39 RX11 TX11 tyX11 := ⟨inF_X11, tyX11_ok, nmX11, rfl⟩
section MR
variable {k : mI} {pc : Nat} {ls st : List mV} {M : mM} {Q : Int → mM → Prop}
theorem x_iconst {n : Int} (hd : decode k.2.1 pc = .ok (.iconst n, 1)) (hn : m_ir n) (h : X_ k (pc + 1) ls (v_I n :: st) M Q) : X_ k pc ls st M Q := by
  intro p l e R s m args below meth c cells slots Qw D cI cB cA ad A b H locs lr hC hSc hls hst hM hW hL hret
  refine lv_iconst hC.1 hC.2.1 hd rfl ?_
  exact h p l e R s m args below meth c cells slots Qw D cI cB cA ad A b H locs lr hC hSc hls (m_oks_cons hn hst) hM hW hL hret
theorem x_bipush {n : Int} (hd : decode k.2.1 pc = .ok (.bipush n, 2)) (hn : m_ir n) (hv : (Int8.ofInt n).toInt32 = Int32.ofInt n) (h : X_ k (pc + 2) ls (v_I n :: st) M Q) : X_ k pc ls st M Q := by
  intro p l e R s m args below meth c cells slots Qw D cI cB cA ad A b H locs lr hC hSc hls hst hM hW hL hret
  refine lv_bipush hC.1 hC.2.1 hd hv ?_
  exact h p l e R s m args below meth c cells slots Qw D cI cB cA ad A b H locs lr hC hSc hls (m_oks_cons hn hst) hM hW hL hret
theorem x_sipush {n : Int} (hd : decode k.2.1 pc = .ok (.sipush n, 3)) (hn : m_ir n) (hv : (Int16.ofInt n).toInt32 = Int32.ofInt n) (h : X_ k (pc + 3) ls (v_I n :: st) M Q) : X_ k pc ls st M Q := by
  intro p l e R s m args below meth c cells slots Qw D cI cB cA ad A b H locs lr hC hSc hls hst hM hW hL hret
  refine lv_sipush hC.1 hC.2.1 hd hv ?_
  exact h p l e R s m args below meth c cells slots Qw D cI cB cA ad A b H locs lr hC hSc hls (m_oks_cons hn hst) hM hW hL hret
theorem x_ldc {n : Int} {idx : Nat} {v : Int32} (hd : decode k.2.1 pc = .ok (.ldc idx, 2)) (hc : Cond.constant k.1.cls idx v ∈ lw_gd) (hv : v = Int32.ofInt n) (hn : m_ir n) (h : X_ k (pc + 2) ls (v_I n :: st) M Q) : X_ k pc ls st M Q := by
  intro p l e R s m args below meth c cells slots Qw D cI cB cA ad A b H locs lr hC hSc hls hst hM hW hL hret
  subst hv
  refine lv_ldc hC.1 hC.2.1 hC.2.2.2.1 (hC.2.2.2.2.1 _ hc) hd ?_
  exact h p l e R s m args below meth c cells slots Qw D cI cB cA ad A b H locs lr hC hSc hls (m_oks_cons hn hst) hM hW hL hret
theorem x_ldc_w {n : Int} {idx : Nat} {v : Int32} (hd : decode k.2.1 pc = .ok (.ldc_w idx, 3)) (hc : Cond.constant k.1.cls idx v ∈ lw_gd) (hv : v = Int32.ofInt n) (hn : m_ir n) (h : X_ k (pc + 3) ls (v_I n :: st) M Q) : X_ k pc ls st M Q := by
  intro p l e R s m args below meth c cells slots Qw D cI cB cA ad A b H locs lr hC hSc hls hst hM hW hL hret
  subst hv
  refine lv_ldcw hC.1 hC.2.1 hC.2.2.2.1 (hC.2.2.2.2.1 _ hc) hd ?_
  exact h p l e R s m args below meth c cells slots Qw D cI cB cA ad A b H locs lr hC hSc hls (m_oks_cons hn hst) hM hW hL hret
theorem x_lconst {n : Fin 2} {z : Int} (hd : decode k.2.1 pc = .ok (.lconst n, 1)) (hz : Int64.ofNat (n : Nat) = (Int32.ofInt z).toInt64) (hn : m_ir z) (h : X_ k (pc + 1) ls (v_L z :: st) M Q) : X_ k pc ls st M Q := by
  intro p l e R s m args below meth c cells slots Qw D cI cB cA ad A b H locs lr hC hSc hls hst hM hW hL hret
  refine lv_lconst hC.1 hC.2.1 hd hz ?_
  exact h p l e R s m args below meth c cells slots Qw D cI cB cA ad A b H locs lr hC hSc hls (m_oks_cons hn hst) hM hW hL hret
theorem x_ldc2 {z : Int} {idx : Nat} {v : Int64} (hd : decode k.2.1 pc = .ok (.ldc2_w idx, 3)) (hc : Cond.constantLong k.1.cls idx v ∈ lw_gd) (hv : v = (Int32.ofInt z).toInt64) (hn : m_ir z) (h : X_ k (pc + 3) ls (v_L z :: st) M Q) : X_ k pc ls st M Q := by
  intro p l e R s m args below meth c cells slots Qw D cI cB cA ad A b H locs lr hC hSc hls hst hM hW hL hret
  subst hv
  refine lv_ldc2 hC.1 hC.2.1 hC.2.2.2.1 (hC.2.2.2.2.1 _ hc) hd ?_
  exact h p l e R s m args below meth c cells slots Qw D cI cB cA ad A b H locs lr hC hSc hls (m_oks_cons hn hst) hM hW hL hret
theorem x_iload_n {n : Fin 4} {i : Nat} {x : Int} (hd : decode k.2.1 pc = .ok (.iload_n n, 1)) (hi : (n : Nat) = i) (hl : ls[i]? = some (v_I x)) (h : X_ k (pc + 1) ls (v_I x :: st) M Q) : X_ k pc ls st M Q := by
  intro p l e R s m args below meth c cells slots Qw D cI cB cA ad A b H locs lr hC hSc hls hst hM hW hL hret
  refine lv_iload_n hC.1 hC.2.1 hd hi (hL.2.2.2 i _ hl (fun q => by cases q)).1 ?_
  exact h p l e R s m args below meth c cells slots Qw D cI cB cA ad A b H locs lr hC hSc hls (m_oks_cons (m_oks_at hls hl) hst) hM hW hL hret
theorem x_iload {i : Nat} {x : Int} (hd : decode k.2.1 pc = .ok (.iload i, 2)) (hl : ls[i]? = some (v_I x)) (h : X_ k (pc + 2) ls (v_I x :: st) M Q) : X_ k pc ls st M Q := by
  intro p l e R s m args below meth c cells slots Qw D cI cB cA ad A b H locs lr hC hSc hls hst hM hW hL hret
  refine lv_iload hC.1 hC.2.1 hd (hL.2.2.2 i _ hl (fun q => by cases q)).1 ?_
  exact h p l e R s m args below meth c cells slots Qw D cI cB cA ad A b H locs lr hC hSc hls (m_oks_cons (m_oks_at hls hl) hst) hM hW hL hret
theorem x_aload_n {n : Fin 4} {i : Nat} {x : Nat} (hd : decode k.2.1 pc = .ok (.aload_n n, 1)) (hi : (n : Nat) = i) (hl : ls[i]? = some (v_P x)) (h : X_ k (pc + 1) ls (v_P x :: st) M Q) : X_ k pc ls st M Q := by
  intro p l e R s m args below meth c cells slots Qw D cI cB cA ad A b H locs lr hC hSc hls hst hM hW hL hret
  refine lv_aload_n hC.1 hC.2.1 hd hi (hL.2.2.2 i _ hl (fun q => by cases q)).1 ?_
  exact h p l e R s m args below meth c cells slots Qw D cI cB cA ad A b H locs lr hC hSc hls (m_oks_cons (m_oks_at hls hl) hst) hM hW hL hret
theorem x_aload {i : Nat} {x : Nat} (hd : decode k.2.1 pc = .ok (.aload i, 2)) (hl : ls[i]? = some (v_P x)) (h : X_ k (pc + 2) ls (v_P x :: st) M Q) : X_ k pc ls st M Q := by
  intro p l e R s m args below meth c cells slots Qw D cI cB cA ad A b H locs lr hC hSc hls hst hM hW hL hret
  refine lv_aload hC.1 hC.2.1 hd (hL.2.2.2 i _ hl (fun q => by cases q)).1 ?_
  exact h p l e R s m args below meth c cells slots Qw D cI cB cA ad A b H locs lr hC hSc hls (m_oks_cons (m_oks_at hls hl) hst) hM hW hL hret
theorem x_sload_n {n : Fin 4} {i : Nat} (hd : decode k.2.1 pc = .ok (.aload_n n, 1)) (hi : (n : Nat) = i) (hl : ls[i]? = some v_S) (h : X_ k (pc + 1) ls (v_S :: st) M Q) : X_ k pc ls st M Q := by
  intro p l e R s m args below meth c cells slots Qw D cI cB cA ad A b H locs lr hC hSc hls hst hM hW hL hret
  refine lv_aload_n hC.1 hC.2.1 hd hi (hL.2.2.2 i _ hl (fun q => by cases q)).1 ?_
  exact h p l e R s m args below meth c cells slots Qw D cI cB cA ad A b H locs lr hC hSc hls (m_oks_cons (m_oks_at hls hl) hst) hM hW hL hret
def m_lv (ad : Nat → Nat) (b : Nat) (ls : List mV) : List (Nat × Value) := (List.range ls.length).filterMap fun i => (ls[i]?).bind fun v => if v = v_U then none else some (i, m_dv ad b v)
theorem m_lv_mem {ad : Nat → Nat} {b : Nat} {ls : List mV} {q : Nat × Value} : q ∈ m_lv ad b ls ↔ ∃ v, ls[q.1]? = some v ∧ v ≠ v_U ∧ q.2 = m_dv ad b v := by
  unfold m_lv
  rw [List.mem_filterMap]
  constructor
  · rintro ⟨i, -, h⟩
    cases hv : ls[i]? with
    | none => rw [hv] at h; cases h
    | some v =>
      rw [hv] at h
      dsimp only [Option.bind] at h
      split at h
      · cases h
      · cases h
        exact ⟨v, hv, by assumption, rfl⟩
  · rintro ⟨v, hv, hn, he⟩
    refine ⟨q.1, List.mem_range.mpr (List.getElem?_eq_some_iff.mp hv).1, ?_⟩
    rw [hv]
    dsimp only [Option.bind]
    rw [if_neg hn, ← he]
theorem m_L_has {ad : Nat → Nat} {b nL : Nat} {lr : Array Slot} {ls : List mV} (h : m_L ad b nL lr ls) : lv_has lr nL (m_lv ad b ls) := by
  refine ⟨h.1, h.2.1, fun q hq => ?_⟩
  obtain ⟨v, h1, h2, h3⟩ := m_lv_mem.mp hq
  rw [h3]
  exact (h.2.2.2 q.1 v h1 h2).1
theorem m_L_set {ad : Nat → Nat} {b nL i : Nat} {lr lr' : Array Slot} {ls : List mV} {v : mV} (h : m_L ad b nL lr ls) (hc : (m_dv ad b v).category = 1) (h' : lv_has lr' nL ((i, m_dv ad b v) :: (m_lv ad b ls).filter (fun q => !(q.1 == i) && !(q.1 + 1 == i && q.2.category == 2)))) : m_L ad b nL lr' (ls.set i v) := by
  refine ⟨h'.1, h'.2.1, by rw [List.length_set]; exact h.2.2.1, fun j w hj hw => ?_⟩
  rw [List.getElem?_set] at hj
  by_cases e : i = j
  · subst e
    rw [if_pos rfl] at hj
    split at hj
    · cases hj
      exact ⟨h'.2.2 (i, m_dv ad b v) List.mem_cons_self, hc⟩
    · cases hj
  · rw [if_neg e] at hj
    have hq := h.2.2.2 j w hj hw
    refine ⟨h'.2.2 (j, m_dv ad b w) (List.mem_cons_of_mem _ (List.mem_filter.mpr ⟨m_lv_mem.mpr ⟨w, hj, hw, rfl⟩, ?_⟩)), hq.2⟩
    have e2 : ¬ j = i := fun q => e q.symm
    simp [e2, hq.2]
theorem x_istore_n {n : Fin 4} {i : Nat} {x : Int} (hd : decode k.2.1 pc = .ok (.istore_n n, 1)) (hi : (n : Nat) = i) (hn : i < k.2.2.1) (h : X_ k (pc + 1) (ls.set i (v_I x)) st M Q) : X_ k pc ls (v_I x :: st) M Q := by
  intro p l e R s m args below meth c cells slots Qw D cI cB cA ad A b H locs lr hC hSc hls hst hM hW hL hret
  refine lv_istore_n hC.1 hC.2.1 hd hi (m_L_has hL) hn rfl (fun lr2 hl2 => ?_)
  exact h p l e R s m args below meth c cells slots Qw D cI cB cA ad A b H locs lr2 hC hSc (m_oks_set hls (m_oks_head hst)) (m_oks_tail hst) hM hW (m_L_set hL rfl hl2) hret
theorem x_istore {i : Nat} {x : Int} (hd : decode k.2.1 pc = .ok (.istore i, 2)) (hn : i < k.2.2.1) (h : X_ k (pc + 2) (ls.set i (v_I x)) st M Q) : X_ k pc ls (v_I x :: st) M Q := by
  intro p l e R s m args below meth c cells slots Qw D cI cB cA ad A b H locs lr hC hSc hls hst hM hW hL hret
  refine lv_istore hC.1 hC.2.1 hd (m_L_has hL) hn rfl (fun lr2 hl2 => ?_)
  exact h p l e R s m args below meth c cells slots Qw D cI cB cA ad A b H locs lr2 hC hSc (m_oks_set hls (m_oks_head hst)) (m_oks_tail hst) hM hW (m_L_set hL rfl hl2) hret
theorem x_astore_n {n : Fin 4} {i : Nat} {x : Nat} (hd : decode k.2.1 pc = .ok (.astore_n n, 1)) (hi : (n : Nat) = i) (hn : i < k.2.2.1) (h : X_ k (pc + 1) (ls.set i (v_P x)) st M Q) : X_ k pc ls (v_P x :: st) M Q := by
  intro p l e R s m args below meth c cells slots Qw D cI cB cA ad A b H locs lr hC hSc hls hst hM hW hL hret
  refine lv_astore_n hC.1 hC.2.1 hd hi (m_L_has hL) hn rfl (fun lr2 hl2 => ?_)
  exact h p l e R s m args below meth c cells slots Qw D cI cB cA ad A b H locs lr2 hC hSc (m_oks_set hls (m_oks_head hst)) (m_oks_tail hst) hM hW (m_L_set hL rfl hl2) hret
theorem x_astore {i : Nat} {x : Nat} (hd : decode k.2.1 pc = .ok (.astore i, 2)) (hn : i < k.2.2.1) (h : X_ k (pc + 2) (ls.set i (v_P x)) st M Q) : X_ k pc ls (v_P x :: st) M Q := by
  intro p l e R s m args below meth c cells slots Qw D cI cB cA ad A b H locs lr hC hSc hls hst hM hW hL hret
  refine lv_astore hC.1 hC.2.1 hd (m_L_has hL) hn rfl (fun lr2 hl2 => ?_)
  exact h p l e R s m args below meth c cells slots Qw D cI cB cA ad A b H locs lr2 hC hSc (m_oks_set hls (m_oks_head hst)) (m_oks_tail hst) hM hW (m_L_set hL rfl hl2) hret
theorem x_iinc {i : Nat} {n : Int} {x : Int} (hd : decode k.2.1 pc = .ok (.iinc i n, 3)) (hl : ls[i]? = some (v_I x)) (hr : m_ir (x + n)) (hn : i < k.2.2.1) (h : X_ k (pc + 3) (ls.set i (v_I (x + n))) st M Q) : X_ k pc ls st M Q := by
  intro p l e R s m args below meth c cells slots Qw D cI cB cA ad A b H locs lr hC hSc hls hst hM hW hL hret
  obtain ⟨kk, hkk⟩ := List.getElem?_of_mem (m_lv_mem (ad := ad) (b := b).mpr ⟨_, hl, (fun q => by cases q), rfl⟩ : (i, m_dv ad b (v_I x)) ∈ m_lv ad b ls)
  refine lv_iinc hC.1 hC.2.1 hd (m_L_has hL) (k := kk) hkk (v := Int32.ofInt (x + n)) (by rw [Int32.ofInt_add]) hn rfl (fun lr2 hl2 => ?_)
  exact h p l e R s m args below meth c cells slots Qw D cI cB cA ad A b H locs lr2 hC hSc (m_oks_set hls hr) hst hM hW (m_L_set (v := v_I (x + n)) hL rfl hl2) hret
theorem x_iadd {x y : Int} (hd : decode k.2.1 pc = .ok (.iadd, 1)) (hr : m_ir (x + y)) (h : X_ k (pc + 1) ls (v_I (x + y) :: st) M Q) : X_ k pc ls (v_I y :: v_I x :: st) M Q := by
  intro p l e R s m args below meth c cells slots Qw D cI cB cA ad A b H locs lr hC hSc hls hst hM hW hL hret
  refine lv_iadd hC.1 hC.2.1 hd ?_
  rw [← Int32.ofInt_add]
  exact h p l e R s m args below meth c cells slots Qw D cI cB cA ad A b H locs lr hC hSc hls (m_oks_cons hr (m_oks_tail (m_oks_tail hst))) hM hW hL hret
theorem x_isub {x y : Int} (hd : decode k.2.1 pc = .ok (.isub, 1)) (hr : m_ir (x - y)) (h : X_ k (pc + 1) ls (v_I (x - y) :: st) M Q) : X_ k pc ls (v_I y :: v_I x :: st) M Q := by
  intro p l e R s m args below meth c cells slots Qw D cI cB cA ad A b H locs lr hC hSc hls hst hM hW hL hret
  refine lv_isub hC.1 hC.2.1 hd ?_
  rw [← Int32.ofInt_sub]
  exact h p l e R s m args below meth c cells slots Qw D cI cB cA ad A b H locs lr hC hSc hls (m_oks_cons hr (m_oks_tail (m_oks_tail hst))) hM hW hL hret
theorem x_imul {x y : Int} (hd : decode k.2.1 pc = .ok (.imul, 1)) (hr : m_ir (x * y)) (h : X_ k (pc + 1) ls (v_I (x * y) :: st) M Q) : X_ k pc ls (v_I y :: v_I x :: st) M Q := by
  intro p l e R s m args below meth c cells slots Qw D cI cB cA ad A b H locs lr hC hSc hls hst hM hW hL hret
  refine lv_imul hC.1 hC.2.1 hd ?_
  rw [← Int32.ofInt_mul]
  exact h p l e R s m args below meth c cells slots Qw D cI cB cA ad A b H locs lr hC hSc hls (m_oks_cons hr (m_oks_tail (m_oks_tail hst))) hM hW hL hret
theorem x_ineg {x : Int} (hd : decode k.2.1 pc = .ok (.ineg, 1)) (hr : m_ir (-x)) (h : X_ k (pc + 1) ls (v_I (-x) :: st) M Q) : X_ k pc ls (v_I x :: st) M Q := by
  intro p l e R s m args below meth c cells slots Qw D cI cB cA ad A b H locs lr hC hSc hls hst hM hW hL hret
  refine lv_ineg hC.1 hC.2.1 hd ?_
  rw [← Int32.ofInt_neg]
  exact h p l e R s m args below meth c cells slots Qw D cI cB cA ad A b H locs lr hC hSc hls (m_oks_cons hr (m_oks_tail hst)) hM hW hL hret
theorem x_iand {x y : Int} (hd : decode k.2.1 pc = .ok (.iand, 1)) (h : X_ k (pc + 1) ls (v_I (m_and x y) :: st) M Q) : X_ k pc ls (v_I y :: v_I x :: st) M Q := by
  intro p l e R s m args below meth c cells slots Qw D cI cB cA ad A b H locs lr hC hSc hls hst hM hW hL hret
  refine lv_iand hC.1 hC.2.1 hd ?_
  rw [show Int32.ofInt x &&& Int32.ofInt y = Int32.ofInt (m_and x y) from (m_ofI _).symm]
  exact h p l e R s m args below meth c cells slots Qw D cI cB cA ad A b H locs lr hC hSc hls (m_oks_cons (m_irI _) (m_oks_tail (m_oks_tail hst))) hM hW hL hret
theorem x_ior {x y : Int} (hd : decode k.2.1 pc = .ok (.ior, 1)) (h : X_ k (pc + 1) ls (v_I (m_or x y) :: st) M Q) : X_ k pc ls (v_I y :: v_I x :: st) M Q := by
  intro p l e R s m args below meth c cells slots Qw D cI cB cA ad A b H locs lr hC hSc hls hst hM hW hL hret
  refine lv_ior hC.1 hC.2.1 hd ?_
  rw [show Int32.ofInt x ||| Int32.ofInt y = Int32.ofInt (m_or x y) from (m_ofI _).symm]
  exact h p l e R s m args below meth c cells slots Qw D cI cB cA ad A b H locs lr hC hSc hls (m_oks_cons (m_irI _) (m_oks_tail (m_oks_tail hst))) hM hW hL hret
theorem x_ixor {x y : Int} (hd : decode k.2.1 pc = .ok (.ixor, 1)) (h : X_ k (pc + 1) ls (v_I (m_xor x y) :: st) M Q) : X_ k pc ls (v_I y :: v_I x :: st) M Q := by
  intro p l e R s m args below meth c cells slots Qw D cI cB cA ad A b H locs lr hC hSc hls hst hM hW hL hret
  refine lv_ixor hC.1 hC.2.1 hd ?_
  rw [show Int32.ofInt x ^^^ Int32.ofInt y = Int32.ofInt (m_xor x y) from (m_ofI _).symm]
  exact h p l e R s m args below meth c cells slots Qw D cI cB cA ad A b H locs lr hC hSc hls (m_oks_cons (m_irI _) (m_oks_tail (m_oks_tail hst))) hM hW hL hret
theorem x_ishl {x y : Int} (hd : decode k.2.1 pc = .ok (.ishl, 1)) (h : X_ k (pc + 1) ls (v_I (m_shl x y) :: st) M Q) : X_ k pc ls (v_I y :: v_I x :: st) M Q := by
  intro p l e R s m args below meth c cells slots Qw D cI cB cA ad A b H locs lr hC hSc hls hst hM hW hL hret
  refine lv_ishl hC.1 hC.2.1 hd ?_
  rw [show Int32.ofInt x <<< (Int32.ofInt y &&& 31) = Int32.ofInt (m_shl x y) from (m_ofI _).symm]
  exact h p l e R s m args below meth c cells slots Qw D cI cB cA ad A b H locs lr hC hSc hls (m_oks_cons (m_irI _) (m_oks_tail (m_oks_tail hst))) hM hW hL hret
theorem x_ishr {x y : Int} (hd : decode k.2.1 pc = .ok (.ishr, 1)) (h : X_ k (pc + 1) ls (v_I (m_shr x y) :: st) M Q) : X_ k pc ls (v_I y :: v_I x :: st) M Q := by
  intro p l e R s m args below meth c cells slots Qw D cI cB cA ad A b H locs lr hC hSc hls hst hM hW hL hret
  refine lv_ishr hC.1 hC.2.1 hd ?_
  rw [show Int32.ofInt x >>> (Int32.ofInt y &&& 31) = Int32.ofInt (m_shr x y) from (m_ofI _).symm]
  exact h p l e R s m args below meth c cells slots Qw D cI cB cA ad A b H locs lr hC hSc hls (m_oks_cons (m_irI _) (m_oks_tail (m_oks_tail hst))) hM hW hL hret
theorem m_ir_tdiv {x y : Int} (hx : m_ir x) (hy : 0 < y) : m_ir (x.tdiv y) := by
  rcases Int.le_total 0 x with h | h
  · rw [Int.tdiv_eq_ediv_of_nonneg h]
    have h1 := Int.ediv_le_self y h
    have h2 : 0 ≤ x / y := Int.ediv_nonneg h (by omega)
    exact ⟨by omega, by have := hx.2; omega⟩
  · have e : x.tdiv y = -((-x) / y) := by
      have e0 : x = -(-x) := by omega
      rw [e0, Int.neg_tdiv, Int.tdiv_eq_ediv_of_nonneg (by omega)]
      simp
    rw [e]
    have h1 := Int.ediv_le_self (a := -x) y (by omega)
    have h2 : 0 ≤ (-x) / y := Int.ediv_nonneg (by omega) (by omega)
    have := hx.1
    exact ⟨by omega, by omega⟩
theorem x_idiv {x y : Int} (hd : decode k.2.1 pc = .ok (.idiv, 1)) (hx : 0 ≤ x ∨ 0 ≤ -x) (hy : 0 < y) (h : X_ k (pc + 1) ls (v_I (x.tdiv y) :: st) M Q) : X_ k pc ls (v_I y :: v_I x :: st) M Q := by
  intro p l e R s m args below meth c cells slots Qw D cI cB cA ad A b H locs lr hC hSc hls hst hM hW hL hret
  have h1 : m_ir y := m_oks_head hst
  have h2 : m_ir x := m_oks_head (m_oks_tail hst)
  refine lv_idiv hC.1 hC.2.1 hd (fun q => ?_) ?_
  · rw [m_zero] at q; have := (m_eq h1 m_ir0).mp q; omega
  · have e9 : Int32.ofInt x / Int32.ofInt y = Int32.ofInt (x.tdiv y) := by
      rw [← Int32.toInt_inj, Int32.toInt_div_of_ne_right _ _ (fun q => by have := congrArg Int32.toInt q; rw [m_toInt h1, show ((-1 : Int32)).toInt = -1 from by decide] at this; omega), m_toInt h1, m_toInt h2, m_toInt (m_ir_tdiv h2 hy)]
    rw [e9]
    exact h p l e R s m args below meth c cells slots Qw D cI cB cA ad A b H locs lr hC hSc hls (m_oks_cons (m_ir_tdiv h2 hy) (m_oks_tail (m_oks_tail hst))) hM hW hL hret
theorem x_irem {x y : Int} (hd : decode k.2.1 pc = .ok (.irem, 1)) (hx : 0 ≤ x) (hy : 0 < y) (h : X_ k (pc + 1) ls (v_I (x % y) :: st) M Q) : X_ k pc ls (v_I y :: v_I x :: st) M Q := by
  intro p l e R s m args below meth c cells slots Qw D cI cB cA ad A b H locs lr hC hSc hls hst hM hW hL hret
  have h1 : m_ir y := m_oks_head hst
  have h2 : m_ir x := m_oks_head (m_oks_tail hst)
  have h4 : x % y < y := Int.emod_lt_of_pos x hy
  have h5 : 0 ≤ x % y := Int.emod_nonneg x (by omega)
  have h6 : m_ir (x % y) := ⟨by omega, by have := h1.2; omega⟩
  refine lv_irem hC.1 hC.2.1 hd (fun q => ?_) ?_
  · rw [m_zero] at q; have := (m_eq h1 m_ir0).mp q; omega
  · have e9 : Int32.ofInt x / Int32.ofInt y = Int32.ofInt (x.tdiv y) := by
      rw [← Int32.toInt_inj, Int32.toInt_div_of_ne_right _ _ (fun q => by have := congrArg Int32.toInt q; rw [m_toInt h1, show ((-1 : Int32)).toInt = -1 from by decide] at this; omega), m_toInt h1, m_toInt h2, m_toInt (m_ir_tdiv h2 hy)]
    have e2 : x - x.tdiv y * y = x % y := by rw [Int.tdiv_eq_ediv_of_nonneg hx]; have := Int.emod_add_mul_ediv x y; rw [Int.mul_comm]; omega
    rw [e9, ← Int32.ofInt_mul, ← Int32.ofInt_sub, e2]
    exact h p l e R s m args below meth c cells slots Qw D cI cB cA ad A b H locs lr hC hSc hls (m_oks_cons h6 (m_oks_tail (m_oks_tail hst))) hM hW hL hret
theorem x_iushr {x y : Int} (hd : decode k.2.1 pc = .ok (.iushr, 1)) (h : X_ k (pc + 1) ls (v_I (m_ushr x y) :: st) M Q) : X_ k pc ls (v_I y :: v_I x :: st) M Q := by
  intro p l e R s m args below meth c cells slots Qw D cI cB cA ad A b H locs lr hC hSc hls hst hM hW hL hret
  refine lv_iushr hC.1 hC.2.1 hd (v := Int32.ofInt (m_ushr x y)) (m_ofI _).symm ?_
  exact h p l e R s m args below meth c cells slots Qw D cI cB cA ad A b H locs lr hC hSc hls (m_oks_cons (m_irI _) (m_oks_tail (m_oks_tail hst))) hM hW hL hret
theorem x_i2l {x : Int} (hd : decode k.2.1 pc = .ok (.i2l, 1)) (h : X_ k (pc + 1) ls (v_L x :: st) M Q) : X_ k pc ls (v_I x :: st) M Q := by
  intro p l e R s m args below meth c cells slots Qw D cI cB cA ad A b H locs lr hC hSc hls hst hM hW hL hret
  refine lv_i2l hC.1 hC.2.1 hd rfl ?_
  exact h p l e R s m args below meth c cells slots Qw D cI cB cA ad A b H locs lr hC hSc hls (m_oks_cons (v := v_L x) (show m_ir x from m_oks_head hst) (m_oks_tail hst)) hM hW hL hret
theorem x_dup {v : mV} (hd : decode k.2.1 pc = .ok (.dup, 1)) (hv : ∀ ad b, (m_dv ad b v).category = 1) (h : X_ k (pc + 1) ls (v :: v :: st) M Q) : X_ k pc ls (v :: st) M Q := by
  intro p l e R s m args below meth c cells slots Qw D cI cB cA ad A b H locs lr hC hSc hls hst hM hW hL hret
  refine lv_dup hC.1 hC.2.1 hd (hv ad b) ?_
  exact h p l e R s m args below meth c cells slots Qw D cI cB cA ad A b H locs lr hC hSc hls (m_oks_cons (m_oks_head hst) hst) hM hW hL hret
theorem x_dup2 {v w : mV} (hd : decode k.2.1 pc = .ok (.dup2, 1)) (hv : ∀ ad b, (m_dv ad b v).category = 1) (hw : ∀ ad b, (m_dv ad b w).category = 1) (h : X_ k (pc + 1) ls (v :: w :: v :: w :: st) M Q) : X_ k pc ls (v :: w :: st) M Q := by
  intro p l e R s m args below meth c cells slots Qw D cI cB cA ad A b H locs lr hC hSc hls hst hM hW hL hret
  refine lv_dup2_11 hC.1 hC.2.1 hd (hv ad b) (hw ad b) ?_
  exact h p l e R s m args below meth c cells slots Qw D cI cB cA ad A b H locs lr hC hSc hls (m_oks_cons (m_oks_head hst) (m_oks_cons (m_oks_head (m_oks_tail hst)) hst)) hM hW hL hret
theorem x_if_eq {x off : Int} {tgt : Nat} (hd : decode k.2.1 pc = .ok (.ifCond .eq off, 3)) (ht : (pc : Int) + off = (tgt : Int)) (h1 : x = 0 → X_ k tgt ls st M Q) (h2 : ¬ x = 0 → X_ k (pc + 3) ls st M Q) : X_ k pc ls (v_I x :: st) M Q := by
  intro p l e R s m args below meth c cells slots Qw D cI cB cA ad A b H locs lr hC hSc hls hst hM hW hL hret
  have hx : m_ir x := m_oks_head hst
  exact lv_if_eq hC.1 hC.2.1 hd ht (fun q => h1 ((m_eq hx m_ir0).mp (by rw [← m_zero]; exact q)) p l e R s m args below meth c cells slots Qw D cI cB cA ad A b H locs lr hC hSc hls (m_oks_tail hst) hM hW hL hret) (fun q => h2 (fun z => q (by rw [m_zero]; exact (m_eq hx m_ir0).mpr z)) p l e R s m args below meth c cells slots Qw D cI cB cA ad A b H locs lr hC hSc hls (m_oks_tail hst) hM hW hL hret)
theorem x_if_ne {x off : Int} {tgt : Nat} (hd : decode k.2.1 pc = .ok (.ifCond .ne off, 3)) (ht : (pc : Int) + off = (tgt : Int)) (h1 : ¬ x = 0 → X_ k tgt ls st M Q) (h2 : x = 0 → X_ k (pc + 3) ls st M Q) : X_ k pc ls (v_I x :: st) M Q := by
  intro p l e R s m args below meth c cells slots Qw D cI cB cA ad A b H locs lr hC hSc hls hst hM hW hL hret
  have hx : m_ir x := m_oks_head hst
  exact lv_if_ne hC.1 hC.2.1 hd ht (fun q => h1 (fun z => q (by rw [m_zero]; exact (m_eq hx m_ir0).mpr z)) p l e R s m args below meth c cells slots Qw D cI cB cA ad A b H locs lr hC hSc hls (m_oks_tail hst) hM hW hL hret) (fun q => h2 ((m_eq hx m_ir0).mp (by rw [← m_zero]; exact q)) p l e R s m args below meth c cells slots Qw D cI cB cA ad A b H locs lr hC hSc hls (m_oks_tail hst) hM hW hL hret)
theorem x_if_lt {x off : Int} {tgt : Nat} (hd : decode k.2.1 pc = .ok (.ifCond .lt off, 3)) (ht : (pc : Int) + off = (tgt : Int)) (h1 : x < 0 → X_ k tgt ls st M Q) (h2 : ¬ x < 0 → X_ k (pc + 3) ls st M Q) : X_ k pc ls (v_I x :: st) M Q := by
  intro p l e R s m args below meth c cells slots Qw D cI cB cA ad A b H locs lr hC hSc hls hst hM hW hL hret
  have hx : m_ir x := m_oks_head hst
  exact lv_if_lt hC.1 hC.2.1 hd ht (fun q => h1 ((m_lt hx m_ir0).mp (by rw [← m_zero]; exact q)) p l e R s m args below meth c cells slots Qw D cI cB cA ad A b H locs lr hC hSc hls (m_oks_tail hst) hM hW hL hret) (fun q => h2 (fun z => q (by rw [m_zero]; exact (m_lt hx m_ir0).mpr z)) p l e R s m args below meth c cells slots Qw D cI cB cA ad A b H locs lr hC hSc hls (m_oks_tail hst) hM hW hL hret)
theorem x_if_ge {x off : Int} {tgt : Nat} (hd : decode k.2.1 pc = .ok (.ifCond .ge off, 3)) (ht : (pc : Int) + off = (tgt : Int)) (h1 : 0 ≤ x → X_ k tgt ls st M Q) (h2 : ¬ 0 ≤ x → X_ k (pc + 3) ls st M Q) : X_ k pc ls (v_I x :: st) M Q := by
  intro p l e R s m args below meth c cells slots Qw D cI cB cA ad A b H locs lr hC hSc hls hst hM hW hL hret
  have hx : m_ir x := m_oks_head hst
  exact lv_if_ge hC.1 hC.2.1 hd ht (fun q => h1 ((m_le m_ir0 hx).mp (by rw [← m_zero]; exact q)) p l e R s m args below meth c cells slots Qw D cI cB cA ad A b H locs lr hC hSc hls (m_oks_tail hst) hM hW hL hret) (fun q => h2 (fun z => q (by rw [m_zero]; exact (m_le m_ir0 hx).mpr z)) p l e R s m args below meth c cells slots Qw D cI cB cA ad A b H locs lr hC hSc hls (m_oks_tail hst) hM hW hL hret)
theorem x_if_gt {x off : Int} {tgt : Nat} (hd : decode k.2.1 pc = .ok (.ifCond .gt off, 3)) (ht : (pc : Int) + off = (tgt : Int)) (h1 : 0 < x → X_ k tgt ls st M Q) (h2 : ¬ 0 < x → X_ k (pc + 3) ls st M Q) : X_ k pc ls (v_I x :: st) M Q := by
  intro p l e R s m args below meth c cells slots Qw D cI cB cA ad A b H locs lr hC hSc hls hst hM hW hL hret
  have hx : m_ir x := m_oks_head hst
  exact lv_if_gt hC.1 hC.2.1 hd ht (fun q => h1 ((m_lt m_ir0 hx).mp (by rw [← m_zero]; exact q)) p l e R s m args below meth c cells slots Qw D cI cB cA ad A b H locs lr hC hSc hls (m_oks_tail hst) hM hW hL hret) (fun q => h2 (fun z => q (by rw [m_zero]; exact (m_lt m_ir0 hx).mpr z)) p l e R s m args below meth c cells slots Qw D cI cB cA ad A b H locs lr hC hSc hls (m_oks_tail hst) hM hW hL hret)
theorem x_if_le {x off : Int} {tgt : Nat} (hd : decode k.2.1 pc = .ok (.ifCond .le off, 3)) (ht : (pc : Int) + off = (tgt : Int)) (h1 : x ≤ 0 → X_ k tgt ls st M Q) (h2 : ¬ x ≤ 0 → X_ k (pc + 3) ls st M Q) : X_ k pc ls (v_I x :: st) M Q := by
  intro p l e R s m args below meth c cells slots Qw D cI cB cA ad A b H locs lr hC hSc hls hst hM hW hL hret
  have hx : m_ir x := m_oks_head hst
  exact lv_if_le hC.1 hC.2.1 hd ht (fun q => h1 ((m_le hx m_ir0).mp (by rw [← m_zero]; exact q)) p l e R s m args below meth c cells slots Qw D cI cB cA ad A b H locs lr hC hSc hls (m_oks_tail hst) hM hW hL hret) (fun q => h2 (fun z => q (by rw [m_zero]; exact (m_le hx m_ir0).mpr z)) p l e R s m args below meth c cells slots Qw D cI cB cA ad A b H locs lr hC hSc hls (m_oks_tail hst) hM hW hL hret)
theorem x_ic_eq {x y off : Int} {tgt : Nat} (hd : decode k.2.1 pc = .ok (.if_icmp .eq off, 3)) (ht : (pc : Int) + off = (tgt : Int)) (h1 : x = y → X_ k tgt ls st M Q) (h2 : ¬ x = y → X_ k (pc + 3) ls st M Q) : X_ k pc ls (v_I y :: v_I x :: st) M Q := by
  intro p l e R s m args below meth c cells slots Qw D cI cB cA ad A b H locs lr hC hSc hls hst hM hW hL hret
  have hy : m_ir y := m_oks_head hst
  have hx : m_ir x := m_oks_head (m_oks_tail hst)
  exact lv_icmp_eq hC.1 hC.2.1 hd ht (fun q => h1 ((m_eq hx hy).mp q) p l e R s m args below meth c cells slots Qw D cI cB cA ad A b H locs lr hC hSc hls (m_oks_tail (m_oks_tail hst)) hM hW hL hret) (fun q => h2 (fun z => q ((m_eq hx hy).mpr z)) p l e R s m args below meth c cells slots Qw D cI cB cA ad A b H locs lr hC hSc hls (m_oks_tail (m_oks_tail hst)) hM hW hL hret)
theorem x_ic_ne {x y off : Int} {tgt : Nat} (hd : decode k.2.1 pc = .ok (.if_icmp .ne off, 3)) (ht : (pc : Int) + off = (tgt : Int)) (h1 : ¬ x = y → X_ k tgt ls st M Q) (h2 : x = y → X_ k (pc + 3) ls st M Q) : X_ k pc ls (v_I y :: v_I x :: st) M Q := by
  intro p l e R s m args below meth c cells slots Qw D cI cB cA ad A b H locs lr hC hSc hls hst hM hW hL hret
  have hy : m_ir y := m_oks_head hst
  have hx : m_ir x := m_oks_head (m_oks_tail hst)
  exact lv_icmp_ne hC.1 hC.2.1 hd ht (fun q => h1 (fun z => q ((m_eq hx hy).mpr z)) p l e R s m args below meth c cells slots Qw D cI cB cA ad A b H locs lr hC hSc hls (m_oks_tail (m_oks_tail hst)) hM hW hL hret) (fun q => h2 ((m_eq hx hy).mp q) p l e R s m args below meth c cells slots Qw D cI cB cA ad A b H locs lr hC hSc hls (m_oks_tail (m_oks_tail hst)) hM hW hL hret)
theorem x_ic_lt {x y off : Int} {tgt : Nat} (hd : decode k.2.1 pc = .ok (.if_icmp .lt off, 3)) (ht : (pc : Int) + off = (tgt : Int)) (h1 : x < y → X_ k tgt ls st M Q) (h2 : ¬ x < y → X_ k (pc + 3) ls st M Q) : X_ k pc ls (v_I y :: v_I x :: st) M Q := by
  intro p l e R s m args below meth c cells slots Qw D cI cB cA ad A b H locs lr hC hSc hls hst hM hW hL hret
  have hy : m_ir y := m_oks_head hst
  have hx : m_ir x := m_oks_head (m_oks_tail hst)
  exact lv_icmp_lt hC.1 hC.2.1 hd ht (fun q => h1 ((m_lt hx hy).mp q) p l e R s m args below meth c cells slots Qw D cI cB cA ad A b H locs lr hC hSc hls (m_oks_tail (m_oks_tail hst)) hM hW hL hret) (fun q => h2 (fun z => q ((m_lt hx hy).mpr z)) p l e R s m args below meth c cells slots Qw D cI cB cA ad A b H locs lr hC hSc hls (m_oks_tail (m_oks_tail hst)) hM hW hL hret)
theorem x_ic_ge {x y off : Int} {tgt : Nat} (hd : decode k.2.1 pc = .ok (.if_icmp .ge off, 3)) (ht : (pc : Int) + off = (tgt : Int)) (h1 : y ≤ x → X_ k tgt ls st M Q) (h2 : ¬ y ≤ x → X_ k (pc + 3) ls st M Q) : X_ k pc ls (v_I y :: v_I x :: st) M Q := by
  intro p l e R s m args below meth c cells slots Qw D cI cB cA ad A b H locs lr hC hSc hls hst hM hW hL hret
  have hy : m_ir y := m_oks_head hst
  have hx : m_ir x := m_oks_head (m_oks_tail hst)
  exact lv_icmp_ge hC.1 hC.2.1 hd ht (fun q => h1 ((m_le hy hx).mp q) p l e R s m args below meth c cells slots Qw D cI cB cA ad A b H locs lr hC hSc hls (m_oks_tail (m_oks_tail hst)) hM hW hL hret) (fun q => h2 (fun z => q ((m_le hy hx).mpr z)) p l e R s m args below meth c cells slots Qw D cI cB cA ad A b H locs lr hC hSc hls (m_oks_tail (m_oks_tail hst)) hM hW hL hret)
theorem x_ic_gt {x y off : Int} {tgt : Nat} (hd : decode k.2.1 pc = .ok (.if_icmp .gt off, 3)) (ht : (pc : Int) + off = (tgt : Int)) (h1 : y < x → X_ k tgt ls st M Q) (h2 : ¬ y < x → X_ k (pc + 3) ls st M Q) : X_ k pc ls (v_I y :: v_I x :: st) M Q := by
  intro p l e R s m args below meth c cells slots Qw D cI cB cA ad A b H locs lr hC hSc hls hst hM hW hL hret
  have hy : m_ir y := m_oks_head hst
  have hx : m_ir x := m_oks_head (m_oks_tail hst)
  exact lv_icmp_gt hC.1 hC.2.1 hd ht (fun q => h1 ((m_lt hy hx).mp q) p l e R s m args below meth c cells slots Qw D cI cB cA ad A b H locs lr hC hSc hls (m_oks_tail (m_oks_tail hst)) hM hW hL hret) (fun q => h2 (fun z => q ((m_lt hy hx).mpr z)) p l e R s m args below meth c cells slots Qw D cI cB cA ad A b H locs lr hC hSc hls (m_oks_tail (m_oks_tail hst)) hM hW hL hret)
theorem x_ic_le {x y off : Int} {tgt : Nat} (hd : decode k.2.1 pc = .ok (.if_icmp .le off, 3)) (ht : (pc : Int) + off = (tgt : Int)) (h1 : x ≤ y → X_ k tgt ls st M Q) (h2 : ¬ x ≤ y → X_ k (pc + 3) ls st M Q) : X_ k pc ls (v_I y :: v_I x :: st) M Q := by
  intro p l e R s m args below meth c cells slots Qw D cI cB cA ad A b H locs lr hC hSc hls hst hM hW hL hret
  have hy : m_ir y := m_oks_head hst
  have hx : m_ir x := m_oks_head (m_oks_tail hst)
  exact lv_icmp_le hC.1 hC.2.1 hd ht (fun q => h1 ((m_le hx hy).mp q) p l e R s m args below meth c cells slots Qw D cI cB cA ad A b H locs lr hC hSc hls (m_oks_tail (m_oks_tail hst)) hM hW hL hret) (fun q => h2 (fun z => q ((m_le hx hy).mpr z)) p l e R s m args below meth c cells slots Qw D cI cB cA ad A b H locs lr hC hSc hls (m_oks_tail (m_oks_tail hst)) hM hW hL hret)
theorem x_goto {off : Int} {tgt : Nat} (hd : decode k.2.1 pc = .ok (.goto off, 3)) (ht : (pc : Int) + off = (tgt : Int)) (h : X_ k tgt ls st M Q) : X_ k pc ls st M Q := by
  intro p l e R s m args below meth c cells slots Qw D cI cB cA ad A b H locs lr hC hSc hls hst hM hW hL hret
  refine lv_goto hC.1 hC.2.1 hd ht ?_
  exact h p l e R s m args below meth c cells slots Qw D cI cB cA ad A b H locs lr hC hSc hls hst hM hW hL hret
theorem x_tsOut {dflt lo hi : Int} {offs : Array Int} {len : Nat} {x : Int} {tgt : Nat} (hd : decode k.2.1 pc = .ok (.tableswitch dflt lo hi offs, len)) (hx : x < lo ∨ hi < x) (ht : (pc : Int) + dflt = (tgt : Int)) (h : X_ k tgt ls st M Q) : X_ k pc ls (v_I x :: st) M Q := by
  intro p l e R s m args below meth c cells slots Qw D cI cB cA ad A b H locs lr hC hSc hls hst hM hW hL hret
  have h1 : m_ir x := m_oks_head hst
  refine lv_tableOut hC.1 hC.2.1 hd (by rw [m_toInt h1]; exact hx) ht ?_
  exact h p l e R s m args below meth c cells slots Qw D cI cB cA ad A b H locs lr hC hSc hls (m_oks_tail hst) hM hW hL hret
theorem x_tsIn {dflt lo hi : Int} {offs : Array Int} {len : Nat} {x j off : Int} {tgt : Nat} (hd : decode k.2.1 pc = .ok (.tableswitch dflt lo hi offs, len)) (hx : x = j) (hj : lo ≤ j ∧ j ≤ hi) (ho : offs[(j - lo).toNat]? = some off) (ht : (pc : Int) + off = (tgt : Int)) (h : X_ k tgt ls st M Q) : X_ k pc ls (v_I x :: st) M Q := by
  intro p l e R s m args below meth c cells slots Qw D cI cB cA ad A b H locs lr hC hSc hls hst hM hW hL hret
  subst hx
  have h1 : m_ir x := m_oks_head hst
  refine lv_tableIn hC.1 hC.2.1 hd (by rw [m_toInt h1]; omega) (by rw [m_toInt h1]; omega) (by rw [m_toInt h1]; exact ho) ht ?_
  exact h p l e R s m args below meth c cells slots Qw D cI cB cA ad A b H locs lr hC hSc hls (m_oks_tail hst) hM hW hL hret
theorem m_at_o {cI cB cA : ClassId} {ad : Nat → Nat} {M : mM} {p ci n : Nat} (h : m_sh p = (ci, n)) (hc : ci < 20) : (m_ws cI cB cA ad M)[p]? = some (ad p, .inr (ci, (List.range n).map (m_fv ad M p ci))) := by
  rw [m_ws_at (m_shlt h (by omega)), m_cell_o h hc]
theorem m_at_i {cI cB cA : ClassId} {ad : Nat → Nat} {M : mM} {p n : Nat} (h : m_sh p = (20, n)) : (m_ws cI cB cA ad M)[p]? = some (ad p, .inl (cI, n, .inl (fun j => Int32.ofInt (M p j)))) := by
  rw [m_ws_at (m_shlt h (by omega)), m_cell_i h]
theorem m_fs_at {ad : Nat → Nat} {M : mM} {p ci n j : Nat} (hj : j < n) : ((List.range n).map (m_fv ad M p ci))[j]? = some (m_fv ad M p ci j) := by
  rw [List.getElem?_map, List.getElem?_range hj]
  rfl
theorem m_fs_set {ad : Nat → Nat} {M M' : mM} {p ci n j : Nat} {v : Value} (hv : m_fv ad M' p ci j = v) (ho : ∀ i, i ≠ j → M' p i = M p i) : ((List.range n).map (m_fv ad M p ci)).set j v = (List.range n).map (m_fv ad M' p ci) := by
  apply List.ext_getElem?
  intro i
  rw [List.getElem?_set]
  by_cases e : j = i
  · subst e
    by_cases hl : j < n
    · rw [if_pos rfl, if_pos (by simpa using hl), m_fs_at hl, hv]
    · rw [if_pos rfl, if_neg (by simpa using hl), List.getElem?_eq_none (by simp; omega)]
  · rw [if_neg e]
    by_cases hl : i < n
    · rw [m_fs_at hl, m_fs_at hl]
      unfold m_fv
      rw [ho i (fun q => e q.symm)]
    · rw [List.getElem?_eq_none (by simp; omega), List.getElem?_eq_none (by simp; omega)]
theorem x_getI {idx q ci n j : Nat} {C : String} {T : u_T} {ty0 : Nat → FieldType} (hd : decode k.2.1 pc = .ok (.getfield idx, 3)) (hs : m_sh q = (ci, n)) (hcf : m_cls ci n C T ty0) (hf : m_fl k.1.cls idx T j) (hj : j < n) (hk : m_fk ci j ≤ 1) (h : X_ k (pc + 3) ls (v_I (M q j) :: st) M Q) : X_ k pc ls (v_P q :: st) M Q := by
  intro p l e R s m args below meth c cells slots Qw D cI cB cA ad A b H locs lr hC hSc hls hst hM hW hL hret
  obtain ⟨hin, hty, hnm, hc⟩ := hcf
  have hci : ci < 20 := by
    have := (List.getElem?_eq_some_iff.mp hc).1
    simp at this
    omega
  refine va_get (D := D) (C := C) (T := T) hC.1 hC.2.1 hC.2.2.2.2.1 hin hC.2.2.2.1 hW.1 hW.2.1 q (m_at_o hs hci) hc j hj (hC.2.2.2.2.1 _ hf) (fun _ h9 => h9) (v := .int (Int32.ofInt (M q j))) (by rw [m_fs_at hj]; unfold m_fv; rw [if_neg (by omega), if_neg (by omega)]) hd ?_
  exact h p l e R s m args below meth c cells slots Qw D cI cB cA ad A b H locs lr hC hSc hls (m_oks_cons (hM q j) (m_oks_tail hst)) hM hW hL hret
theorem x_getP {idx q ci n j : Nat} {C : String} {T : u_T} {ty0 : Nat → FieldType} (hd : decode k.2.1 pc = .ok (.getfield idx, 3)) (hs : m_sh q = (ci, n)) (hcf : m_cls ci n C T ty0) (hf : m_fl k.1.cls idx T j) (hj : j < n) (hk : m_fk ci j = 2) (h : X_ k (pc + 3) ls (v_P (m_gg q j) :: st) M Q) : X_ k pc ls (v_P q :: st) M Q := by
  intro p l e R s m args below meth c cells slots Qw D cI cB cA ad A b H locs lr hC hSc hls hst hM hW hL hret
  obtain ⟨hin, hty, hnm, hc⟩ := hcf
  have hci : ci < 20 := by
    have := (List.getElem?_eq_some_iff.mp hc).1
    simp at this
    omega
  refine va_get (D := D) (C := C) (T := T) hC.1 hC.2.1 hC.2.2.2.2.1 hin hC.2.2.2.1 hW.1 hW.2.1 q (m_at_o hs hci) hc j hj (hC.2.2.2.2.1 _ hf) (fun _ h9 => h9) (v := .ref (ad (m_gg q j))) (by rw [m_fs_at hj]; unfold m_fv; rw [if_pos hk]) hd ?_
  exact h p l e R s m args below meth c cells slots Qw D cI cB cA ad A b H locs lr hC hSc hls (m_oks_cons (trivial) (m_oks_tail hst)) hM hW hL hret
theorem x_getM {idx q ci n j : Nat} {C : String} {T : u_T} {ty0 : Nat → FieldType} (hd : decode k.2.1 pc = .ok (.getfield idx, 3)) (hs : m_sh q = (ci, n)) (hcf : m_cls ci n C T ty0) (hf : m_fl k.1.cls idx T j) (hj : j < n) (hk : m_fk ci j = 3) (h : X_ k (pc + 3) ls (v_P (M q j).toNat :: st) M Q) : X_ k pc ls (v_P q :: st) M Q := by
  intro p l e R s m args below meth c cells slots Qw D cI cB cA ad A b H locs lr hC hSc hls hst hM hW hL hret
  obtain ⟨hin, hty, hnm, hc⟩ := hcf
  have hci : ci < 20 := by
    have := (List.getElem?_eq_some_iff.mp hc).1
    simp at this
    omega
  refine va_get (D := D) (C := C) (T := T) hC.1 hC.2.1 hC.2.2.2.2.1 hin hC.2.2.2.1 hW.1 hW.2.1 q (m_at_o hs hci) hc j hj (hC.2.2.2.2.1 _ hf) (fun _ h9 => h9) (v := .ref (ad (M q j).toNat)) (by rw [m_fs_at hj]; unfold m_fv; rw [if_neg (by omega), if_pos hk]) hd ?_
  exact h p l e R s m args below meth c cells slots Qw D cI cB cA ad A b H locs lr hC hSc hls (m_oks_cons (trivial) (m_oks_tail hst)) hM hW hL hret
theorem x_putI {x : Int} {idx q ci n j : Nat} {C : String} {T : u_T} {ty0 : Nat → FieldType} (hd : decode k.2.1 pc = .ok (.putfield idx, 3)) (hs : m_sh q = (ci, n)) (hcf : m_cls ci n C T ty0) (hf : m_fl k.1.cls idx T j) (hj : j < n) (hfin : (T j).2.2.2 = false) (hk : m_fk ci j ≤ 1) (hr : ty0 j = .int ∨ (ty0 j = .boolean ∧ (x = 0 ∨ x = 1))) (h : X_ k (pc + 3) ls st (m_up M q j (x)) Q) : X_ k pc ls (v_I x :: v_P q :: st) M Q := by
  intro p l e R s m args below meth c cells slots Qw D cI cB cA ad A b H locs lr hC hSc hls hst hM hW hL hret
  obtain ⟨hin, hty, hnm, hc⟩ := hcf
  have hci : ci < 20 := by
    have := (List.getElem?_eq_some_iff.mp hc).1
    simp at this
    omega
  have hn1 : narrow (ty0 j) (.int (Int32.ofInt x)) = .int (Int32.ofInt x) := by
    rcases hr with q | ⟨q, rfl | rfl⟩ <;> rw [q] <;> rfl
  have hn2 : fits (ty0 j) (.int (Int32.ofInt x)) = true := by
    rcases hr with q | ⟨q, rfl | rfl⟩ <;> rw [q] <;> rfl
  have e1 : m_fv ad (m_up M q j (x)) q ci j = .int (Int32.ofInt x) := by unfold m_fv; rw [m_up_same]; rw [if_neg (by omega), if_neg (by omega)]
  have e2 := m_fs_set (n := n) e1 (fun i hi => m_up_ne (M := M) (p := q) (j := j) (v := x) (Or.inr hi))
  have e3 := m_ws_up (cI := cI) (cB := cB) (cA := cA) (ad := ad) (M := M) (M' := m_up M q j (x)) (m_shlt hs (by omega)) (m_cell_o hs hci) (fun a ha i => m_up_ne (Or.inl ha))
  refine va_put (D := D) (C := C) (T := T) (v := .int (Int32.ofInt x)) hC.1 hC.2.1 hC.2.2.2.2.1 hin ty0 hty hnm hC.2.2.2.1 hW.1 hW.2.1 hW.2.2.1 hW.2.2.2 q (m_at_o hs hci) hc j hj (hC.2.2.2.2.1 _ hf) (fun _ h9 => h9) hfin (hty j hj) hn1 hn2 (by simpa using hj) hd (fun H1 locs1 hP1 hD1 hS1 => ?_)
  rw [e2, e3] at hP1 hD1
  exact h p l e R s m args below meth c cells slots Qw D cI cB cA ad A b H1 locs1 lr hC hSc hls (m_oks_tail (m_oks_tail hst)) (m_okM_up hM (m_oks_head hst)) ⟨hW.1, hP1, hD1, hS1⟩ hL hret
theorem x_putM {x : Nat} {idx q ci n j : Nat} {C : String} {T : u_T} {ty0 : Nat → FieldType} (hd : decode k.2.1 pc = .ok (.putfield idx, 3)) (hs : m_sh q = (ci, n)) (hcf : m_cls ci n C T ty0) (hf : m_fl k.1.cls idx T j) (hj : j < n) (hfin : (T j).2.2.2 = false) (hk : m_fk ci j = 3) (hr : ty0 j = .array .int) (hx : x < 111) (h : X_ k (pc + 3) ls st (m_up M q j ((x : Int))) Q) : X_ k pc ls (v_P x :: v_P q :: st) M Q := by
  intro p l e R s m args below meth c cells slots Qw D cI cB cA ad A b H locs lr hC hSc hls hst hM hW hL hret
  obtain ⟨hin, hty, hnm, hc⟩ := hcf
  have hci : ci < 20 := by
    have := (List.getElem?_eq_some_iff.mp hc).1
    simp at this
    omega
  have hn1 : narrow (ty0 j) (.ref (ad x)) = .ref (ad x) := by rw [hr]; rfl
  have hn2 : fits (ty0 j) (.ref (ad x)) = true := by rw [hr]; rfl
  have e1 : m_fv ad (m_up M q j ((x : Int))) q ci j = .ref (ad x) := by unfold m_fv; rw [m_up_same]; rw [if_neg (by omega), if_pos hk]; rfl
  have e2 := m_fs_set (n := n) e1 (fun i hi => m_up_ne (M := M) (p := q) (j := j) (v := (x : Int)) (Or.inr hi))
  have e3 := m_ws_up (cI := cI) (cB := cB) (cA := cA) (ad := ad) (M := M) (M' := m_up M q j ((x : Int))) (m_shlt hs (by omega)) (m_cell_o hs hci) (fun a ha i => m_up_ne (Or.inl ha))
  refine va_put (D := D) (C := C) (T := T) (v := .ref (ad x)) hC.1 hC.2.1 hC.2.2.2.2.1 hin ty0 hty hnm hC.2.2.2.1 hW.1 hW.2.1 hW.2.2.1 hW.2.2.2 q (m_at_o hs hci) hc j hj (hC.2.2.2.2.1 _ hf) (fun _ h9 => h9) hfin (hty j hj) hn1 hn2 (by simpa using hj) hd (fun H1 locs1 hP1 hD1 hS1 => ?_)
  rw [e2, e3] at hP1 hD1
  exact h p l e R s m args below meth c cells slots Qw D cI cB cA ad A b H1 locs1 lr hC hSc hls (m_oks_tail (m_oks_tail hst)) (m_okM_up hM ⟨by omega, by omega⟩) ⟨hW.1, hP1, hD1, hS1⟩ hL hret
theorem x_iald {i : Int} {q n : Nat} (hd : decode k.2.1 pc = .ok (.iaload, 1)) (hs : m_sh q = (20, n)) (hi : 0 ≤ i ∧ i < n) (h : X_ k (pc + 1) ls (v_I (M q i.toNat) :: st) M Q) : X_ k pc ls (v_I i :: v_P q :: st) M Q := by
  intro p l e R s m args below meth c cells slots Qw D cI cB cA ad A b H locs lr hC hSc hls hst hM hW hL hret
  have hir : m_ir i := m_oks_head hst
  refine va_iald hC.1 hC.2.1 hW.1 hW.2.1 q 0 (m_at_i hs) rfl (m_in hir hi.1 hi.2) hd ?_
  rw [m_clamp hir]
  exact h p l e R s m args below meth c cells slots Qw D cI cB cA ad A b H locs lr hC hSc hls (m_oks_cons (hM q i.toNat) (m_oks_tail (m_oks_tail hst))) hM hW hL hret
theorem x_iast {i x : Int} {q n : Nat} (hd : decode k.2.1 pc = .ok (.iastore, 1)) (hs : m_sh q = (20, n)) (hi : 0 ≤ i ∧ i < n) (h : X_ k (pc + 1) ls st (m_up M q i.toNat x) Q) : X_ k pc ls (v_I x :: v_I i :: v_P q :: st) M Q := by
  intro p l e R s m args below meth c cells slots Qw D cI cB cA ad A b H locs lr hC hSc hls hst hM hW hL hret
  have hir : m_ir i := m_oks_head (m_oks_tail hst)
  refine va_iast hC.1 hC.2.1 hW.1 hW.2.1 hW.2.2.1 hW.2.2.2 q 0 (m_at_i hs) rfl (m_in hir hi.1 hi.2) hd (fun H1 locs1 hP1 hD1 hS1 => ?_)
  rw [m_clamp hir] at hP1 hD1
  have e3 := m_ws_up (cI := cI) (cB := cB) (cA := cA) (ad := ad) (M := M) (M' := m_up M q i.toNat x) (x := .inl (cI, n, .inl (upd (fun j => Int32.ofInt (M q j)) i.toNat (Int32.ofInt x)))) (m_shlt hs (by omega)) (by rw [m_cell_i hs]; congr 4; funext j; unfold upd m_up; by_cases hj : j = i.toNat <;> simp [hj]) (fun a ha i => m_up_ne (Or.inl ha))
  rw [e3] at hP1 hD1
  exact h p l e R s m args below meth c cells slots Qw D cI cB cA ad A b H1 locs1 lr hC hSc hls (m_oks_tail (m_oks_tail (m_oks_tail hst))) (m_okM_up hM (m_oks_head hst)) ⟨hW.1, hP1, hD1, hS1⟩ hL hret
theorem x_aaldB {i : Int} {q n : Nat} (hd : decode k.2.1 pc = .ok (.aaload, 1)) (hs : m_sh q = (21, n)) (hi : 0 ≤ i ∧ i < n) (h : X_ k (pc + 1) ls (v_P (m_gg q i.toNat) :: st) M Q) : X_ k pc ls (v_I i :: v_P q :: st) M Q := by
  intro p l e R s m args below meth c cells slots Qw D cI cB cA ad A b H locs lr hC hSc hls hst hM hW hL hret
  have hir : m_ir i := m_oks_head hst
  have hq := hW.2.1 q _ (m_ws_at (m_shlt hs (by omega)))
  rw [m_cell_b hs] at hq
  have hlt : (Int32.ofInt i).toNatClampNeg < n := by rw [m_clamp hir]; omega
  refine W.aald (v := .ref (ad (m_gg q i.toNat))) (ty := .object "FallClocks$Buyer") hC.1 hC.2.1 hq ((hW.1.2 1 _ rfl).1 n (fun j => va_rf (some (ad (m_gg q j))))) rfl (fun q => by cases q) (by show ¬ (Int32.ofInt i < 0 ∨ (arrV _ _ _).slots.size ≤ _); rw [arrV_size]; exact m_in hir hi.1 hi.2) (by show (arrV _ _ _).slots[_]? = _; rw [arrV_read _ _ hlt, m_clamp hir]; rfl) rfl rfl hd ?_
  exact h p l e R s m args below meth c cells slots Qw D cI cB cA ad A b H locs lr hC hSc hls (m_oks_cons trivial (m_oks_tail (m_oks_tail hst))) hM hW hL hret
theorem x_aaldA {i : Int} {q n : Nat} (hd : decode k.2.1 pc = .ok (.aaload, 1)) (hs : m_sh q = (22, n)) (hi : 0 ≤ i ∧ i < n) (h : X_ k (pc + 1) ls (v_P (m_gg q i.toNat) :: st) M Q) : X_ k pc ls (v_I i :: v_P q :: st) M Q := by
  intro p l e R s m args below meth c cells slots Qw D cI cB cA ad A b H locs lr hC hSc hls hst hM hW hL hret
  have hir : m_ir i := m_oks_head hst
  have hq := hW.2.1 q _ (m_ws_at (m_shlt hs (by omega)))
  rw [m_cell_a hs] at hq
  have hlt : (Int32.ofInt i).toNatClampNeg < n := by rw [m_clamp hir]; omega
  refine W.aald (v := .ref (ad (m_gg q i.toNat))) (ty := .array .int) hC.1 hC.2.1 hq ((hW.1.2 2 _ rfl).1 n (fun j => va_rf (some (ad (m_gg q j))))) rfl (fun q => by cases q) (by show ¬ (Int32.ofInt i < 0 ∨ (arrV _ _ _).slots.size ≤ _); rw [arrV_size]; exact m_in hir hi.1 hi.2) (by show (arrV _ _ _).slots[_]? = _; rw [arrV_read _ _ hlt, m_clamp hir]; rfl) rfl rfl hd ?_
  exact h p l e R s m args below meth c cells slots Qw D cI cB cA ad A b H locs lr hC hSc hls (m_oks_cons trivial (m_oks_tail (m_oks_tail hst))) hM hW hL hret
theorem x_sald {i : Int} {L : Nat} {xs : Nat → Int} (hd : decode k.2.1 pc = .ok (.iaload, 1)) (hk : k.2.2.2.2.2.2 = some (L, xs)) (hx : ∀ j, m_ir (xs j)) (hi : 0 ≤ i ∧ i < L) (h : X_ k (pc + 1) ls (v_I (xs i.toNat) :: st) M Q) : X_ k pc ls (v_I i :: v_S :: st) M Q := by
  intro p l e R s m args below meth c cells slots Qw D cI cB cA ad A b H locs lr hC hSc hls hst hM hW hL hret
  have hir : m_ir i := m_oks_head hst
  obtain ⟨hX, hbl, hbA⟩ := hSc.2 L xs hk
  refine va_sld hC.1 hC.2.1 hX hbl hbA hW.2.2.2 (m_in hir hi.1 hi.2) hd ?_
  rw [m_clamp hir]
  exact h p l e R s m args below meth c cells slots Qw D cI cB cA ad A b H locs lr hC hSc hls (m_oks_cons (hx _) (m_oks_tail (m_oks_tail hst))) hM hW hL hret
theorem x_slen {L : Nat} {xs : Nat → Int} (hd : decode k.2.1 pc = .ok (.arraylength, 1)) (hk : k.2.2.2.2.2.2 = some (L, xs)) (hL2 : L ≤ 2048) (h : X_ k (pc + 1) ls (v_I (L : Int) :: st) M Q) : X_ k pc ls (v_S :: st) M Q := by
  intro p l e R s m args below meth c cells slots Qw D cI cB cA ad A b H locs lr hC hSc hls hst hM hW hL hret
  obtain ⟨hX, hbl, hbA⟩ := hSc.2 L xs hk
  refine va_slen hC.1 hC.2.1 hX hbl hbA hW.2.2.2 hd ?_
  exact h p l e R s m args below meth c cells slots Qw D cI cB cA ad A b H locs lr hC hSc hls (m_oks_cons (show m_ir (L : Int) from ⟨by omega, by omega⟩) (m_oks_tail hst)) hM hW hL hret
theorem x_ret (hd : decode k.2.1 pc = .ok (.return_, 1)) (hr : k.2.2.2.1 = none) (h : m_okM M → Q 0 M) : X_ k pc ls [] M Q := by
  intro p l e R s m args below meth c cells slots Qw D cI cB cA ad A b H locs lr hC hSc hls hst hM hW hL hret
  have e9 : ([] : List mV).map (m_dv ad b) = m_rs k 0 := by unfold m_rs; rw [hr]; rfl
  rw [e9]
  exact hret 0 M H locs lr pc m_ir0 hM (h hM) hW (Or.inl ⟨hr, rfl, hd⟩)
theorem x_iret {x : Int} {ty : FieldType} (hd : decode k.2.1 pc = .ok (.ireturn, 1)) (hr : k.2.2.2.1 = some ty) (hn : ty = .int ∨ (ty = .boolean ∧ (x = 0 ∨ x = 1))) (h : m_ir x → m_okM M → Q x M) : X_ k pc ls [v_I x] M Q := by
  intro p l e R s m args below meth c cells slots Qw D cI cB cA ad A b H locs lr hC hSc hls hst hM hW hL hret
  have e9 : ([v_I x] : List mV).map (m_dv ad b) = m_rs k x := by unfold m_rs; rw [hr]; rfl
  rw [e9]
  refine hret x M H locs lr pc (m_oks_head hst) hM (h (m_oks_head hst) hM) hW (Or.inr ⟨ty, hr, ?_, hd⟩)
  rcases hn with rfl | ⟨rfl, rfl | rfl⟩ <;> rfl
theorem x_ok (h : m_oks ls → m_oks st → m_okM M → X_ k pc ls st M Q) : X_ k pc ls st M Q := by
  intro p l e R s m args below meth c cells slots Qw D cI cB cA ad A b H locs lr hC hSc hls hst hM hW hL hret
  exact h hls hst hM p l e R s m args below meth c cells slots Qw D cI cB cA ad A b H locs lr hC hSc hls hst hM hW hL hret
theorem x_mono {Q' : Int → mM → Prop} (h : X_ k pc ls st M Q) (hQ : ∀ r M', m_ir r → m_okM M' → Q r M' → Q' r M') : X_ k pc ls st M Q' := by
  intro p l e R s m args below meth c cells slots Qw D cI cB cA ad A b H locs lr hC hSc hls hst hM hW hL hret
  exact h p l e R s m args below meth c cells slots Qw D cI cB cA ad A b H locs lr hC hSc hls hst hM hW hL (fun r M' H' locs' lr' pc' h1 h2 h3 => hret r M' H' locs' lr' pc' h1 h2 (hQ r M' h1 h2 h3))
end MR
theorem fl_X1_9 : m_fl RX1 9 TX1 0 := fl0_X1_9
theorem fl_X4_89 : m_fl RX4 89 TX1 0 := fl0_X4_89
theorem fl_X1_15 : m_fl RX1 15 TX1 1 := fl0_X1_15
theorem fl_X4_93 : m_fl RX4 93 TX1 1 := fl0_X4_93
theorem fl_X1_18 : m_fl RX1 18 TX1 2 := fl0_X1_18
theorem fl_X4_147 : m_fl RX4 147 TX1 2 := fl0_X4_147
theorem fl_X5_52 : m_fl RX5 52 TX1 3 := fl0_X5_52
theorem fl_X1_33 : m_fl RX1 33 TX1 3 := fl0_X1_33
theorem fl_X0_85 : m_fl RX0 85 TX1 3 := fl0_X0_85
theorem fl_X8_65 : m_fl RX8 65 TX1 3 := fl0_X8_65
theorem fl_X6_50 : m_fl RX6 50 TX1 3 := fl0_X6_50
theorem fl_X10_125 : m_fl RX10 125 TX1 3 := fl0_X10_125
theorem fl_X1_21 : m_fl RX1 21 TX1 4 := fl0_X1_21
theorem fl_X5_61 : m_fl RX5 61 TX1 4 := fl0_X5_61
theorem fl_X8_74 : m_fl RX8 74 TX1 4 := fl0_X8_74
theorem fl_X10_128 : m_fl RX10 128 TX1 4 := fl0_X10_128
theorem fl_X1_25 : m_fl RX1 25 TX1 5 := fl0_X1_25
theorem fl_X5_64 : m_fl RX5 64 TX1 5 := fl0_X5_64
theorem fl_X8_77 : m_fl RX8 77 TX1 5 := fl0_X8_77
theorem fl_X10_131 : m_fl RX10 131 TX1 5 := fl0_X10_131
theorem fl_X0_80 : m_fl RX0 80 TX1 6 := fl0_X0_80
theorem fl_X1_44 : m_fl RX1 44 TX1 6 := fl0_X1_44
theorem fl_X10_139 : m_fl RX10 139 TX1 6 := fl0_X10_139
theorem fl_X1_47 : m_fl RX1 47 TX1 7 := fl0_X1_47
theorem fl_X0_87 : m_fl RX0 87 TX1 7 := fl0_X0_87
theorem fl_X6_38 : m_fl RX6 38 TX6 0 := fl0_X6_38
theorem fl_X2_33 : m_fl RX2 33 TX6 0 := fl0_X2_33
theorem fl_X10_80 : m_fl RX10 80 TX6 0 := fl0_X10_80
theorem fl_X8_45 : m_fl RX8 45 TX6 0 := fl0_X8_45
theorem fl_X4_100 : m_fl RX4 100 TX6 0 := fl0_X4_100
theorem fl_X6_9 : m_fl RX6 9 TX6 1 := fl0_X6_9
theorem fl_X4_130 : m_fl RX4 130 TX6 1 := fl0_X4_130
theorem fl_X6_15 : m_fl RX6 15 TX6 2 := fl0_X6_15
theorem fl_X4_124 : m_fl RX4 124 TX6 2 := fl0_X4_124
theorem fl_X6_18 : m_fl RX6 18 TX6 3 := fl0_X6_18
theorem fl_X4_110 : m_fl RX4 110 TX6 3 := fl0_X4_110
theorem fl_X6_21 : m_fl RX6 21 TX6 4 := fl0_X6_21
theorem fl_X4_60 : m_fl RX4 60 TX6 4 := fl0_X4_60
theorem fl_X10_164 : m_fl RX10 164 TX6 4 := fl0_X10_164
theorem fl_X6_24 : m_fl RX6 24 TX6 5 := fl0_X6_24
theorem fl_X2_39 : m_fl RX2 39 TX6 5 := fl0_X2_39
theorem fl_X5_104 : m_fl RX5 104 TX6 5 := fl0_X5_104
theorem fl_X8_31 : m_fl RX8 31 TX6 6 := fl0_X8_31
theorem fl_X5_37 : m_fl RX5 37 TX6 6 := fl0_X5_37
theorem fl_X10_91 : m_fl RX10 91 TX6 6 := fl0_X10_91
theorem fl_X6_41 : m_fl RX6 41 TX6 6 := fl0_X6_41
theorem fl_X0_73 : m_fl RX0 73 TX6 6 := fl0_X0_73
theorem fl_X4_81 : m_fl RX4 81 TX6 6 := fl0_X4_81
theorem fl_X6_29 : m_fl RX6 29 TX6 7 := fl0_X6_29
theorem fl_X8_37 : m_fl RX8 37 TX6 7 := fl0_X8_37
theorem fl_X5_48 : m_fl RX5 48 TX6 7 := fl0_X5_48
theorem fl_X0_76 : m_fl RX0 76 TX6 7 := fl0_X0_76
theorem fl_X10_104 : m_fl RX10 104 TX6 7 := fl0_X10_104
theorem fl_X4_85 : m_fl RX4 85 TX6 7 := fl0_X4_85
theorem fl_X6_33 : m_fl RX6 33 TX6 8 := fl0_X6_33
theorem fl_X4_66 : m_fl RX4 66 TX6 8 := fl0_X4_66
theorem fl_X2_48 : m_fl RX2 48 TX6 8 := fl0_X2_48
theorem fl_X10_154 : m_fl RX10 154 TX6 8 := fl0_X10_154
theorem fl_X9_9 : m_fl RX9 9 TX9 0 := fl0_X9_9
theorem fl_X10_113 : m_fl RX10 113 TX9 0 := fl0_X10_113
theorem fl_X9_25 : m_fl RX9 25 TX9 1 := fl0_X9_25
theorem fl_X10_112 : m_fl RX10 112 TX9 1 := fl0_X10_112
theorem fl_X9_15 : m_fl RX9 15 TX9 2 := fl0_X9_15
theorem fl_X1_36 : m_fl RX1 36 TX9 2 := fl0_X1_36
theorem fl_X9_18 : m_fl RX9 18 TX9 3 := fl0_X9_18
theorem fl_X1_43 : m_fl RX1 43 TX9 3 := fl0_X1_43
theorem fl_X9_36 : m_fl RX9 36 TX9 4 := fl0_X9_36
theorem fl_X1_28 : m_fl RX1 28 TX9 4 := fl0_X1_28
theorem fl_X9_33 : m_fl RX9 33 TX9 5 := fl0_X9_33
theorem fl_X9_61 : m_fl RX9 61 TX9 6 := fl0_X9_61
theorem fl_X9_39 : m_fl RX9 39 TX9 7 := fl0_X9_39
theorem fl_X9_42 : m_fl RX9 42 TX9 8 := fl0_X9_42
theorem fl_X4_56 : m_fl RX4 56 TX4 0 := fl0_X4_56
theorem fl_X4_9 : m_fl RX4 9 TX4 1 := fl0_X4_9
theorem fl_X10_170 : m_fl RX10 170 TX4 1 := fl0_X10_170
theorem fl_X4_15 : m_fl RX4 15 TX4 2 := fl0_X4_15
theorem fl_X10_173 : m_fl RX10 173 TX4 2 := fl0_X10_173
theorem fl_X4_18 : m_fl RX4 18 TX4 3 := fl0_X4_18
theorem fl_X10_176 : m_fl RX10 176 TX4 3 := fl0_X10_176
theorem fl_X4_21 : m_fl RX4 21 TX4 4 := fl0_X4_21
theorem fl_X10_179 : m_fl RX10 179 TX4 4 := fl0_X10_179
theorem fl_X4_24 : m_fl RX4 24 TX4 5 := fl0_X4_24
theorem fl_X10_182 : m_fl RX10 182 TX4 5 := fl0_X10_182
theorem fl_X4_27 : m_fl RX4 27 TX4 6 := fl0_X4_27
theorem fl_X10_185 : m_fl RX10 185 TX4 6 := fl0_X10_185
theorem fl_X4_30 : m_fl RX4 30 TX4 7 := fl0_X4_30
theorem fl_X10_188 : m_fl RX10 188 TX4 7 := fl0_X10_188
theorem fl_X4_33 : m_fl RX4 33 TX4 8 := fl0_X4_33
theorem fl_X4_36 : m_fl RX4 36 TX4 9 := fl0_X4_36
theorem fl_X4_39 : m_fl RX4 39 TX4 10 := fl0_X4_39
theorem fl_X4_42 : m_fl RX4 42 TX4 11 := fl0_X4_42
theorem fl_X4_45 : m_fl RX4 45 TX4 12 := fl0_X4_45
theorem fl_X4_48 : m_fl RX4 48 TX4 13 := fl0_X4_48
theorem fl_X4_53 : m_fl RX4 53 TX4 14 := fl0_X4_53
theorem fl_X4_65 : m_fl RX4 65 TX4 15 := fl0_X4_65
theorem fl_X4_84 : m_fl RX4 84 TX4 16 := fl0_X4_84
theorem fl_X5_26 : m_fl RX5 26 TX5 0 := fl0_X5_26
theorem fl_X5_9 : m_fl RX5 9 TX5 1 := fl0_X5_9
theorem fl_X10_197 : m_fl RX10 197 TX5 1 := fl0_X10_197
theorem fl_X5_15 : m_fl RX5 15 TX5 2 := fl0_X5_15
theorem fl_X5_18 : m_fl RX5 18 TX5 3 := fl0_X5_18
theorem fl_X5_23 : m_fl RX5 23 TX5 4 := fl0_X5_23
theorem fl_X5_33 : m_fl RX5 33 TX5 5 := fl0_X5_33
theorem fl_X8_24 : m_fl RX8 24 TX8 0 := fl0_X8_24
theorem fl_X8_9 : m_fl RX8 9 TX8 1 := fl0_X8_9
theorem fl_X10_200 : m_fl RX10 200 TX8 1 := fl0_X10_200
theorem fl_X8_15 : m_fl RX8 15 TX8 2 := fl0_X8_15
theorem fl_X10_204 : m_fl RX10 204 TX8 2 := fl0_X10_204
theorem fl_X8_18 : m_fl RX8 18 TX8 3 := fl0_X8_18
theorem fl_X10_205 : m_fl RX10 205 TX8 3 := fl0_X10_205
theorem fl_X8_48 : m_fl RX8 48 TX8 4 := fl0_X8_48
theorem fl_X10_215 : m_fl RX10 215 TX8 4 := fl0_X10_215
theorem fl_X0_70 : m_fl RX0 70 TX8 5 := fl0_X0_70
theorem fl_X8_58 : m_fl RX8 58 TX8 5 := fl0_X8_58
theorem fl_X10_218 : m_fl RX10 218 TX8 5 := fl0_X10_218
theorem fl_X8_21 : m_fl RX8 21 TX8 6 := fl0_X8_21
theorem fl_X2_21 : m_fl RX2 21 TX2 0 := fl0_X2_21
theorem fl_X2_25 : m_fl RX2 25 TX2 1 := fl0_X2_25
theorem fl_X2_9 : m_fl RX2 9 TX2 2 := fl0_X2_9
theorem fl_X10_229 : m_fl RX10 229 TX2 2 := fl0_X10_229
theorem fl_X2_15 : m_fl RX2 15 TX2 3 := fl0_X2_15
theorem fl_X10_232 : m_fl RX10 232 TX2 3 := fl0_X10_232
theorem fl_X2_18 : m_fl RX2 18 TX2 4 := fl0_X2_18
theorem fl_X2_72 : m_fl RX2 72 TX2 5 := fl0_X2_72
theorem fl_X10_224 : m_fl RX10 224 TX2 5 := fl0_X10_224
theorem fl_X2_75 : m_fl RX2 75 TX2 6 := fl0_X2_75
theorem fl_X10_226 : m_fl RX10 226 TX2 6 := fl0_X10_226
theorem fl_X2_29 : m_fl RX2 29 TX2 7 := fl0_X2_29
theorem fl_X10_275 : m_fl RX10 275 TX2 7 := fl0_X10_275
theorem fl_X0_9 : m_fl RX0 9 TX0 0 := fl0_X0_9
theorem fl_X0_15 : m_fl RX0 15 TX0 1 := fl0_X0_15
theorem fl_X0_19 : m_fl RX0 19 TX0 2 := fl0_X0_19
theorem fl_X0_42 : m_fl RX0 42 TX0 3 := fl0_X0_42
theorem fl_X10_248 : m_fl RX10 248 TX0 3 := fl0_X10_248
theorem fl_X0_23 : m_fl RX0 23 TX0 4 := fl0_X0_23
theorem fl_X10_279 : m_fl RX10 279 TX0 4 := fl0_X10_279
theorem fl_X7_21 : m_fl RX7 21 TX7 0 := fl0_X7_21
theorem fl_X7_9 : m_fl RX7 9 TX7 1 := fl0_X7_9
theorem fl_X10_257 : m_fl RX10 257 TX7 1 := fl0_X10_257
theorem fl_X7_29 : m_fl RX7 29 TX7 2 := fl0_X7_29
theorem fl_X10_256 : m_fl RX10 256 TX7 2 := fl0_X10_256
theorem fl_X7_15 : m_fl RX7 15 TX7 3 := fl0_X7_15
theorem fl_X10_263 : m_fl RX10 263 TX7 3 := fl0_X10_263
theorem fl_X7_18 : m_fl RX7 18 TX7 4 := fl0_X7_18
theorem fl_X10_266 : m_fl RX10 266 TX7 4 := fl0_X10_266
theorem fl_X7_25 : m_fl RX7 25 TX7 5 := fl0_X7_25
theorem fl_X10_272 : m_fl RX10 272 TX7 5 := fl0_X10_272
theorem fl_X10_10 : m_fl RX10 10 TX10 0 := fl0_X10_10
theorem fl_X10_19 : m_fl RX10 19 TX10 1 := fl0_X10_19
theorem fl_X10_28 : m_fl RX10 28 TX10 2 := fl0_X10_28
theorem fl_X10_35 : m_fl RX10 35 TX10 3 := fl0_X10_35
theorem fl_X10_42 : m_fl RX10 42 TX10 4 := fl0_X10_42
theorem fl_X10_46 : m_fl RX10 46 TX10 5 := fl0_X10_46
theorem fl_X10_54 : m_fl RX10 54 TX10 6 := fl0_X10_54
theorem fl_X10_63 : m_fl RX10 63 TX10 7 := fl0_X10_63
theorem fl_X10_72 : m_fl RX10 72 TX10 8 := fl0_X10_72
theorem fl_X11_7 : m_fl RX11 7 TX11 0 := fl0_X11_7
theorem fl_X11_13 : m_fl RX11 13 TX11 1 := fl0_X11_13
theorem fl_X11_16 : m_fl RX11 16 TX11 2 := fl0_X11_16
theorem fl_X11_19 : m_fl RX11 19 TX11 3 := fl0_X11_19
theorem fl_X11_107 : m_fl RX11 107 TX11 4 := fl0_X11_107
theorem fl_X11_22 : m_fl RX11 22 TX11 5 := fl0_X11_22
theorem fl_X11_25 : m_fl RX11 25 TX11 6 := fl0_X11_25
theorem fl_X11_28 : m_fl RX11 28 TX11 7 := fl0_X11_28
theorem fl_X11_114 : m_fl RX11 114 TX11 8 := fl0_X11_114
theorem fl_X11_103 : m_fl RX11 103 TX11 9 := fl0_X11_103
theorem fl_X11_31 : m_fl RX11 31 TX11 10 := fl0_X11_31
theorem fl_X11_135 : m_fl RX11 135 TX11 11 := fl0_X11_135
theorem fl_X11_34 : m_fl RX11 34 TX11 12 := fl0_X11_34
theorem fl_X11_37 : m_fl RX11 37 TX11 13 := fl0_X11_37
theorem fl_X11_40 : m_fl RX11 40 TX11 14 := fl0_X11_40
theorem fl_X11_43 : m_fl RX11 43 TX11 15 := fl0_X11_43
theorem fl_X11_46 : m_fl RX11 46 TX11 16 := fl0_X11_46
theorem fl_X11_49 : m_fl RX11 49 TX11 17 := fl0_X11_49
theorem fl_X11_52 : m_fl RX11 52 TX11 18 := fl0_X11_52
theorem fl_X11_55 : m_fl RX11 55 TX11 19 := fl0_X11_55
theorem fl_X11_58 : m_fl RX11 58 TX11 20 := fl0_X11_58
theorem fl_X11_61 : m_fl RX11 61 TX11 21 := fl0_X11_61
theorem fl_X11_64 : m_fl RX11 64 TX11 22 := fl0_X11_64
theorem fl_X11_67 : m_fl RX11 67 TX11 23 := fl0_X11_67
theorem fl_X11_70 : m_fl RX11 70 TX11 24 := fl0_X11_70
theorem fl_X11_73 : m_fl RX11 73 TX11 25 := fl0_X11_73
theorem fl_X11_76 : m_fl RX11 76 TX11 26 := fl0_X11_76
theorem fl_X11_79 : m_fl RX11 79 TX11 27 := fl0_X11_79
theorem fl_X11_216 : m_fl RX11 216 TX11 28 := fl0_X11_216
theorem fl_X11_82 : m_fl RX11 82 TX11 29 := fl0_X11_82
theorem fl_X11_85 : m_fl RX11 85 TX11 30 := fl0_X11_85
theorem fl_X11_88 : m_fl RX11 88 TX11 31 := fl0_X11_88
theorem fl_X11_230 : m_fl RX11 230 TX11 32 := fl0_X11_230
theorem fl_X11_234 : m_fl RX11 234 TX11 33 := fl0_X11_234
theorem fl_X11_91 : m_fl RX11 91 TX11 34 := fl0_X11_91
theorem fl_X11_94 : m_fl RX11 94 TX11 35 := fl0_X11_94
theorem fl_X11_268 : m_fl RX11 268 TX11 36 := fl0_X11_268
theorem fl_X11_97 : m_fl RX11 97 TX11 37 := fl0_X11_97
theorem fl_X11_100 : m_fl RX11 100 TX11 38 := fl0_X11_100
