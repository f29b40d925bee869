/-! the machine of making: new cells, calls, contracts -/
def y_ad (ad : Nat → Nat) (n q : Nat) : Nat → Nat := fun p => if p = n then q else ad p
theorem y_ad_lt {ad : Nat → Nat} {n q : Nat} : ∀ p, p < n → y_ad ad n q p = ad p := fun p hp => by
  unfold y_ad
  rw [if_neg (by omega)]
theorem y_ad_n {ad : Nat → Nat} {n q : Nat} : y_ad ad n q n = q := by
  unfold y_ad
  rw [if_pos rfl]
theorem y_tyI {D : va_G} {cI cB cA c0 : ClassId} {s : State} (h : va_K D vwCl (m_tys cI cB cA) s) (h2 : va_RA s c0 .int) : c0 = cI := Option.some.inj (h2.symm.trans (h.2 0 _ rfl).2)
theorem y_tyB {D : va_G} {cI cB cA c0 : ClassId} {s : State} (h : va_K D vwCl (m_tys cI cB cA) s) (h2 : va_RA s c0 (.object "FallClocks$Buyer")) : c0 = cB := by
  obtain ⟨_, _, _, _, _, e1⟩ := h2
  obtain ⟨_, _, _, _, _, e2⟩ := (h.2 1 _ rfl).2
  exact Option.some.inj (e1.symm.trans e2)
theorem y_tyA {D : va_G} {cI cB cA c0 : ClassId} {s : State} (h : va_K D vwCl (m_tys cI cB cA) s) (h2 : va_RA s c0 (.array .int)) : c0 = cA := Option.some.inj (h2.symm.trans (h.2 2 _ rfl).2)
section YR2
variable {k : mI} {pc : Nat} {ls st : List mV} {n : Nat} {K : yM} {cu su : Nat} {E : yE}
theorem ya_new {idx ci N : Nat} {C : String} {T : u_T} {ty0 : Nat → FieldType} (hd : decode k.2.1 pc = .ok (.new idx, 3)) (hs : m_sh n = (ci, N)) (hcf : m_cls ci N C T ty0) (hcl : Cond.classLink k.1.cls idx C ∈ lw_gd) (hins : Cond.instantiable C N ∈ lw_gd) (hini : Cond.initialized C ∈ lw_gd) (hdv : ∀ j, j < N → defaultValue (ty0 j) = y_val (fun _ => 0) (y_def n j)) (hc1 : cu + 1 ≤ E.2.2.2.2.1) (hs1 : su + N ≤ E.2.2.2.2.2) (hlt : y_lt n ls = true) (hst : y_lt n st = true) (h : Y_ k (pc + 3) ls (v_P n :: st) (n + 1) K (cu + 1) (su + N) E) : Y_ k pc ls st n K cu su E := by
  intro p l e R s m args below meth c Qw D cI cB cA ad A b H locs lr hC hA hc hss hW hL hret
  obtain ⟨hin, hty, hnm, hvw⟩ := hcf
  have hT := hC.2.2.2.2.1
  obtain ⟨hK, hP, hD, hS, hok⟩ := hW
  refine va_new (ci := ci) (fs := (List.range N).map (fun j => y_val ad (K n j))) (C := C) (T := T) (N := N) hC.1 hC.2.1 hT hin ty0 hty hC.2.2.2.1 (hT _ hcl) (hT _ hins) (hT _ hini) hK hP hD hS hA hvw (fun j hj => ?_) (Nat.le_trans hc1 hc) (Nat.le_trans hs1 hss) hd (fun q H1 hP1 hD1 hS1 => ?_)
  · unfold vp_V
    rw [hdv j hj, List.getD_eq_getElem?_getD, List.getElem?_map, List.getElem?_range hj]
    show _ = y_val ad (K n j)
    rw [hok.1 n j (Nat.le_refl _)]
    exact y_val_ad (n := 0) (fun _ h => absurd h (Nat.not_lt_zero _)) (fun q hq => absurd hq y_def_r)
  · have ea := y_ad_lt (ad := ad) (n := n) (q := q)
    have ex : y_cell cI cB cA (y_ad ad n q) K n = .inr (ci, (List.range N).map (fun j => y_val ad (K n j))) := by
      rw [y_cell_ad ea hok.2.1, y_cell_o hs (y_ci hvw)]
    rw [y_push hok ea y_ad_n ex] at hP1 hD1
    have := h p l e R s m args below meth c Qw D cI cB cA (y_ad ad n q) A b H1 locs lr hC hA hc hss ⟨hK, hP1, hD1, hS1, y_ok_s (by omega) hok⟩ (y_L ea hlt hL) (fun ad' H' locs' lr' e1 => hret ad' H' locs' lr' (fun q' hq' => by rw [e1 q' (by omega), ea q' hq']))
    rw [List.map_cons, y_st ea hst] at this
    have e2 : m_dv (y_ad ad n q) b (v_P n) = .ref q := by show Value.ref (y_ad ad n q n) = _; rw [y_ad_n]
    rw [e2] at this
    exact this
theorem ya_newa {x : Int} {N : Nat} (hd : decode k.2.1 pc = .ok (.newarray .int, 2)) (hs : m_sh n = (20, N)) (harr : Cond.arrayClass .int ∈ lw_gd) (hx : ¬ Int32.ofInt x < 0) (hN : (Int32.ofInt x).toNatClampNeg = N) (hb : N * 4 ≤ 536870912) (hc1 : cu + 1 ≤ E.2.2.2.2.1) (hs1 : su + N ≤ E.2.2.2.2.2) (hlt : y_lt n ls = true) (hst : y_lt n st = true) (h : Y_ k (pc + 2) ls (v_P n :: st) (n + 1) K (cu + 1) (su + N) E) : Y_ k pc ls (v_I x :: st) n K cu su E := by
  intro p l e R s m args below meth c Qw D cI cB cA ad A b H locs lr hC hA hc hss hW hL hret
  have hT := hC.2.2.2.2.1
  obtain ⟨hK, hP, hD, hS, hok⟩ := hW
  have ef : (fun j => Int32.ofInt (y_int (K n j))) = fun _ => 0 := funext fun j => by
    rw [hok.2.2 n j (by rw [hs])]
    rfl
  refine va_newa (atype := .int) (ty := .int) (a0 := (N, .inl (fun j => Int32.ofInt (y_int (K n j))))) hC.1 hC.2.1 (hT _ harr) rfl hK hP hD hS hA (fun c0 => by rw [ef]; rfl) hx hN hb (Nat.le_trans hc1 hc) (Nat.le_trans hs1 hss) hd (fun q c0 H1 hK1 hP1 hD1 hS1 => ?_)
  have ec : c0 = cI := y_tyI hK (hK1.2 3 _ rfl).2
  subst ec
  have ea := y_ad_lt (ad := ad) (n := n) (q := q)
  have ex : y_cell c0 cB cA (y_ad ad n q) K n = .inl (c0, N, .inl (fun j => Int32.ofInt (y_int (K n j)))) := y_cell_i hs
  rw [y_push hok ea y_ad_n ex] at hP1 hD1
  have := h p l e R s m args below meth c Qw D c0 cB cA (y_ad ad n q) A b H1 locs lr hC hA hc hss ⟨hK, hP1, hD1, hS1, y_ok_s (by omega) hok⟩ (y_L ea hlt hL) (fun ad' H' locs' lr' e1 => hret ad' H' locs' lr' (fun q' hq' => by rw [e1 q' (by omega), ea q' hq']))
  rw [List.map_cons, y_st ea hst] at this
  have e2 : m_dv (y_ad ad n q) b (v_P n) = .ref q := by show Value.ref (y_ad ad n q n) = _; rw [y_ad_n]
  rw [e2] at this
  exact this
theorem ya_newq {x : Int} {N idx : Nat} (hd : decode k.2.1 pc = .ok (.anewarray idx, 3)) (hs : m_sh n = (21, N)) (hcl : Cond.classLink k.1.cls idx "FallClocks$Buyer" ∈ lw_gd) (hx : ¬ Int32.ofInt x < 0) (hN : (Int32.ofInt x).toNatClampNeg = N) (hb : N * 4 ≤ 536870912) (hc1 : cu + 1 ≤ E.2.2.2.2.1) (hs1 : su + N ≤ E.2.2.2.2.2) (hlt : y_lt n ls = true) (hst : y_lt n st = true) (h : Y_ k (pc + 3) ls (v_P n :: st) (n + 1) K (cu + 1) (su + N) E) : Y_ k pc ls (v_I x :: st) n K cu su E := by
  intro p l e R s m args below meth c Qw D cI cB cA ad A b H locs lr hC hA hc hss hW hL hret
  have hT := hC.2.2.2.2.1
  obtain ⟨hK, hP, hD, hS, hok⟩ := hW
  have ed : ∀ j, K n j = .inr none := fun j => by
    rw [hok.1 n j (Nat.le_refl _)]
    unfold y_def
    rw [hs]
    rfl
  refine va_newq (C := "FallClocks$Buyer") hC.1 hC.2.1 hC.2.2.2.1 (hT _ hcl) hC.2.2.2.2.2.2.2.1.1 hK hP hD hS hA hx hN hb (Nat.le_trans hc1 hc) (Nat.le_trans hs1 hss) hd (fun q c0 H1 hK1 hP1 hD1 hS1 => ?_)
  have ec : c0 = cB := y_tyB hK (hK1.2 3 _ rfl).2
  subst ec
  have ea := y_ad_lt (ad := ad) (n := n) (q := q)
  have ex : y_cell cI c0 cA (y_ad ad n q) K n = .inl (c0, N, .inr (.inr (.inr (.inr (fun _ => none))))) := by
    rw [y_cell_b hs]
    have : (fun j => (y_ref (K n j)).map (y_ad ad n q)) = fun _ => none := funext fun j => by rw [ed j]; rfl
    rw [this]
  rw [y_push hok ea y_ad_n ex] at hP1 hD1
  have := h p l e R s m args below meth c Qw D cI c0 cA (y_ad ad n q) A b H1 locs lr hC hA hc hss ⟨hK, hP1, hD1, hS1, y_ok_s (by omega) hok⟩ (y_L ea hlt hL) (fun ad' H' locs' lr' e1 => hret ad' H' locs' lr' (fun q' hq' => by rw [e1 q' (by omega), ea q' hq']))
  rw [List.map_cons, y_st ea hst] at this
  have e2 : m_dv (y_ad ad n q) b (v_P n) = .ref q := by show Value.ref (y_ad ad n q n) = _; rw [y_ad_n]
  rw [e2] at this
  exact this
theorem ya_aast {x : Int} {a q N : Nat} (hd : decode k.2.1 pc = .ok (.aastore, 1)) (hs : m_sh a = (21, N)) (hs2 : m_sh q = (1, 8)) (ha : a < n) (hq : q < n) (hx : vp_in (Int32.ofInt x) N) (h : Y_ k (pc + 1) ls st n (y_up K a (Int32.ofInt x).toNatClampNeg (.inr (some q))) cu su E) : Y_ k pc ls (v_P q :: v_I x :: v_P a :: st) n K cu su E := by
  intro p l e R s m args below meth c Qw D cI cB cA ad A b H locs lr hC hA hc hss hW hL hret
  obtain ⟨hK, hP, hD, hS, hok⟩ := hW
  refine va_astq (D := D) (r := (RX1, TX1, 8)) hC.1 hC.2.1 hK hP hD hS a 1 q 1 (f := fun j => (y_ref (K a j)).map ad) (by rw [y_at ha, y_cell_b hs]) rfl (by rw [y_at hq, y_cell_o hs2 (by decide)]) rfl hx hd (fun H1 locs1 hP1 hD1 hS1 => ?_)
  have ex : y_cell cI cB cA ad (y_up K a (Int32.ofInt x).toNatClampNeg (.inr (some q))) a = .inl (cB, N, .inr (.inr (.inr (.inr (va_up (fun j => (y_ref (K a j)).map ad) (Int32.ofInt x).toNatClampNeg (some (ad q))))))) := by
    rw [y_cell_b hs]
    have : (fun j => (y_ref (y_up K a (Int32.ofInt x).toNatClampNeg (.inr (some q)) a j)).map ad) = va_up (fun j => (y_ref (K a j)).map ad) (Int32.ofInt x).toNatClampNeg (some (ad q)) := funext fun j => by
      unfold y_up va_up
      by_cases z : j = (Int32.ofInt x).toNatClampNeg
      · rw [if_pos ⟨rfl, z⟩, if_pos z]; rfl
      · rw [if_neg (fun w => z w.2), if_neg z]
    rw [this]
  rw [y_set ha ex (fun w hw => y_up_ne hw)] at hP1 hD1
  exact h p l e R s m args below meth c Qw D cI cB cA ad A b H1 locs1 lr hC hA hc hss ⟨hK, hP1, hD1, hS1, y_ok_up hok ha (by rw [hs]; show (21 : Nat) ≠ 20; decide) (fun _ z => by cases z; exact hq)⟩ hL hret
/-- new T[N][L] -/
theorem y_rows_ok {N L : Nat} (h : y_ok n K) (hs : m_sh n = (22, N)) : y_ok (n + 1 + N) (y_rows K n N) := by
  refine ⟨fun a b ha => ?_, fun a b q hq => ?_, fun a b ha => ?_⟩
  · unfold y_rows
    rw [if_neg (by omega)]
    exact h.1 a b (by omega)
  · unfold y_rows at hq
    split at hq
    · cases hq
      omega
    · have := h.2.1 a b q hq
      omega
  · unfold y_rows
    rw [if_neg (fun z => by rw [z.1, hs] at ha; exact (show ¬ (22 : Nat) = 20 by decide) ha)]
    exact h.2.2 a b ha
theorem ya_mna {x y : Int} {N L idx : Nat} (hd : decode k.2.1 pc = .ok (.multianewarray idx 2, 4)) (hs : m_sh n = (22, N)) (hs2 : ∀ i, i < N → m_sh (n + 1 + i) = (20, L)) (hcl : Cond.classLink k.1.cls idx "[[I" ∈ lw_gd) (harr : Cond.arrayClass .int ∈ lw_gd) (hx : ¬ Int32.ofInt x < 0) (hN : (Int32.ofInt x).toNatClampNeg = N) (hy : ¬ Int32.ofInt y < 0) (hL0 : (Int32.ofInt y).toNatClampNeg = L) (hb1 : N * 4 ≤ 536870912) (hb2 : L * 4 ≤ 536870912) (hc1 : cu + (1 + N) ≤ E.2.2.2.2.1) (hs1 : su + (N + N * L) ≤ E.2.2.2.2.2) (hlt : y_lt n ls = true) (hst : y_lt n st = true) (h : Y_ k (pc + 4) ls (v_P n :: st) (n + 1 + N) (y_rows K n N) (cu + 1 + N) (su + N + N * L) E) : Y_ k pc ls (v_I y :: v_I x :: st) n K cu su E := by
  intro p l e R s m args below meth c Qw D cI cB cA ad A b H locs lr hC hA hc hss hW hL hret
  have hT := hC.2.2.2.2.1
  obtain ⟨hK, hP, hD, hS, hok⟩ := hW
  have hP' : va_P D vwCl (y_ws cI cB cA ad n K ++ va_pl [] (fun _ => .inr (0, []))) H := by
    have : va_pl [] (fun _ => (.inr (0, []) : va_E)) = [] := rfl
    rw [this, List.append_nil]
    exact hP
  have hD' : va_D A (y_ws cI cB cA ad n K ++ va_pl [] (fun _ => .inr (0, []))) := by
    have : va_pl [] (fun _ => (.inr (0, []) : va_E)) = [] := rfl
    rw [this, List.append_nil]
    exact hD
  refine va_mna (D := D) (ty := .int) (cy := cI) (z := (L, .inl (fun _ => 0))) hC.1 hC.2.1 hC.2.2.2.1 (hT _ hcl) hC.2.2.2.2.2.2.2.1.2.1 (hT _ harr) (hK.2 0 _ rfl).2 hK hP' hD' hS hA hx hy hN hL0 hb1 hb2 (by omega) rfl rfl (Nat.le_trans hc1 hc) (Nat.le_trans hs1 hss) (fun c0 => ?_) hd (fun q r c0 H1 hinj _ hK1 hP1 hD1 hS1 => ?_)
  · show Jvm.Free.Multi.innerC c0 L _ = arrV c0 L (fun _ => .int 0)
    rw [← arrV_new]
    rfl
  · have ec : c0 = cA := y_tyA hK (hK1.2 3 _ rfl).2
    subst ec
    -- the addresses
    obtain ⟨ad', had⟩ : ∃ ad' : Nat → Nat, ad' = fun p => if p < n then ad p else if p = n then q else r (p - (n + 1)) := ⟨_, rfl⟩
    have ea : ∀ p, p < n → ad' p = ad p := fun p hp => by rw [had]; show (if p < n then _ else _) = _; rw [if_pos hp]
    have en : ad' n = q := by rw [had]; show (if n < n then _ else _) = _; rw [if_neg (by omega), if_pos rfl]
    have er : ∀ i, ad' (n + 1 + i) = r i := fun i => by rw [had]; show (if n + 1 + i < n then _ else _) = _; rw [if_neg (by omega), if_neg (by omega)]; congr 1; omega
    have ew : (y_ws cI cB c0 ad n K ++ [(q, .inl (c0, N, .inr (.inr (.inr (.inr (fun i => if i < N then some (r i) else none))))))]) ++ va_pl ([] ++ (List.range N).map r) (vr_up (fun _ => .inr (0, [])) ((List.range N).map r) (.inl (cI, L, .inl (fun _ => 0)))) = y_ws cI cB c0 ad' (n + 1 + N) (y_rows K n N) := by
      unfold y_ws va_pl
      rw [List.nil_append, List.range_add, List.map_append, List.range_succ, List.map_append, List.map_singleton]
      congr 1
      · congr 1
        · refine List.map_congr_left (fun p hp => ?_)
          have hp' := List.mem_range.mp hp
          have e1 : y_rows K n N p = K p := funext fun j => by unfold y_rows; rw [if_neg (by omega)]
          have e2 : y_cell cI cB c0 ad' (y_rows K n N) p = y_cell cI cB c0 ad' K p := by unfold y_cell; simp only [e1]
          rw [e2, y_cell_ad ea hok.2.1, ea p hp']
        · rw [en, y_cell_a hs]
          have : (fun j => (y_ref (y_rows K n N n j)).map ad') = fun i => if i < N then some (r i) else none := funext fun j => by
            unfold y_rows
            by_cases z : j < N
            · rw [if_pos ⟨rfl, z⟩, if_pos z]
              show some (ad' (n + 1 + j)) = _
              rw [er j]
            · rw [if_neg (fun w => z w.2), if_neg z, hok.1 n j (Nat.le_refl _)]
              unfold y_def
              rw [hs]
              rfl
          rw [this]
      · rw [List.map_map, List.map_map]
        refine List.map_congr_left (fun i hi => ?_)
        have hi' := List.mem_range.mp hi
        show (r i, vr_up _ _ _ (r i)) = (ad' (n + 1 + i), y_cell cI cB c0 ad' (y_rows K n N) (n + 1 + i))
        rw [vr_up_in (List.mem_map.mpr ⟨i, hi, rfl⟩), er i, y_cell_i (hs2 i hi')]
        have : (fun j => Int32.ofInt (y_int (y_rows K n N (n + 1 + i) j))) = fun _ => 0 := funext fun j => by
          unfold y_rows
          rw [if_neg (by omega), hok.2.2 (n + 1 + i) j (by rw [hs2 i hi'])]
          rfl
        rw [this]
    rw [ew] at hP1 hD1
    have := h p l e R s m args below meth c Qw D cI cB c0 ad' A b H1 locs lr hC hA hc hss ⟨hK, hP1, hD1, hS1, y_rows_ok (L := L) hok hs⟩ (y_L ea hlt hL) (fun ad2 H' locs' lr' e1 => hret ad2 H' locs' lr' (fun q' hq' => by rw [e1 q' (by omega), ea q' hq']))
    rw [List.map_cons, y_st ea hst] at this
    have e2 : m_dv ad' b (v_P n) = .ref q := by show Value.ref (ad' n) = _; rw [en]
    rw [e2] at this
    exact this
end YR2
/-- a constructor's contract -/
def y_rm (k : mI) (cE sE : Nat) : Room := { frames := k.2.2.2.2.1, cells := cE, slots := sE, locals := k.2.2.2.2.2.1 }
def y_Pre (D : va_G) (cI cB cA : ClassId) (ad : Nat → Nat) (n : Nat) (K : yM) (sz : Nat) : State → Prop := fun U => U.heap.size = sz ∧ va_P D vwCl (y_ws cI cB cA ad n K) U.heap ∧ va_K D vwCl (m_tys cI cB cA) U ∧ va_D (fun _ => True) (y_ws cI cB cA ad n K) ∧ y_X U
def YC (k : mI) (as : List mV) (n : Nat) (K : yM) (nE : Nat) (KE : yM) (cE sE : Nat) : Prop :=
  y_ok n K → ∀ (l : Launch) (D : va_G) (cI cB cA : ClassId) (ad : Nat → Nat) (b sz : Nat),
    Met l k.1 (m_ws0 k) (y_rm k cE sE) (va_Pc (as.map (m_dv ad b)) (y_Pre D cI cB cA ad n K sz))
      (va_Qv (fun ad' : Nat → Nat => (∀ q, q < n → ad' q = ad q) ∧ y_ok nE KE) (fun ad' t => va_P D vwCl (y_ws cI cB cA ad' nE KE) t.heap ∧ va_K D vwCl (m_tys cI cB cA) t ∧ va_D (va_A (y_ws cI cB cA ad n K) sz) (y_ws cI cB cA ad' nE KE)) (va_A (y_ws cI cB cA ad n K) sz)) cE sE (va_A (y_ws cI cB cA ad n K) sz)
theorem y_blind {D : va_G} {cI cB cA : ClassId} {ad : Nat → Nat} {n : Nat} {K : yM} {sz : Nat} {av : List Value} : FrameBlind (va_Pc av (y_Pre D cI cB cA ad n K sz)) := by
  intro a U g mk q
  obtain ⟨q0, q1, qP, qK, qD, qX⟩ := q
  exact ⟨q0, q1, qP, va_K.moved (u := U) (U := U.calling g mk a) (Vm.Alike.refl U.vm) qK, qD, y_X_same (U := U.calling g mk a) rfl qX⟩
theorem yc_intro {k : mI} {as : List mV} {n nE pcE cE sE : Nat} {K KE : yM} {lsE : List mV} (hp : plainName k.1.cls = true) (hsc : k.2.2.2.2.2.2 = none) (hre : k.2.2.2.1 = none) (hn : as.length ≤ k.2.2.1) (h1 : ∀ v ∈ as, ∀ ad b, (m_dv ad b v).category = 1) (hdE : decode k.2.1 pcE = .ok (.return_, 1)) (h : Y_ k 0 (as ++ List.replicate (k.2.2.1 - as.length) v_U) [] n K 0 0 (pcE, lsE, nE, KE, cE, sE)) : YC k as n K nE KE cE sE := by
  intro hok l D cI cB cA ad b sz
  refine Met.ofW (cc := k.2.1) (maxL := k.2.2.1) (ret := k.2.2.2.1) hp rfl ?_
  intro p e s m args below meth c s₁ B hml hv
  obtain ⟨rfl, hsz, hP, hK, hD0, hX⟩ := hv
  have hts := atoms_spec (ws := m_ws0 k) B.pre
  have hown : s.vm.findClass k.1.cls = some m.cls := findClass_of_methodNamed B.named
  have hin : meth.name = k.1.name := (name_of_methodNamed B.named B.method).1
  subst hsz
  have hcat : ∀ w ∈ as.map (m_dv ad b), w.category = 1 := by
    intro w hw
    obtain ⟨v, hv, rfl⟩ := List.mem_map.mp hw
    exact h1 v hv ad b
  have hl := lv_entry (as.map (m_dv ad b)) (n := k.2.2.1) (by rw [m_sl1 _ hcat, List.length_map]; exact hn)
  rw [lg_entry_eq]
  generalize (lg_sl (as.map (m_dv ad b)) ++ List.replicate (k.2.2.1 - (lg_sl (as.map (m_dv ad b))).length) Slot.unset).toArray = lr at hl ⊢
  have hL : m_L ad b k.2.2.1 lr (as ++ List.replicate (k.2.2.1 - as.length) v_U) := by
    refine ⟨hl.1, hl.2.1, by simp; omega, fun i v hi hv => ?_⟩
    by_cases hlt : i < as.length
    · rw [List.getElem?_append_left hlt] at hi
      have hi2 : (as.map (m_dv ad b))[i]? = some (m_dv ad b v) := by rw [List.getElem?_map, hi]; rfl
      have := m_args1 (as.map (m_dv ad b)) 0 i _ hcat hi2
      rw [Nat.zero_add] at this
      exact ⟨hl.2.2 _ this, hcat _ (List.mem_of_getElem? hi2)⟩
    · rw [List.getElem?_append_right (by omega)] at hi
      exact absurd (List.eq_of_mem_replicate (List.mem_of_getElem? hi)) hv
  refine h p l e (headSpec (m_ws0 k) (y_rm k cE sE)).room s m (as.map (m_dv ad b)).toArray below meth c _ D cI cB cA ad (va_A (y_ws cI cB cA ad n K) s.heap.size) b s.heap [] lr
    ⟨B.exec, B.bytes, hml, hown, fun w hw => hts w (List.mem_cons_of_mem _ hw), Nat.le_refl _, Nat.le_refl _, hX, fun _ => hin⟩ (fun q hq => Or.inr hq) (Nat.le_refl _) (Nat.le_refl _) ⟨hK, hP, hD0.self, va_S.rf, hok⟩ hL ?_
  intro ad' H' locs' lr' ea hW' hL'
  obtain ⟨hK', hP', hD', hS', hok'⟩ := hW'
  have hrt := B.returns
  obtain ⟨y', cc', nL', ret', fr', lo', sc'⟩ := k
  dsimp only at hre
  subst hre
  exact W.vret B.exec B.bytes hrt (fun t ht hWm => ⟨⟨ad', rfl, ⟨ea, hok'⟩, by rw [ht]; exact hP', va_K.moved hWm.alike hK', hD'⟩, hS'.F ht⟩) hS'.2.2 hdE
section YR3
variable {k : mI} {pc : Nat} {ls st : List mV} {n : Nat} {K : yM} {cu su : Nat} {E : yE}
/-- what the tables say of a constructor -/
def y_MI (k' : mI) (nn : Nat) : Prop := Cond.code k'.1 k'.2.1 k'.2.2.1 k'.2.2.2.1 ∈ lw_gd ∧ Cond.initialized k'.1.cls ∈ lw_gd ∧ m_nm k' nn ∧ Cond.instanceMethod k'.1 ∈ lw_gd ∧ k'.1.name = "<init>" ∧ k'.2.2.2.1 = none
theorem y_behind {p : Program} {l : Launch} {e : Env} {R : Room} {s : State} {m : MethodId} {args : Array Value} {below : List Frame} {meth : Method} {c : Code} {Qw : State → Prop} {D : va_G} {cI cB cA : ClassId} {ad : Nat → Nat} {A : Nat → Prop} {b : Nat} {H : Heap} {locs : List Loc} {lr : Array Slot} {a : Array Value} {st0 : List Value} {n' c' s' : Nat} {K' : yM}
    (hC : y_C k p R s m args meth c) (hA : ∀ q, s.heap.size ≤ q → A q) (hc : E.2.2.2.2.1 ≤ R.cells) (hss : E.2.2.2.2.2 ≤ R.slots) (hW : y_Wd D cI cB cA ad A s H locs n K) (hL : m_L ad b k.2.2.1 lr ls) (hlt : y_lt n ls = true) (hst : y_lt n st = true) (hnn : n ≤ n')
    (hret : ∀ (ad' : Nat → Nat) (H' : Heap) (locs' : List Loc) (lr' : Array Slot), (∀ q, q < n → ad' q = ad q) → y_Wd D cI cB cA ad' A s H' locs' E.2.2.1 E.2.2.2.1 → m_L ad' b k.2.2.1 lr' E.2.1 → W p l e R s m args below meth c H' locs' E.2.2.2.2.1 E.2.2.2.2.2 Qw (F0 m E.1 lr' []))
    (h : Y_ k (pc + 3) ls st n' K' (cu + c') (su + s') E)
    (hr : va_Run p l e R s m args below meth c H locs cu su c' s' (F0 m pc lr st0) (st.map (m_dv ad b)) (va_Qv (fun ad' : Nat → Nat => (∀ q, q < n → ad' q = ad q) ∧ y_ok n' K') (fun ad' t => va_P D vwCl (y_ws cI cB cA ad' n' K') t.heap ∧ va_K D vwCl (m_tys cI cB cA) t ∧ va_D (va_A (y_ws cI cB cA ad n K) H.size) (y_ws cI cB cA ad' n' K')) (va_A (y_ws cI cB cA ad n K) H.size) a) (va_A (y_ws cI cB cA ad n K) H.size)) :
    W p l e R s m args below meth c H locs cu su Qw (F0 m pc lr st0) := by
  obtain ⟨hK, hP, hD, hS, hok⟩ := hW
  have hF : ∀ q, va_A (y_ws cI cB cA ad n K) H.size q → A q := by
    intro q hq
    rcases hq with ⟨i, x, hi⟩ | hq
    · exact hD.2 i (q, x) hi
    · exact hA q (Nat.le_trans hS.1 hq)
  refine va_callv (a := a) hr hS (fun q _ hq => hF q hq) hF (fun u t H1 locs1 ht hvm hw hB hz1 hk1 hS1 => ?_)
  obtain ⟨hP1, hK1, hD1⟩ := hB
  obtain ⟨ea, hok1⟩ := hw
  rw [ht] at hP1
  have := h p l e R s m args below meth c Qw D cI cB cA u A b H1 locs1 lr hC hA hc hss ⟨hK, hP1, hD1.weaken (fun _ q _ hq => hF q.1 hq), hS1, hok1⟩ (y_L ea hlt hL) (fun ad2 H' locs' lr' e1 => hret ad2 H' locs' lr' (fun q' hq' => by rw [e1 q' (by omega), ea q' hq']))
  rw [y_st ea hst] at this
  exact this
theorem y_pre {D : va_G} {cI cB cA : ClassId} {ad : Nat → Nat} {A : Nat → Prop} {s : State} {H : Heap} {locs : List Loc} {av : List Value} (hX : y_X s) (hW : y_Wd D cI cB cA ad A s H locs n K) : PreS s H (va_Pc av (y_Pre D cI cB cA ad n K H.size)) av :=
  ⟨y_blind, fun U hU hWm => ⟨rfl, by rw [hU], by rw [hU]; exact hW.2.1, va_K.moved hWm.alike hW.1, hW.2.2.1.weaken (fun _ _ _ _ => trivial), y_X_warm hWm hX⟩⟩
theorem ya_call {k' : mI} {idx q n' c' s' : Nat} {K' : yM} {as : List mV} (hd : decode k.2.1 pc = .ok (.invokespecial idx, 3)) (hm : y_MI k' as.length) (hl : Cond.methodLink k.1.cls idx k'.1 ∈ lw_gd) (hR : k'.2.2.2.2.1 + 1 ≤ k.2.2.2.2.1 ∧ 8 + (k'.2.2.1 + 11) + k'.2.2.2.2.2.1 ≤ k.2.2.2.2.2.1) (h8 : ∀ ad b, ((st.map (m_dv ad b)).map fun v => v.category).sum ≤ 8) (hc : YC k' (v_P q :: as) n K n' K' c' s') (hc1 : cu + c' ≤ E.2.2.2.2.1) (hs1 : su + s' ≤ E.2.2.2.2.2) (hlt : y_lt n ls = true) (hst : y_lt n st = true) (hnn : n ≤ n')
    (h : Y_ k (pc + 3) ls st n' K' (cu + c') (su + s') E) : Y_ k pc ls (as.reverse ++ v_P q :: st) n K cu su E := by
  intro p l e R s m args below meth c Qw D cI cB cA ad A b H locs lr hC hA hcE hss hW hL hret
  have hT := hC.2.2.2.2.1
  obtain ⟨m1, m2, m3, m4, m5, m6⟩ := hm
  refine y_behind (a := (Value.ref (ad q) :: as.map (m_dv ad b)).toArray) hC hA hcE hss hW hL hlt hst hnn hret h ?_
  have hMet := hc hW.2.2.2.2 l D cI cB cA ad b H.size
  obtain ⟨y', cc', nL', ret', fr', lo', sc'⟩ := k'
  dsimp only at m6
  subst m6
  exact va_runI (As := as.map (m_dv ad b)) (rest := st.map (m_dv ad b)) (b := ad q) (nL := k.2.2.1) ⟨hC.1, hC.2.1, hC.2.2.1, hC.2.2.2.1, hT⟩ hMet (cwI as.length hT (m_goodIn (k := (y', cc', nL', none, fr', lo', sc')) m1) rfl rfl rfl (hT _ m2) (hT _ hl) (hT _ m4) m5 m3 ⟨Nat.le_trans hR.1 hC.2.2.2.2.2.1, Nat.le_trans hR.2 hC.2.2.2.2.2.2.1⟩)
    (y_pre hC.2.2.2.2.2.2.2.1 hW) rfl (by rw [List.length_map]) hL.1 (by simp [m_dv]) (lv_room (h8 ad b)) hd ⟨Nat.le_trans hc1 hcE, Nat.le_trans hs1 hss⟩
theorem ya_callN {k' : mI} {idx q n' c' s' : Nat} {K' : yM} {as : List mV} {host : String} (hd : decode k.2.1 pc = .ok (.invokespecial idx, 3)) (hm : y_MI k' as.length) (hl : ∀ s, y_X s → va_Nw (.methodLinkNest k.1.cls idx k'.1 host) s) (hR : k'.2.2.2.2.1 + 1 ≤ k.2.2.2.2.1 ∧ 8 + (k'.2.2.1 + 11) + k'.2.2.2.2.2.1 ≤ k.2.2.2.2.2.1) (h8 : ∀ ad b, ((st.map (m_dv ad b)).map fun v => v.category).sum ≤ 8) (hc : YC k' (v_P q :: as) n K n' K' c' s') (hc1 : cu + c' ≤ E.2.2.2.2.1) (hs1 : su + s' ≤ E.2.2.2.2.2) (hlt : y_lt n ls = true) (hst : y_lt n st = true) (hnn : n ≤ n')
    (h : Y_ k (pc + 3) ls st n' K' (cu + c') (su + s') E) : Y_ k pc ls (as.reverse ++ v_P q :: st) n K cu su E := by
  intro p l e R s m args below meth c Qw D cI cB cA ad A b H locs lr hC hA hcE hss hW hL hret
  have hT := hC.2.2.2.2.1
  obtain ⟨m1, m2, m3, m4, m5, m6⟩ := hm
  refine y_behind (a := (Value.ref (ad q) :: as.map (m_dv ad b)).toArray) hC hA hcE hss hW hL hlt hst hnn hret h ?_
  have hMet := hc hW.2.2.2.2 l D cI cB cA ad b H.size
  obtain ⟨y', cc', nL', ret', fr', lo', sc'⟩ := k'
  dsimp only at m6
  subst m6
  exact va_runIN (As := as.map (m_dv ad b)) (rest := st.map (m_dv ad b)) (b := ad q) (nL := k.2.2.1) ⟨hC.1, hC.2.1, hC.2.2.1, hC.2.2.2.1, hT⟩ hMet ⟨va_cnB as.length hT (m_goodIn (k := (y', cc', nL', none, fr', lo', sc')) m1) rfl rfl rfl (hl s hC.2.2.2.2.2.2.2.1) (hT _ m2) m3 ⟨Nat.le_trans hR.1 hC.2.2.2.2.2.1, Nat.le_trans hR.2 hC.2.2.2.2.2.2.1⟩, m5, hT _ m4⟩
    (y_pre hC.2.2.2.2.2.2.2.1 hW) rfl (by rw [List.length_map]) hL.1 (by simp [m_dv]) (lv_room (h8 ad b)) hd ⟨Nat.le_trans hc1 hcE, Nat.le_trans hs1 hss⟩
end YR3
