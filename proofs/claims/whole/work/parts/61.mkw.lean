/-! the rules of making, with the next numbers as they are written -/
theorem y_def_o {p ci N j : Nat} (h : m_sh p = (ci, N)) (hc : ci < 20) : y_def p j = if m_fk ci j ≤ 1 then .inl 0 else .inr none := by
  unfold y_def
  rw [h]
  rw [if_neg (by show ¬ ci = 20; omega), if_neg (by show ¬ (ci = 21 ∨ ci = 22); omega)]
section YW
variable {k : mI} {pc : Nat} {ls st : List mV} {n n' : Nat} {K : yM} {cu su cu' su' : Nat} {E : yE}
theorem yb_new {idx ci N : Nat} {C : String} {T : u_T} {ty0 : Nat → FieldType} (hd : decode k.2.1 pc = .ok (.new idx, 3)) (hs : m_sh n = (ci, N)) (hcf : m_cls ci N C T ty0) (hcl : Cond.classLink k.1.cls idx C ∈ lw_gd) (hins : Cond.instantiable C N ∈ lw_gd) (hini : Cond.initialized C ∈ lw_gd) (hdv : ∀ j, j < N → defaultValue (ty0 j) = y_val (fun _ => 0) (if m_fk ci j ≤ 1 then .inl 0 else .inr none)) (e1 : n + 1 = n') (e2 : cu + 1 = cu') (e3 : su + N = su') (hc1 : cu' ≤ E.2.2.2.2.1) (hs1 : su' ≤ E.2.2.2.2.2) (hlt : y_lt n ls = true) (hst : y_lt n st = true) (h : Y_ k (pc + 3) ls (v_P n :: st) n' K cu' su' E) : Y_ k pc ls st n K cu su E := by
  subst e1
  subst e2
  subst e3
  exact ya_new hd hs hcf hcl hins hini (fun j hj => by rw [y_def_o hs (y_ci hcf.2.2.2)]; exact hdv j hj) hc1 hs1 hlt hst h
theorem yb_newa {x : Int} {N : Nat} (hd : decode k.2.1 pc = .ok (.newarray .int, 2)) (hs : m_sh n = (20, N)) (harr : Cond.arrayClass .int ∈ lw_gd) (hx : ¬ Int32.ofInt x < 0) (hN : (Int32.ofInt x).toNatClampNeg = N) (hb : N * 4 ≤ 536870912) (e1 : n + 1 = n') (e2 : cu + 1 = cu') (e3 : su + N = su') (hc1 : cu' ≤ E.2.2.2.2.1) (hs1 : su' ≤ E.2.2.2.2.2) (hlt : y_lt n ls = true) (hst : y_lt n st = true) (h : Y_ k (pc + 2) ls (v_P n :: st) n' K cu' su' E) : Y_ k pc ls (v_I x :: st) n K cu su E := by
  subst e1
  subst e2
  subst e3
  exact ya_newa hd hs harr hx hN hb hc1 hs1 hlt hst h
theorem yb_newq {x : Int} {N idx : Nat} (hd : decode k.2.1 pc = .ok (.anewarray idx, 3)) (hs : m_sh n = (21, N)) (hcl : Cond.classLink k.1.cls idx "FallClocks$Buyer" ∈ lw_gd) (hx : ¬ Int32.ofInt x < 0) (hN : (Int32.ofInt x).toNatClampNeg = N) (hb : N * 4 ≤ 536870912) (e1 : n + 1 = n') (e2 : cu + 1 = cu') (e3 : su + N = su') (hc1 : cu' ≤ E.2.2.2.2.1) (hs1 : su' ≤ E.2.2.2.2.2) (hlt : y_lt n ls = true) (hst : y_lt n st = true) (h : Y_ k (pc + 3) ls (v_P n :: st) n' K cu' su' E) : Y_ k pc ls (v_I x :: st) n K cu su E := by
  subst e1
  subst e2
  subst e3
  exact ya_newq hd hs hcl hx hN hb hc1 hs1 hlt hst h
theorem yb_mna {x y : Int} {N L idx : Nat} (hd : decode k.2.1 pc = .ok (.multianewarray idx 2, 4)) (hs : m_sh n = (22, N)) (hs2 : ∀ i, i < N → m_sh (n + 1 + i) = (20, L)) (hcl : Cond.classLink k.1.cls idx "[[I" ∈ lw_gd) (harr : Cond.arrayClass .int ∈ lw_gd) (hx : ¬ Int32.ofInt x < 0) (hN : (Int32.ofInt x).toNatClampNeg = N) (hy : ¬ Int32.ofInt y < 0) (hL0 : (Int32.ofInt y).toNatClampNeg = L) (hb1 : N * 4 ≤ 536870912) (hb2 : L * 4 ≤ 536870912) (e1 : n + 1 + N = n') (e2 : cu + 1 + N = cu') (e3 : su + N + N * L = su') (hc1 : cu' ≤ E.2.2.2.2.1) (hs1 : su' ≤ E.2.2.2.2.2) (hlt : y_lt n ls = true) (hst : y_lt n st = true) (h : Y_ k (pc + 4) ls (v_P n :: st) n' (y_rows K n N) cu' su' E) : Y_ k pc ls (v_I y :: v_I x :: st) n K cu su E := by
  subst e1
  subst e2
  subst e3
  exact ya_mna hd hs hs2 hcl harr hx hN hy hL0 hb1 hb2 (by omega) (by omega) hlt hst h
theorem yb_call {k' : mI} {idx q c' s' : Nat} {K' : yM} {as : List mV} (hd : decode k.2.1 pc = .ok (.invokespecial idx, 3)) (hm : y_MI k' as.length) (hl : Cond.methodLink k.1.cls idx k'.1 ∈ lw_gd) (hR : k'.2.2.2.2.1 + 1 ≤ k.2.2.2.2.1 ∧ 8 + (k'.2.2.1 + 11) + k'.2.2.2.2.2.1 ≤ k.2.2.2.2.2.1) (h8 : ∀ ad b, ((st.map (m_dv ad b)).map fun v => v.category).sum ≤ 8) (hc : YC k' (v_P q :: as) n K n' K' c' s') (e2 : cu + c' = cu') (e3 : su + s' = su') (hc1 : cu' ≤ E.2.2.2.2.1) (hs1 : su' ≤ E.2.2.2.2.2) (hlt : y_lt n ls = true) (hst : y_lt n st = true) (hnn : n ≤ n') (h : Y_ k (pc + 3) ls st n' K' cu' su' E) : Y_ k pc ls (as.reverse ++ v_P q :: st) n K cu su E := by
  subst e2
  subst e3
  exact ya_call hd hm hl hR h8 hc hc1 hs1 hlt hst hnn h
theorem yb_callN {k' : mI} {idx q c' s' : Nat} {K' : yM} {as : List mV} {host : String} (hd : decode k.2.1 pc = .ok (.invokespecial idx, 3)) (hm : y_MI k' as.length) (hl : ∀ s, y_X s → va_Nw (.methodLinkNest k.1.cls idx k'.1 host) s) (hR : k'.2.2.2.2.1 + 1 ≤ k.2.2.2.2.1 ∧ 8 + (k'.2.2.1 + 11) + k'.2.2.2.2.2.1 ≤ k.2.2.2.2.2.1) (h8 : ∀ ad b, ((st.map (m_dv ad b)).map fun v => v.category).sum ≤ 8) (hc : YC k' (v_P q :: as) n K n' K' c' s') (e2 : cu + c' = cu') (e3 : su + s' = su') (hc1 : cu' ≤ E.2.2.2.2.1) (hs1 : su' ≤ E.2.2.2.2.2) (hlt : y_lt n ls = true) (hst : y_lt n st = true) (hnn : n ≤ n') (h : Y_ k (pc + 3) ls st n' K' cu' su' E) : Y_ k pc ls (as.reverse ++ v_P q :: st) n K cu su E := by
  subst e2
  subst e3
  exact ya_callN hd hm hl hR h8 hc hc1 hs1 hlt hst hnn h
theorem yb_aast {x : Int} {a q N j : Nat} (hd : decode k.2.1 pc = .ok (.aastore, 1)) (hs : m_sh a = (21, N)) (hs2 : m_sh q = (1, 8)) (ha : a < n) (hq : q < n) (hx : 0 ≤ x ∧ x < N ∧ x < 1000) (hj : x.toNat = j) (h : Y_ k (pc + 1) ls st n (y_up K a j (.inr (some q))) cu su E) : Y_ k pc ls (v_P q :: v_I x :: v_P a :: st) n K cu su E := by
  have hir : m_ir x := ⟨by omega, by omega⟩
  have e : (Int32.ofInt x).toNatClampNeg = j := by rw [m_clamp hir]; exact hj
  subst e
  exact ya_aast hd hs hs2 ha hq (m_in hir hx.1 hx.2.1) h
theorem yb_iinc {i : Nat} {d x y : Int} {ls' : List mV} (hd : decode k.2.1 pc = .ok (.iinc i d, 3)) (hl : ls[i]? = some (v_I x)) (hn : i < k.2.2.1) (hy : x + d = y) (he : ls.set i (v_I y) = ls') (h : Y_ k (pc + 3) ls' st n K cu su E) : Y_ k pc ls st n K cu su E := by
  subst hy
  exact ya_iinc hd hl hn he h
end YW
