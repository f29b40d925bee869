/-! the smallest methods, as rules -/
def m_cp (M : mM) (qa sp qb dp n : Nat) : mM := fun a b => if a = qb ∧ dp ≤ b ∧ b < dp + n then M qa (sp + (b - dp)) else M a b
theorem m_okM_cp {M : mM} {qa sp qb dp n : Nat} (h : m_okM M) : m_okM (m_cp M qa sp qb dp n) := by
  intro a b
  unfold m_cp
  split
  · exact h _ _
  · exact h _ _
theorem m_okadd {x y : Int} (h : m_ir x) (h2 : m_ir y) (h0 : 0 ≤ x) (h20 : 0 ≤ y) : (Int32.ofInt x).toNatClampNeg + (Int32.ofInt y).toNatClampNeg = x.toNat + y.toNat := by rw [m_clamp h, m_clamp h2]
theorem w_nat : Cond.native arraycopyName ∈ lw_gd := m_in3 (List.mem_of_getElem? (i := 29) rfl) rfl
theorem w_sta : Cond.static arraycopyName ∈ lw_gd := m_in3 (List.mem_of_getElem? (i := 28) rfl) rfl
theorem w_ini : Cond.initialized "java/lang/System" ∈ lw_gd := m_in1 (List.mem_of_getElem? (i := 13) rfl) rfl
section MP
variable {k : mI} {pc : Nat} {ls st : List mV} {M : mM} {Q : Int → mM → Prop}
theorem x_copy {idx qa qb na nb : Nat} {sp dp n : Int} (hd : decode k.2.1 pc = .ok (.invokestatic idx, 3)) (hl : Cond.methodLink k.1.cls idx arraycopyName ∈ lw_gd) (hfr : 1 ≤ k.2.2.2.2.1) (hlo : 60 ≤ k.2.2.2.2.2.1) (ha : m_sh qa = (20, na)) (hb : m_sh qb = (20, nb)) (hi : (0 ≤ sp ∧ 0 ≤ dp ∧ 0 ≤ n) ∧ sp + n ≤ na ∧ dp + n ≤ nb)
    (h : X_ k (pc + 3) ls [] (m_cp M qa sp.toNat qb dp.toNat n.toNat) Q) : X_ k pc ls [v_I n, v_I dp, v_P qb, v_I sp, v_P qa] M Q := by
  intro p l e R s m args below meth c cells slots Qw D cI cB cA ad A b H locs lr hC hSc hls hst hM hW hL hret
  have i1 : m_ir n := m_oks_head hst
  have i2 : m_ir dp := m_oks_head (m_oks_tail hst)
  have i3 : m_ir sp := m_oks_head (m_oks_tail (m_oks_tail (m_oks_tail hst)))
  have nn : ∀ {z : Int}, m_ir z → 0 ≤ z → ¬ Int32.ofInt z < 0 := fun hz h0 q => by
    rw [m_zero] at q
    have := (m_lt hz m_ir0).mp q
    omega
  refine va_copyi (a0 := ad qa) (a := ad qb) (ty := .int) hC.1 hC.2.1 (hC.2.2.1.trans hL.1.symm) hC.2.2.2.1 (hC.2.2.2.2.1 _ hl) (hC.2.2.2.2.1 _ w_nat) (hC.2.2.2.2.1 _ w_sta) (hC.2.2.2.2.1 _ w_ini) hW.1 hW.2.1 hW.2.2.1 hW.2.2.2 qa qb 0 0 (m_at_i ha) (m_at_i hb) rfl rfl rfl (nn i3 hi.1.1) (nn i2 hi.1.2.1) (nn i1 hi.1.2.2) (by rw [m_clamp i3, m_clamp i1]; omega) (by rw [m_clamp i2, m_clamp i1]; omega) (fun _ _ => rfl) (Nat.le_trans hfr hC.2.2.2.2.2.2.2.1) (Nat.le_trans (Nat.le_trans (Nat.le_of_ble_eq_true rfl) hlo) hC.2.2.2.2.2.2.2.2.1) hd (fun H1 locs1 hP1 hD1 hS1 => ?_)
  rw [m_clamp i1, m_clamp i2, m_clamp i3] at hP1 hD1
  have e3 := m_ws_up (cI := cI) (cB := cB) (cA := cA) (ad := ad) (M := M) (M' := m_cp M qa sp.toNat qb dp.toNat n.toNat) (x := .inl (cI, nb, .inl (va_cpy (fun j => Int32.ofInt (M qa j)) (fun j => Int32.ofInt (M qb j)) sp.toNat dp.toNat n.toNat))) (m_shlt hb (by omega)) (by
    rw [m_cell_i hb]
    congr 4
    funext j
    unfold va_cpy m_cp
    by_cases hj : dp.toNat ≤ j ∧ j < dp.toNat + n.toNat
    · rw [if_pos hj, if_pos ⟨rfl, hj⟩]
    · rw [if_neg hj, if_neg (fun q => hj q.2)]) (fun a ha i => by unfold m_cp; rw [if_neg (fun q => ha q.1)])
  rw [e3] at hP1 hD1
  exact h p l e R s m args below meth c cells slots Qw D cI cB cA ad A b H1 locs1 lr hC hSc hls m_oks_nil (m_okM_cp hM) ⟨hW.1, hP1, hD1, hS1⟩ hL hret
/-- a local that is not needed any more -/
theorem x_forget (i : Nat) (h : X_ k pc (ls.set i v_U) st M Q) : X_ k pc ls st M Q := by
  intro p l e R s m args below meth c cells slots Qw D cI cB cA ad A b H locs lr hC hSc hls hst hM hW hL hret
  refine h p l e R s m args below meth c cells slots Qw D cI cB cA ad A b H locs lr hC hSc (m_oks_set hls trivial) hst hM hW ⟨hL.1, hL.2.1, by rw [List.length_set]; exact hL.2.2.1, fun j v hj hv => ?_⟩ hret
  rw [List.getElem?_set] at hj
  by_cases e1 : i = j
  · subst e1
    rw [if_pos rfl] at hj
    split at hj
    · cases hj
      exact absurd rfl hv
    · cases hj
  · rw [if_neg e1] at hj
    exact hL.2.2.2 j v hj hv
end MP
theorem m_cmp {x y : Int} (hx : m_ir x) (hy : m_ir y) : lg_cmp (Int32.ofInt x).toInt64 (Int32.ofInt y).toInt64 = if y < x then 1 else if x = y then 0 else -1 := by
  unfold lg_cmp
  have e : ∀ {z : Int}, m_ir z → ((Int32.ofInt z).toInt64).toInt = z := fun hz => by rw [Int32.toInt_toInt64, m_toInt hz]
  simp only [gt_iff_lt, Int64.lt_iff_toInt_lt, ← Int64.toInt_inj, e hx, e hy]
theorem c_in {M : mM} {v lo hi : Int} : C_ kk_X11_in [v_L v, v_L lo, v_L hi] M (fun r M' => M' = M ∧ r = if lo ≤ v ∧ v ≤ hi then 1 else 0) := by
  intro hok hM l D cI cB cA ad b sz
  have i1 : m_ir v := m_oks_head hok
  have i2 : m_ir lo := m_oks_head (m_oks_tail hok)
  have i3 : m_ir hi := m_oks_head (m_oks_tail (m_oks_tail hok))
  refine Met.ofW (cc := cX11_in) (maxL := 6) (ret := some .boolean) (by decide) rfl ?_
  intro p e s m args below meth c s₁ B hml hv
  obtain ⟨rfl, hsz, hP, hK, hD0⟩ := hv
  have hx := B.exec
  have hb := B.bytes
  have hr := B.returns
  have hlocks := B.notSynchronized
  subst hsz
  have hl := lv_entry ([v_L v, v_L lo, v_L hi].map (m_dv ad b)) (n := 6) (Nat.le_of_ble_eq_true rfl)
  rw [lg_entry_eq]
  generalize (lg_sl ([v_L v, v_L lo, v_L hi].map (m_dv ad b)) ++ List.replicate (6 - (lg_sl ([v_L v, v_L lo, v_L hi].map (m_dv ad b))).length) Slot.unset).toArray = lr at hl ⊢
  have hl : lv_has lr 6 [(0, .long (Int32.ofInt v).toInt64), (2, .long (Int32.ofInt lo).toInt64), (4, .long (Int32.ofInt hi).toInt64)] := hl
  have hend : ∀ z : Int, (z = 0 ∨ z = 1) → (z = if lo ≤ v ∧ v ≤ hi then 1 else 0) → W p l e (headSpec (m_ws0 kk_X11_in) (m_rm kk_X11_in)).room s m ([v_L v, v_L lo, v_L hi].map (m_dv ad b)).toArray below meth c s.heap [] 0 0 (MQ below (m_Qc (some .boolean) (fun r M' => M' = M ∧ r = if lo ≤ v ∧ v ≤ hi then 1 else 0) (fun M' t => va_P D vwCl (m_ws cI cB cA ad M') t.heap ∧ va_K D vwCl (m_tys cI cB cA) t ∧ va_D (va_A (m_ws cI cB cA ad M) s.heap.size) (m_ws cI cB cA ad M')) (va_A (m_ws cI cB cA ad M) s.heap.size)) ([v_L v, v_L lo, v_L hi].map (m_dv ad b)).toArray s 0 0 (va_A (m_ws cI cB cA ad M) s.heap.size)) (F0 m 18 lr [.int (Int32.ofInt z)]) := by
    intro z hz01 hz
    have hS : va_S (va_A (m_ws cI cB cA ad M) s.heap.size) s.heap s.heap [] := va_S.rf
    exact W.zret hx hb hr (by rcases hz01 with rfl | rfl <;> rfl) (fun t ht hWm => ⟨⟨Int32.ofInt z, M, rfl, ⟨z, rfl, by rcases hz01 with rfl | rfl <;> exact ⟨by omega, by omega⟩, hM, rfl, hz⟩, by rw [ht]; exact hP, va_K.moved hWm.alike hK, hD0.self⟩, hS.F ht⟩) (fun q hq => by cases hq) dX11_in_18
  refine lv_lload_n hx hb dX11_in_0 rfl (lv_at hl 0 rfl) ?_
  refine lv_lload_n hx hb dX11_in_1 rfl (lv_at hl 1 rfl) ?_
  refine W.lcmp hx hb dX11_in_2 ?_
  refine lv_if_lt (tgt := 17) hx hb dX11_in_3 (by decide) (fun q => ?_) (fun q => ?_)
  · refine lv_iconst (v := 0) hx hb dX11_in_17 (by decide) ?_
    refine hend 0 (Or.inl rfl) ?_
    rw [if_neg]
    intro z
    rw [m_cmp i1 i2] at q
    split at q
    · exact absurd q (by decide)
    · split at q
      · exact absurd q (by decide)
      · omega
  · refine lv_lload_n hx hb dX11_in_6 rfl (lv_at hl 0 rfl) ?_
    refine lv_lload hx hb dX11_in_7 (lv_at hl 2 rfl) ?_
    refine W.lcmp hx hb dX11_in_9 ?_
    refine lv_if_gt (tgt := 17) hx hb dX11_in_10 (by decide) (fun q2 => ?_) (fun q2 => ?_)
    · refine lv_iconst (v := 0) hx hb dX11_in_17 (by decide) ?_
      refine hend 0 (Or.inl rfl) ?_
      rw [if_neg]
      intro z
      rw [m_cmp i1 i3] at q2
      split at q2
      · omega
      · split at q2
        · exact absurd q2 (by decide)
        · exact absurd q2 (by decide)
    · refine lv_iconst (v := 1) hx hb dX11_in_13 (by decide) ?_
      refine lv_goto (tgt := 18) hx hb dX11_in_14 (by decide) ?_
      refine hend 1 (Or.inr rfl) ?_
      rw [if_pos]
      rw [m_cmp i1 i2] at q
      rw [m_cmp i1 i3] at q2
      split at q
      · split at q2
        · exact absurd (by decide) q2
        · omega
      · split at q
        · split at q2
          · exact absurd (by decide) q2
          · omega
        · exact absurd (by decide) q
