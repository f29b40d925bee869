/-! the start: the classes as the tables have them; the memory behind the constructors -/
theorem vK_start {s : State} {args : Array Value} (hts : ∀ w ∈ lw_gd, w.before args s = true) (hX : y_X s) : ∃ (D : va_G) (cI cB cA : ClassId), va_K D vwCl (m_tys cI cB cA) s := by
  obtain ⟨c0, i0, h0⟩ := u_known hts inF_X0 (hts _ (m_in2 (List.mem_of_getElem? (i := 96) rfl) rfl))
  obtain ⟨c1, i1, h1⟩ := u_known hts inF_X1 (hts _ (m_in1 (List.mem_of_getElem? (i := 32) rfl) rfl))
  obtain ⟨c2, i2, h2⟩ := u_known hts inF_X2 (hts _ (m_in2 (List.mem_of_getElem? (i := 60) rfl) rfl))
  obtain ⟨c3, i3, h3⟩ := u_known hts inF_X4 (hts _ (m_in1 (List.mem_of_getElem? (i := 172) rfl) rfl))
  obtain ⟨c4, i4, h4⟩ := u_known hts inF_X5 (hts _ (m_in1 (List.mem_of_getElem? (i := 239) rfl) rfl))
  obtain ⟨c5, i5, h5⟩ := u_known hts inF_X6 (hts _ (m_in1 (List.mem_of_getElem? (i := 25) rfl) rfl))
  obtain ⟨c6, i6, h6⟩ := u_known hts inF_X7 (hts _ (m_in2 (List.mem_of_getElem? (i := 120) rfl) rfl))
  obtain ⟨c7, i7, h7⟩ := u_known hts inF_X8 (hts _ (m_in2 (List.mem_of_getElem? (i := 26) rfl) rfl))
  obtain ⟨c8, i8, h8⟩ := u_known hts inF_X9 (hts _ (m_in1 (List.mem_of_getElem? (i := 133) rfl) rfl))
  obtain ⟨c9, i9, h9⟩ := u_known hts inF_X10 (hts _ (m_in1 (List.mem_of_getElem? (i := 17) rfl) rfl))
  obtain ⟨c10, i10, h10⟩ := u_known hts inF_X11 (hts _ (m_in4 (List.mem_of_getElem? (i := 111) rfl) rfl))
  obtain ⟨cI, kI, compI, fI, gI, eI⟩ := Cond.arrayClass_spec (hts _ (m_in1 (List.mem_of_getElem? (i := 79) rfl) rfl))
  obtain ⟨compB, cB, kB, b1, -, b3, b4, b5⟩ := Cond.arrayOver_spec hX.1
  obtain ⟨compA, cA, kA, a1, -, a3, a4, a5⟩ := arrayOver_specB hX.2.1
  refine ⟨(fun c => match c with
    | 0 => c0
    | 1 => c1
    | 2 => c2
    | 3 => c3
    | 4 => c4
    | 5 => c5
    | 6 => c6
    | 7 => c7
    | 8 => c8
    | 9 => c9
    | 10 => c10
    | _ => c0, fun c => match c with
    | 0 => i0
    | 1 => i1
    | 2 => i2
    | 3 => i3
    | 4 => i4
    | 5 => i5
    | 6 => i6
    | 7 => i7
    | 8 => i8
    | 9 => i9
    | 10 => i10
    | _ => i0), cI, cB, cA, fun c q hq => ?_, fun k q hk => ?_⟩
  · match c, hq with
    | 0, hq => cases hq; exact h0
    | 1, hq => cases hq; exact h1
    | 2, hq => cases hq; exact h2
    | 3, hq => cases hq; exact h3
    | 4, hq => cases hq; exact h4
    | 5, hq => cases hq; exact h5
    | 6, hq => cases hq; exact h6
    | 7, hq => cases hq; exact h7
    | 8, hq => cases hq; exact h8
    | 9, hq => cases hq; exact h9
    | 10, hq => cases hq; exact h10
    | c + 11, hq => cases hq
  · match k, hk with
    | 0, hk => cases hk; exact ⟨fun n z => ⟨fun k h => (by cases h), kI, gI, compI, eI⟩, fI⟩
    | 1, hk => cases hk; exact ⟨fun n z => ⟨fun k h => (by cases h), kB, b3, compB, b4⟩, kB, compB, b3, b4, b1, b5⟩
    | 2, hk => cases hk; exact ⟨fun n z => ⟨fun k h => (by cases h), kA, a3, compA, a4⟩, a5⟩
    | k + 3, hk => cases hk
/-- the memory behind the constructors -/
def m_0 (p j : Nat) : Int := if p = 1 ∧ j = 8 then 100 else if p = 79 ∧ j = 9 then 100 else if p = 30 ∧ j = 15 then 5 else if p < 26 ∧ 8 ≤ p ∧ p % 3 = 2 then (if j = 0 then 200 else if j = 1 then 10 else if j = 2 then 50 else 0) else 0
theorem m_0_ok : m_okM m_0 := by
  intro p j
  unfold m_0
  repeat' split
  all_goals exact ⟨by omega, by omega⟩
def y_chk (p j : Nat) : Bool := if m_fk (m_sh p).1 j = 2 then decide (yk_end p j = .inr (some (m_gg p j))) else if m_fk (m_sh p).1 j = 3 then decide (yk_end p j = .inr (some (m_0 p j).toNat)) else decide (yk_end p j = .inl (m_0 p j))
theorem y_chk_o : ∀ p, p < 111 → (m_sh p).1 < 20 → ∀ j, j < (m_sh p).2 → y_chk p j = true := by decide +kernel
theorem y_chk_r : ∀ p, p < 111 → (m_sh p).1 = 21 ∨ (m_sh p).1 = 22 → ∀ j, j < (m_sh p).2 → yk_end p j = .inr (some (m_gg p j)) := by decide +kernel
theorem y_chk_i : ∀ p, p < 111 → (m_sh p).1 = 20 → p ≠ 1 ∧ p ≠ 79 ∧ p ≠ 30 ∧ ¬ (p < 26 ∧ 8 ≤ p ∧ p % 3 = 2) := by decide +kernel
theorem y_chk_k : ∀ p, p < 111 → (m_sh p).1 < 20 ∨ (m_sh p).1 = 20 ∨ (m_sh p).1 = 21 ∨ (m_sh p).1 = 22 := by decide +kernel
theorem arrV_of {c : ClassId} {N : Nat} {f g : Nat → Value} (h : ∀ j, j < N → f j = g j) : arrV c N f = arrV c N g := by
  unfold arrV
  congr 1
  congr 1
  funext j
  exact h j.val j.isLt
theorem y_bridge_at {D : va_G} {cI cB cA : ClassId} {ad : Nat → Nat} {H : Heap} {p : Nat} (hp : p < 111) (hok : y_ok 111 yk_end) (h : va_at D vwCl (ad p, y_cell cI cB cA ad yk_end p) H) : va_at D vwCl (ad p, m_cell cI cB cA ad m_0 p) H := by
  obtain ⟨ci, N, hs⟩ : ∃ ci N, m_sh p = (ci, N) := ⟨_, _, rfl⟩
  have hkd := y_chk_k p hp
  rw [hs] at hkd
  rcases hkd with q | q | q | q
  · have q' : ci < 20 := q
    rw [y_cell_o hs q'] at h
    rw [m_cell_o hs q']
    have e : (List.range N).map (fun j => y_val ad (yk_end p j)) = (List.range N).map (m_fv ad m_0 p ci) := by
      refine List.map_congr_left (fun j hj => ?_)
      have hj' := List.mem_range.mp hj
      have hc := y_chk_o p hp (by rw [hs]; exact q') j (by rw [hs]; exact hj')
      unfold y_chk at hc
      rw [hs] at hc
      unfold m_fv
      split at hc
      · rename_i z
        rw [if_pos z, of_decide_eq_true hc]
        rfl
      · rename_i z
        rw [if_neg z]
        split at hc
        · rename_i z2
          rw [if_pos z2, of_decide_eq_true hc]
          rfl
        · rename_i z2
          rw [if_neg z2, of_decide_eq_true hc]
          rfl
    rw [e] at h
    exact h
  · have q' : ci = 20 := q
    subst q'
    rw [y_cell_i hs] at h
    rw [m_cell_i hs]
    obtain ⟨z1, z2, z3, z4⟩ := y_chk_i p hp (by rw [hs])
    have e : (fun j => Int32.ofInt (y_int (yk_end p j))) = fun j => Int32.ofInt (m_0 p j) := funext fun j => by
      rw [hok.2.2 p j (by rw [hs])]
      unfold m_0
      rw [if_neg (fun z => z1 z.1), if_neg (fun z => z2 z.1), if_neg (fun z => z3 z.1), if_neg z4]
      rfl
    rw [e] at h
    exact h
  · have q' : ci = 21 := q
    subst q'
    rw [y_cell_b hs] at h
    rw [m_cell_b hs]
    have h' : H[ad p]? = some (vp_cell cB (N, .inr (.inr (.inr (.inr (fun j => (y_ref (yk_end p j)).map ad)))))) := h
    show H[ad p]? = some (vp_cell cB (N, .inr (.inr (.inr (.inr (fun j => some (ad (m_gg p j))))))))
    rw [h', vp_cell_q, vp_cell_q]
    congr 1
    refine arrV_of (fun j hj => ?_)
    rw [y_chk_r p hp (Or.inl (by rw [hs])) j (by rw [hs]; exact hj)]
    rfl
  · have q' : ci = 22 := q
    subst q'
    rw [y_cell_a hs] at h
    rw [m_cell_a hs]
    have h' : H[ad p]? = some (vp_cell cA (N, .inr (.inr (.inr (.inr (fun j => (y_ref (yk_end p j)).map ad)))))) := h
    show H[ad p]? = some (vp_cell cA (N, .inr (.inr (.inr (.inr (fun j => some (ad (m_gg p j))))))))
    rw [h', vp_cell_q, vp_cell_q]
    congr 1
    refine arrV_of (fun j hj => ?_)
    rw [y_chk_r p hp (Or.inr (by rw [hs])) j (by rw [hs]; exact hj)]
    rfl
theorem y_bridge {D : va_G} {cI cB cA : ClassId} {ad : Nat → Nat} {A : Nat → Prop} {s : State} {H : Heap} {locs : List Loc} (h : y_Wd D cI cB cA ad A s H locs 111 yk_end) : m_Wd D cI cB cA ad A s H locs m_0 := by
  obtain ⟨hK, hP, hD, hS, hok⟩ := h
  have len : ∀ (i : Nat) (q : Nat × va_E), (m_ws cI cB cA ad m_0)[i]? = some q → i < 111 ∧ q = (ad i, m_cell cI cB cA ad m_0 i) := fun i q hq => by
    have hi : i < 111 := by
      have := (List.getElem?_eq_some_iff.mp hq).1
      simpa [m_ws] using this
    rw [m_ws_at hi] at hq
    exact ⟨hi, (Option.some.inj hq).symm⟩
  refine ⟨hK, fun k q hq => ?_, ⟨fun i j x y hx hy hxy => ?_, fun k q hq => ?_⟩, hS⟩
  · obtain ⟨hk, rfl⟩ := len k q hq
    exact y_bridge_at hk hok (hP k _ (y_at hk))
  · obtain ⟨hi, rfl⟩ := len i x hx
    obtain ⟨hj, rfl⟩ := len j y hy
    exact hD.1 i j _ _ (y_at hi) (y_at hj) hxy
  · obtain ⟨hk, rfl⟩ := len k q hq
    exact hD.2 k (ad k, y_cell cI cB cA ad yk_end k) (y_at hk)
/-- the state of a new object -/
def s_0 : St := fun f _ => if f = 13 then 100 else if f = 6 then 200 else if f = 7 then 10 else if f = 8 then 50 else 0
theorem s_0_wf : Wf s_0 := ⟨by decide, fun j hj => absurd hj (Nat.not_lt_zero j), fun i j hi => absurd hi (Nat.not_lt_zero i), by decide, fun b _ => ⟨show (200 : Nat) ≤ 1000 by decide, show (10 : Nat) ≤ 99 by decide, show (50 : Nat) ≤ 99 by decide, show (0 : Nat) ≤ 6 by decide, show (0 : Nat) < 2 ^ 0 by decide, fun i hi => absurd hi (Nat.not_lt_zero i)⟩, fun b _ _ => ⟨rfl, rfl, rfl, rfl⟩, ⟨show (1 : Nat) ≤ 100 by decide, show (100 : Nat) ≤ 200 by decide⟩, fun l _ => Nat.zero_le _, by decide, fun d hd => absurd hd (Nat.not_lt_zero d), by decide, fun i hi => absurd hi (Nat.not_lt_zero i)⟩
theorem s_0_wf2 : Wf2 s_0 := fun b i _ hi => absurd hi (Nat.not_lt_zero i)
theorem IN_0 : IN m_0 := by
  have o0 : m_or 0 0 = 0 := by decide
  refine ⟨s_0, s_0_wf, s_0_wf2, ⟨⟨rfl, fun j hj => absurd hj (Nat.not_lt_zero j)⟩, ⟨rfl, rfl, fun b hb => ?_⟩, fun j hj => absurd hj (Nat.not_lt_zero j), fun b hb => ?_, ⟨rfl, fun i hi => absurd hi (Nat.not_lt_zero i)⟩, fun l _ => rfl, rfl, fun d hd => absurd hd (Nat.not_lt_zero d)⟩, ⟨rfl, fun j hj => absurd hj (Nat.not_lt_zero j), rfl, rfl, fun b hb => absurd hb (Nat.not_lt_zero b), fun b _ => ⟨rfl, rfl, fun i hi => absurd hi (Nat.not_lt_zero i)⟩, rfl, fun i hi => absurd hi (Nat.not_lt_zero i), fun l _ => rfl, rfl, fun d hd => absurd hd (Nat.not_lt_zero d)⟩, fun z => absurd rfl z, fun z => absurd rfl z⟩
  · rcases (show b = 0 ∨ b = 1 ∨ b = 2 ∨ b = 3 ∨ b = 4 ∨ b = 5 by omega) with rfl | rfl | rfl | rfl | rfl | rfl <;> exact ⟨rfl, rfl, rfl, rfl, o0, fun i hi => absurd hi (Nat.not_lt_zero i)⟩
  · rcases (show b = 0 ∨ b = 1 ∨ b = 2 ∨ b = 3 ∨ b = 4 ∨ b = 5 by omega) with rfl | rfl | rfl | rfl | rfl | rfl <;> exact ⟨rfl, rfl⟩
