/-! rules with the new locals, the place that a reference slot holds, spelled out -/
section MQ2
variable {k : mI} {pc : Nat} {ls ls' st : List mV} {M : mM} {Q : Int → mM → Prop}
theorem y_istore_n {n : Fin 4} {i : Nat} {x : Int} (hd : decode k.2.1 pc = .ok (.istore_n n, 1)) (hi : (n : Nat) = i) (hn : i < k.2.2.1) (he : ls.set i (v_I x) = ls') (h : X_ k (pc + 1) ls' st M Q) : X_ k pc ls (v_I x :: st) M Q := x_istore_n hd hi hn (he ▸ h)
theorem y_istore {i : Nat} {x : Int} (hd : decode k.2.1 pc = .ok (.istore i, 2)) (hn : i < k.2.2.1) (he : ls.set i (v_I x) = ls') (h : X_ k (pc + 2) ls' st M Q) : X_ k pc ls (v_I x :: st) M Q := x_istore hd hn (he ▸ h)
theorem y_astore_n {n : Fin 4} {i : Nat} {x : Nat} (hd : decode k.2.1 pc = .ok (.astore_n n, 1)) (hi : (n : Nat) = i) (hn : i < k.2.2.1) (he : ls.set i (v_P x) = ls') (h : X_ k (pc + 1) ls' st M Q) : X_ k pc ls (v_P x :: st) M Q := x_astore_n hd hi hn (he ▸ h)
theorem y_astore {i : Nat} {x : Nat} (hd : decode k.2.1 pc = .ok (.astore i, 2)) (hn : i < k.2.2.1) (he : ls.set i (v_P x) = ls') (h : X_ k (pc + 2) ls' st M Q) : X_ k pc ls (v_P x :: st) M Q := x_astore hd hn (he ▸ h)
theorem y_iinc {i : Nat} {n : Int} {x : Int} (hd : decode k.2.1 pc = .ok (.iinc i n, 3)) (hl : ls[i]? = some (v_I x)) (hr : m_ir (x + n)) (hn : i < k.2.2.1) (he : ls.set i (v_I (x + n)) = ls') (h : X_ k (pc + 3) ls' st M Q) : X_ k pc ls st M Q := x_iinc hd hl hr hn (he ▸ h)
theorem y_forget (i : Nat) (he : ls.set i v_U = ls') (h : X_ k pc ls' st M Q) : X_ k pc ls st M Q := x_forget i (he ▸ h)
theorem y_getP {idx q q2 ci n j : Nat} {C : String} {T : u_T} {ty0 : Nat → FieldType} (hd : decode k.2.1 pc = .ok (.getfield idx, 3)) (hs : m_sh q = (ci, n)) (hcf : m_cls ci n C T ty0) (hf : m_fl k.1.cls idx T j) (hj : j < n) (hk : m_fk ci j = 2) (hg : m_gg q j = q2) (h : X_ k (pc + 3) ls (v_P q2 :: st) M Q) : X_ k pc ls (v_P q :: st) M Q := by
  subst hg
  exact x_getP hd hs hcf hf hj hk h
theorem y_getI {v : Int} {idx q ci n j : Nat} {C : String} {T : u_T} {ty0 : Nat → FieldType} (hd : decode k.2.1 pc = .ok (.getfield idx, 3)) (hs : m_sh q = (ci, n)) (hcf : m_cls ci n C T ty0) (hf : m_fl k.1.cls idx T j) (hj : j < n) (hk : m_fk ci j ≤ 1) (hv : M q j = v) (h : X_ k (pc + 3) ls (v_I v :: st) M Q) : X_ k pc ls (v_P q :: st) M Q := by
  subst hv
  exact x_getI hd hs hcf hf hj hk h
theorem y_iald {v i : Int} {q n : Nat} (hd : decode k.2.1 pc = .ok (.iaload, 1)) (hs : m_sh q = (20, n)) (hi : 0 ≤ i ∧ i < n) (hv : M q i.toNat = v) (h : X_ k (pc + 1) ls (v_I v :: st) M Q) : X_ k pc ls (v_I i :: v_P q :: st) M Q := by
  subst hv
  exact x_iald hd hs hi h
theorem y_aaldB {i : Int} (hd : decode k.2.1 pc = .ok (.aaload, 1)) (hi : 0 ≤ i ∧ i < 6) (h : X_ k (pc + 1) ls (v_P (8 + 3 * i.toNat) :: st) M Q) : X_ k pc ls (v_I i :: v_P 7 :: st) M Q := x_aaldB hd sh_7 hi h
theorem y_aaldR {i : Int} (hd : decode k.2.1 pc = .ok (.aaload, 1)) (hi : 0 ≤ i ∧ i < 3) (h : X_ k (pc + 1) ls (v_P (45 + i.toNat) :: st) M Q) : X_ k pc ls (v_I i :: v_P 44 :: st) M Q := x_aaldA hd sh_44 hi h
theorem y_aaldD {i : Int} (hd : decode k.2.1 pc = .ok (.aaload, 1)) (hi : 0 ≤ i ∧ i < 7) (h : X_ k (pc + 1) ls (v_P (53 + i.toNat) :: st) M Q) : X_ k pc ls (v_I i :: v_P 52 :: st) M Q := x_aaldA hd sh_52 hi h
end MQ2
theorem sh_reach {j : Nat} (h : j < 3) : m_sh (45 + j) = (20, 6) := by
  rcases (show j = 0 ∨ j = 1 ∨ j = 2 by omega) with rfl | rfl | rfl <;> rfl
theorem sh_best {j : Nat} (h : j < 7) : m_sh (53 + j) = (20, 108) := by
  rcases (show j = 0 ∨ j = 1 ∨ j = 2 ∨ j = 3 ∨ j = 4 ∨ j = 5 ∨ j = 6 by omega) with rfl | rfl | rfl | rfl | rfl | rfl | rfl <;> rfl
/-- a BUYER's place, a place of PRICES -/
def m_isB (q : Nat) : Prop := m_sh q = (1, 8) ∧ m_gg q 4 = q + 1 ∧ m_gg q 5 = q + 2 ∧ m_sh (q + 1) = (20, 6) ∧ m_sh (q + 2) = (20, 6)
theorem isB_at {j : Nat} (h : j < 6) : m_isB (8 + 3 * j) := by
  rcases (show j = 0 ∨ j = 1 ∨ j = 2 ∨ j = 3 ∨ j = 4 ∨ j = 5 by omega) with rfl | rfl | rfl | rfl | rfl | rfl <;> exact ⟨rfl, rfl, rfl, rfl, rfl⟩
def m_isP (q : Nat) : Prop := m_sh q = (7, 7) ∧ m_gg q 0 = 1 ∧ m_gg q 1 = q + 1 ∧ m_gg q 2 = q + 2 ∧ m_gg q 3 = q + 3 ∧ m_gg q 6 = q + 4 ∧ m_sh (q + 1) = (20, 8) ∧ m_sh (q + 2) = (20, 6) ∧ m_sh (q + 3) = (20, 6) ∧ m_sh (q + 4) = (20, 8)
theorem isP_60 : m_isP 60 := ⟨rfl, rfl, rfl, rfl, rfl, rfl, rfl, rfl, rfl, rfl⟩
theorem isP_65 : m_isP 65 := ⟨rfl, rfl, rfl, rfl, rfl, rfl, rfl, rfl, rfl, rfl⟩
theorem isB_rng {q : Nat} (h : m_isB q) : 8 ≤ q ∧ q ≤ 23 := by
  have h1 := h.1
  have hq := m_shlt h1 (by decide)
  have e : ∀ p : Fin 111, (m_sh p.val).1 = 1 → 8 ≤ p.val ∧ p.val ≤ 23 := by decide
  exact e ⟨q, hq⟩ (by rw [h1])
theorem isP_rng {q : Nat} (h : m_isP q) : 60 ≤ q ∧ q ≤ 65 := by
  have h1 := h.1
  have hq := m_shlt h1 (by decide)
  have e : ∀ p : Fin 111, (m_sh p.val).1 = 7 → 60 ≤ p.val ∧ p.val ≤ 65 := by decide
  exact e ⟨q, hq⟩ (by rw [h1])
