/-! BREAK, the reference -/
theorem km_ones {M : mM} {s : Nat} (hs : s < 256) : C_ kk_X11_ones [v_I (s : Int)] M (fun r M' => M' = M ∧ r = (br_on s : Int)) := by
  refine c_intro (by decide) rfl (Nat.le_of_ble_eq_true rfl) (by simp [m_dv, Value.category]) (wp_X11_ones_0 ?_)
  have loop : ∀ (m i : Nat), i + m = 8 → q_sum (fun i => if s.testBit i = true then 1 else 0) i ≤ i → X_ kk_X11_ones 4 [v_I (s : Int), v_I (q_sum (fun i => if s.testBit i = true then 1 else 0) i : Int), v_I (i : Int)] [] M (fun r M' => M' = M ∧ r = (br_on s : Int)) := by
    intro m
    induction m with
    | zero =>
      intro i hi _
      exact wp_X11_ones_4 ⟨fun _ => ⟨rfl, by rw [show i = 8 by omega]; rfl⟩, fun y => absurd y (by omega)⟩
    | succ m ih =>
      intro i hi hle
      have e : q_sum (fun i => if s.testBit i = true then 1 else 0) (i + 1) = q_sum (fun i => if s.testBit i = true then 1 else 0) i + (if s.testBit i = true then 1 else 0) := rfl
      have nx := ih (i + 1) (by omega) (by rw [e]; split <;> omega)
      have ev : (q_sum (fun i => if s.testBit i = true then 1 else 0) i : Int) + (if s.testBit i = true then 1 else 0) = (q_sum (fun i => if s.testBit i = true then 1 else 0) (i + 1) : Nat) := by
        rw [e]
        split <;> omega
      have hle2 : q_sum (fun i => if s.testBit i = true then 1 else 0) (i + 1) ≤ i + 1 := by rw [e]; split <;> omega
      refine wp_X11_ones_4 ⟨fun y => absurd y (by omega), fun _ => ?_⟩
      rw [b_bit (by omega) (by omega), ev]
      exact ⟨⟨by omega, by omega⟩, ⟨by omega, by omega⟩, nx⟩
  exact loop 8 0 (by omega) (Nat.le_refl _)
theorem km_allWishes {σ : St} {M : mM} (hw : Wf σ) (h : MR σ M) : C_ kk_X11_allWishes [v_P 79] M (fun r M' => M' = M ∧ r = br_off σ (σ 5 0)) := by
  have hnb := hw.2.2.2.1
  refine c_intro (by decide) rfl (Nat.le_of_ble_eq_true rfl) (by simp [m_dv, Value.category]) (wp_X11_allWishes_0 ?_)
  have loop : ∀ (m b : Nat), b + m = σ 5 0 → (br_off σ b ≤ 6 * b) → X_ kk_X11_allWishes 4 [v_P 79, v_I (br_off σ b : Int), v_I (b : Int)] [] M (fun r M' => M' = M ∧ r = br_off σ (σ 5 0)) := by
    intro m
    induction m with
    | zero =>
      intro b hb _
      exact wp_X11_allWishes_4 ⟨fun _ => ⟨rfl, by rw [show b = σ 5 0 by omega]⟩, fun y => absurd y (by rw [h.2.2.1]; omega)⟩
    | succ m ih =>
      intro b hb hle
      have h9 := (hw.2.2.2.2.1 b (by omega)).2.2.2.1
      have nx := ih (b + 1) (by omega) (by rw [br_off_s]; omega)
      rw [br_off_s] at nx
      refine wp_X11_allWishes_4 ⟨fun y => absurd y (by rw [h.2.2.1]; omega), fun _ => ?_⟩
      rw [Int.toNat_natCast, (h.2.2.2.2.2.1 b (by omega)).1]
      exact ⟨by omega, ⟨by omega, by omega⟩, ⟨by omega, by omega⟩, nx⟩
  exact loop (σ 5 0) 0 (by omega) (Nat.le_refl _)
theorem km_leaveAll {σ : St} {M : mM} {s : Nat} (hw : Wf σ) (h8 : M 79 8 = σ 5 0) (h90 : ∀ b, b < σ 5 0 → M 90 b = σ 9 b) (h107 : ∀ b, b < σ 5 0 → M 107 b = σ 12 b) (hs : s < 256) (ho : br_off σ (σ 5 0) ≤ 8) : C_ kk_X11_leaveAll [v_P 79, v_I (s : Int)] M (fun r M' => (r ≠ 0 ↔ br_free σ s) ∧ (∀ b, b < σ 5 0 → M' 91 b = ((σ 12 b ||| br_pt σ s b : Nat) : Int)) ∧ (∀ i, σ 5 0 ≤ i → M' 91 i = M 91 i) ∧ ∀ p, p ≠ 91 → M' p = M p) := by
  have hnb := hw.2.2.2.1
  refine c_intro (by decide) rfl (Nat.le_of_ble_eq_true rfl) (by simp [m_dv, Value.category]) (wp_X11_leaveAll_0 ?_)
  have loop : ∀ (m b : Nat) (x3 : Int) (N : mM), b + m = σ 5 0 → (x3 = 0 ∨ x3 = 1) → (x3 ≠ 0 ↔ ∀ b', b' < b → br_pt σ s b' &&& σ 12 b' = 0) → (∀ b', b' < b → N 91 b' = ((σ 12 b' ||| br_pt σ s b' : Nat) : Int)) → (∀ i, σ 5 0 ≤ i → N 91 i = M 91 i) → (∀ p, p ≠ 91 → N p = M p) → X_ kk_X11_leaveAll 7 [v_P 79, v_I (s : Int), v_I (br_off σ b : Int), v_I x3, v_I (b : Int), v_U] [] N (fun r M' => (r ≠ 0 ↔ br_free σ s) ∧ (∀ b, b < σ 5 0 → M' 91 b = ((σ 12 b ||| br_pt σ s b : Nat) : Int)) ∧ (∀ i, σ 5 0 ≤ i → M' 91 i = M 91 i) ∧ ∀ p, p ≠ 91 → M' p = M p) := by
    intro m
    induction m with
    | zero =>
      intro b x3 N hb hx hx2 n1 n2 n3
      have eb : b = σ 5 0 := by omega
      subst eb
      exact wp_X11_leaveAll_7 ⟨fun _ => ⟨hx, hx2, n1, n2, n3⟩, fun y => absurd y (by rw [n3 79 (by decide), h8]; omega)⟩
    | succ m ih =>
      intro b x3 N hb hx hx2 n1 n2 n3
      have h9' := (hw.2.2.2.2.1 b (by omega)).2.2.2.1
      have h12 := (hw.2.2.2.2.1 b (by omega)).2.2.2.2.1
      have hd : s / 2 ^ br_off σ b ≤ s := Nat.div_le_self _ _
      have p6 : 2 ^ σ 9 b ≤ 64 := Nat.pow_le_pow_right (n := 2) (j := 6) (by decide) h9'
      have pp : 0 < 2 ^ σ 9 b := Nat.pow_pos (by decide)
      have hob : br_off σ b ≤ 8 := by
        have := br_off_mono (σ := σ) (a := b) (b := σ 5 0) (by omega)
        omega
      have hpt := br_pt_lt (σ := σ) (s := s) (b := b)
      have ept : s / 2 ^ br_off σ b % 2 ^ σ 9 b = br_pt σ s b := rfl
      refine wp_X11_leaveAll_7 ⟨fun y => absurd y (by rw [n3 79 (by decide), h8]; omega), fun _ => ?_⟩
      rw [Int.toNat_natCast, n3 90 (by decide), n3 107 (by decide), h90 b (by omega), h107 b (by omega), b_shl1 (by omega), show ((2 ^ σ 9 b : Nat) : Int) - 1 = ((2 ^ σ 9 b - 1 : Nat) : Int) by omega, b_shr (by omega) (by omega), b_and (by omega), Nat.and_two_pow_sub_one_eq_mod, ept, b_or (by omega) (by omega), b_and (by omega)]
      have ib : 0 ≤ (b : Int) ∧ (b : Int) < 6 := by omega
      have i1 : m_ir ((b : Int) + 1) := ⟨by omega, by omega⟩
      have io : m_ir ((br_off σ b : Int) + σ 9 b) := ⟨by omega, by omega⟩
      have nx : ∀ (x3' : Int) (M5 : mM), M5 = m_up N 91 b ((σ 12 b ||| br_pt σ s b : Nat) : Int) → (x3' = 0 ∨ x3' = 1) → (x3' ≠ 0 ↔ x3 ≠ 0 ∧ br_pt σ s b &&& σ 12 b = 0) → ∀ y : Int, y = σ 9 b → (0 ≤ (b : Int) ∧ (b : Int) < 6) ∧ (m_ir ((br_off σ b : Int) + y)) ∧ (m_ir ((b : Int) + 1)) ∧ X_ kk_X11_leaveAll 7 [v_P 79, v_I (s : Int), v_I ((br_off σ b : Int) + y), v_I x3', v_I ((b : Int) + 1), v_U] [] M5 (fun r M' => (r ≠ 0 ↔ br_free σ s) ∧ (∀ b, b < σ 5 0 → M' 91 b = ((σ 12 b ||| br_pt σ s b : Nat) : Int)) ∧ (∀ i, σ 5 0 ≤ i → M' 91 i = M 91 i) ∧ ∀ p, p ≠ 91 → M' p = M p) := by
        intro x3' M5 e5 y1 y2 y ey
        subst e5
        subst ey
        refine ⟨ib, io, i1, ?_⟩
        have := ih (b + 1) x3' (m_up N 91 b ((σ 12 b ||| br_pt σ s b : Nat) : Int)) (by omega) y1 ?_ (fun b' hb' => ?_) (fun i hi => by rw [up_slot (by omega)]; exact n2 i hi) (fun p hp => by rw [up_row hp]; exact n3 p hp)
        · rw [br_off_s] at this
          exact this
        · rw [y2, hx2]
          constructor
          · intro ⟨a, c⟩ b' hb'
            by_cases e : b' = b
            · subst e; exact c
            · exact a b' (by omega)
          · intro a
            exact ⟨fun b' hb' => a b' (by omega), a b (by omega)⟩
        · by_cases e : b' = b
          · subst e; exact up_hit
          · rw [up_slot e]; exact n1 b' (by omega)
      have r90 : ∀ v : Int, (m_up N 91 b v) 90 b = σ 9 b := fun v => by rw [up_row (by decide), n3 90 (by decide)]; exact h90 b (by omega)
      refine ⟨ib, ⟨by omega, by omega⟩, fun q => ⟨ib, ib, fun M5 e5 => nx 0 M5 e5 (Or.inl rfl) ⟨fun z => absurd rfl z, fun z => absurd q z.1⟩ _ (by first | rfl | (rw [e5]; exact r90 _))⟩, fun q => ⟨ib, fun q2 => ⟨ib, ib, fun M5 e5 => nx 0 M5 e5 (Or.inl rfl) ⟨fun z => absurd rfl z, fun z => absurd z.2 (by omega)⟩ _ (by first | rfl | (rw [e5]; exact r90 _))⟩, fun q2 => ⟨ib, ib, fun M5 e5 => nx 1 M5 e5 (Or.inr rfl) ⟨fun z => ⟨q, by omega⟩, fun z => by decide⟩ _ (by first | rfl | (rw [e5]; exact r90 _))⟩⟩⟩
  exact loop (σ 5 0) 0 1 M (by omega) (Or.inr rfl) ⟨fun _ b' hb' => absurd hb' (Nat.not_lt_zero b'), fun _ => by decide⟩ (fun b' hb' => absurd hb' (Nat.not_lt_zero b')) (fun _ _ => rfl) (fun _ _ => rfl)
theorem br_mr {σ : St} {M N : mM} {s : Nat} (hw : Wf σ) (h : MR σ M) (hf : ∀ p, 80 ≤ p ∧ p < 91 ∨ p = 101 ∨ p = 108 → N p = M p) (h79 : ∀ i, i ≠ 28 → N 79 i = M 79 i) (h91 : ∀ i, σ 5 0 ≤ i → N 91 i = M 91 i) (ht : ∀ b, b < σ 5 0 → N 91 b = ((σ 12 b ||| br_pt σ s b : Nat) : Int)) : MR (br_sv σ s) N := by
  obtain ⟨g1, g2, g3, g4, g5, g6, g7, g8, g9, g10, g11⟩ := h
  refine ⟨?_, fun j hj => ?_, ?_, ?_, fun b hb => ?_, fun b hb => ?_, ?_, fun i hi => ?_, fun l hl => ?_, ?_, fun d hd => ?_⟩
  · rw [h79 4 (by decide)]; exact g1
  · rw [hf 80 (by omega), hf 81 (by omega), hf 82 (by omega), hf 83 (by omega)]; exact g2 j hj
  · rw [h79 8 (by decide)]; exact g3
  · rw [h79 9 (by decide)]; exact g4
  · rw [hf 84 (by omega), hf 85 (by omega), hf 86 (by omega)]; exact g5 b hb
  · rw [hf 90 (by omega), hf 89 (by omega), hf 88 (by omega)]
    refine ⟨(g6 b hb).1, ?_, (g6 b hb).2.2⟩
    by_cases q : b < σ 5 0
    · rw [ht b q]; rfl
    · rw [h91 b (by omega), (g6 b hb).2.1]
      have := (hw.2.2.2.2.2.1 b (by omega) hb).2.2.2
      have e : br_pt σ s b = 0 := by
        unfold br_pt
        rw [this, Nat.pow_zero, Nat.mod_one]
      show _ = ((σ 12 b ||| br_pt σ s b : Nat) : Int)
      rw [e, Nat.or_zero]
  · rw [h79 11 (by decide)]; exact g7
  · rw [hf 87 (by omega)]; exact g8 i hi
  · rw [hf 101 (by omega)]; exact g9 l hl
  · rw [h79 36 (by decide)]; exact g10
  · rw [hf 108 (by omega)]; exact g11 d hd
/-- what stays while it is looked for -/
def FY (σ : St) (M N : mM) : Prop := (∀ p, p < 79 ∨ 80 ≤ p ∧ p < 91 ∨ p = 101 ∨ p = 108 → N p = M p) ∧ (∀ i, i ≠ 28 → N 79 i = M 79 i) ∧ (∀ i, σ 5 0 ≤ i → N 91 i = M 91 i) ∧ ∀ b, b < σ 5 0 → N 107 b = σ 12 b
theorem km_broken {σ : St} {M : mM} {w : Int} (hw : Wf σ) (h : MR σ M) : C_ kk_X11_broken [v_P 79, v_I w] M (PM (sp_broken σ w) M) := by
  have hnb := hw.2.2.2.1
  have hwz := nz_wf hw
  refine c_intro (by decide) rfl (Nat.le_of_ble_eq_true rfl) (by simp [m_dv, Value.category]) (wp_X11_broken_0 ⟨fun q => ⟨_, km_allWishes hw h, fun r2 M3 _ _ e3 => ?_⟩, fun q => ?_⟩)
  · obtain ⟨e3a, rfl⟩ := e3
    subst e3a
    have es : sp_broken σ w = (if 8 < br_off σ (σ 5 0) then -3 else if w = 0 then br_st (nz σ) (2 ^ br_off σ (σ 5 0)) else (br_on (br_st (nz σ) (2 ^ br_off σ (σ 5 0))).toNat : Int), σ) := by
      unfold sp_broken
      rw [if_neg (by omega)]
    rw [es]
    refine ⟨fun q2 => ?_, fun q2 => ?_⟩
    · rw [if_neg (by omega)]
      have ho : br_off σ (σ 5 0) ≤ 8 := by omega
      have hst := br_st_0 hwz
      rw [br_sz] at hst
      have e256 : 2 ^ br_off σ (σ 5 0) ≤ 256 := Nat.pow_le_pow_right (n := 2) (j := 8) (by decide) ho
      -- one set
      have tst : ∀ (s : Nat) (N : mM) (P0 P1 : mM → Prop), s < 256 → FY σ M3 N → ((¬ br_fb (nz σ) s = true) → ∀ N', FY σ M3 N' → P0 N') → (br_fb (nz σ) s = true → ∀ N', FY σ M3 N' → P1 N') → ∃ Qc1 : Int → mM → Prop, C_ kk_X11_leaveAll [v_P 79, v_I (s : Int)] N Qc1 ∧ ∀ (r2 : Int) (M3 : mM), m_ir r2 → m_okM M3 → Qc1 r2 M3 → (r2 = 0 → P0 M3) ∧ (¬ r2 = 0 → ∃ Qc9 : Int → mM → Prop, C_ kk_X11_layWorths [v_P 79] M3 Qc9 ∧ ∀ (r10 : Int) (M11 : mM), m_ir r10 → m_okM M11 → Qc9 r10 M11 → ∃ Qc16 : Int → mM → Prop, C_ kk_X11_raise [v_P 79] M11 Qc16 ∧ ∀ (r17 : Int) (M18 : mM), m_ir r17 → m_okM M18 → Qc16 r17 M18 → (¬ r17 = 0 → P0 M18) ∧ (r17 = 0 → P1 M18)) := by
        intro s N P0 P1 hs hN k0 k1
        refine ⟨_, km_leaveAll hw (by rw [hN.2.1 8 (by decide)]; exact h.2.2.1) (fun b hb => by rw [hN.1 90 (by omega)]; exact (h.2.2.2.2.2.1 b (by omega)).1) hN.2.2.2 hs ho, fun r2 M4 _ _ e4 => ?_⟩
        obtain ⟨a1, a2, a3, a4⟩ := e4
        have y4 : FY σ M3 M4 := ⟨fun p hp => by rw [a4 p (by omega)]; exact hN.1 p hp, fun i hi => by rw [a4 79 (by decide)]; exact hN.2.1 i hi, fun i hi => by rw [a3 i hi]; exact hN.2.2.1 i hi, fun b hb => by rw [a4 107 (by decide)]; exact hN.2.2.2 b hb⟩
        refine ⟨fun z => k0 (fun z2 => absurd z (a1.2 (br_fb_iff.1 z2).1)) M4 y4, fun z => ?_⟩
        have mr := br_mr (s := s) hw h (fun p hp => y4.1 p (by omega)) y4.2.1 y4.2.2.1 a2
        refine ⟨_, km_layWorths (br_wf hw) mr, fun r10 M11 _ _ e11 => ?_⟩
        obtain ⟨hW, f11⟩ := e11
        have hWz := nz_wl hW
        rw [br_nz] at hWz
        have m4 : M11 79 4 = br_sv (nz σ) s 0 0 := by rw [f11 79 (by decide)]; exact mr.1
        have m8 : M11 79 8 = br_sv (nz σ) s 5 0 := by rw [f11 79 (by decide)]; exact mr.2.2.1
        refine ⟨_, km_raise (br_wf hwz) m4 m8 hWz, fun r17 M18 _ _ e18 => ?_⟩
        obtain ⟨rfl, -, -, f18, f18b⟩ := e18
        have y18 : FY σ M3 M18 := ⟨fun p hp => by rw [f18 p (by omega) (by omega) (by omega) (by omega), f11 p (by omega)]; exact y4.1 p hp, fun i hi => by rw [f18b i hi, f11 79 (by decide)]; exact y4.2.1 i hi, fun i hi => by rw [f18 91 (by decide) (by decide) (by decide) (by decide), f11 91 (by decide)]; exact y4.2.2.1 i hi, fun b hb => by rw [f18 107 (by decide) (by decide) (by decide) (by decide), f11 107 (by decide)]; exact y4.2.2.2 b hb⟩
        exact ⟨fun z2 => k0 (fun z3 => z2 (br_fb_iff.1 z3).2) M18 y18, fun z2 => k1 (br_fb_iff.2 ⟨a1.1 z, z2⟩) M18 y18⟩
      -- the end
      have fin : ∀ (m b : Nat) (N : mM), b + m = σ 5 0 → FY σ M3 N → (∀ b', b' < b → N 91 b' = M3 91 b') → X_ kk_X11_broken 133 [v_P 79, v_I w, v_U, v_I (br_st (nz σ) (2 ^ br_off σ (σ 5 0))), v_I (b : Int), v_U] [] N (PM (if w = 0 then br_st (nz σ) (2 ^ br_off σ (σ 5 0)) else (br_on (br_st (nz σ) (2 ^ br_off σ (σ 5 0))).toNat : Int), σ) M3) := by
        intro m
        induction m with
        | zero =>
          intro b N hb hN h91
          have rows : ∀ p, (80 ≤ p ∧ p < 92 ∨ p = 101 ∨ p = 108) → N p = M3 p := fun p hp => by
            by_cases e : p = 91
            · subst e
              funext i
              by_cases e2 : i < σ 5 0
              · exact h91 i (by omega)
              · exact hN.2.2.1 i (by omega)
            · exact hN.1 p (by omega)
          have done : ∀ x : Int, PM (x, σ) M3 x N := fun x => ⟨rfl, MR_fr h rows (fun i hi => hN.2.1 i (by omega)), fun p hp => hN.1 p (by omega)⟩
          refine wp_X11_broken_133 ⟨fun _ => ⟨fun q3 => ?_, fun q3 => ?_⟩, fun y => absurd y (by rw [hN.2.1 8 (by decide), h.2.2.1]; omega)⟩
          · obtain ⟨n, hn⟩ := nat_of hst.1
            rw [hn] at hst ⊢
            refine ⟨_, km_ones (s := n) (by omega), fun r2 M4 _ _ e4 => ?_⟩
            obtain ⟨e4a, rfl⟩ := e4
            subst e4a
            rw [if_neg q3, Int.toNat_natCast]
            exact done _
          · rw [if_pos q3]
            exact done _
        | succ m ih =>
          intro b N hb hN h91
          refine wp_X11_broken_133 ⟨fun y => absurd y (by rw [hN.2.1 8 (by decide), h.2.2.1]; omega), fun _ => ⟨by omega, by omega, ⟨by omega, by omega⟩, ?_⟩⟩
          rw [Int.toNat_natCast, hN.2.2.2 b (by omega)]
          refine ih (b + 1) _ (by omega) ⟨fun p hp => by rw [up_row (by omega)]; exact hN.1 p hp, fun i hi => by rw [up_row (by decide)]; exact hN.2.1 i hi, fun i hi => by rw [up_slot (by omega)]; exact hN.2.2.1 i hi, fun b' hb' => by rw [up_row (by decide)]; exact hN.2.2.2 b' hb'⟩ (fun b' hb' => ?_)
          by_cases e : b' = b
          · subst e; rw [up_hit, (h.2.2.2.2.2.1 b' (by omega)).2.1]
          · rw [up_slot e]; exact h91 b' (by omega)
      have eshl : m_shl 1 (br_off σ (σ 5 0) : Int) = ((2 ^ br_off σ (σ 5 0) : Nat) : Int) := b_shl1 (by omega)
      have main : ∀ (j s : Nat) (N : mM), s + j = 2 ^ br_off σ (σ 5 0) → FY σ M3 N → X_ kk_X11_broken 61 [v_P 79, v_I w, v_I (br_off σ (σ 5 0) : Int), v_I (br_st (nz σ) s), v_I (s : Int), v_U] [] N (PM (if w = 0 then br_st (nz σ) (2 ^ br_off σ (σ 5 0)) else (br_on (br_st (nz σ) (2 ^ br_off σ (σ 5 0))).toNat : Int), σ) M3) := by
        intro j
        induction j with
        | zero =>
          intro s N hs hN
          refine wp_X11_broken_61 ?_
          rw [eshl]
          refine ⟨fun _ => ?_, fun y => absurd y (by omega)⟩
          rw [show s = 2 ^ br_off σ (σ 5 0) by omega]
          exact fin (σ 5 0) 0 N (by omega) hN (fun b' hb' => absurd hb' (Nat.not_lt_zero b'))
        | succ j ih =>
          intro s N hs hN
          have nx := fun N' => ih (s + 1) N' (by omega)
          have e : br_st (nz σ) (s + 1) = if br_fb (nz σ) s = true ∧ (br_st (nz σ) s < 0 ∨ br_on s < br_on (br_st (nz σ) s).toNat) then (s : Int) else br_st (nz σ) s := rfl
          have is1 : m_ir ((s : Int) + 1) := ⟨by omega, by omega⟩
          have no : (¬ (br_fb (nz σ) s = true ∧ (br_st (nz σ) s < 0 ∨ br_on s < br_on (br_st (nz σ) s).toNat))) → ∀ N', FY σ M3 N' → (m_ir ((s : Int) + 1)) ∧ X_ kk_X11_broken 61 [v_P 79, v_I w, v_I (br_off σ (σ 5 0) : Int), v_I (br_st (nz σ) s), v_I ((s : Int) + 1), v_U] [] N' (PM (if w = 0 then br_st (nz σ) (2 ^ br_off σ (σ 5 0)) else (br_on (br_st (nz σ) (2 ^ br_off σ (σ 5 0))).toNat : Int), σ) M3) := fun hc N' hN' => by
            rw [e, if_neg hc] at nx
            exact ⟨is1, nx N' hN'⟩
          have yes : (br_fb (nz σ) s = true ∧ (br_st (nz σ) s < 0 ∨ br_on s < br_on (br_st (nz σ) s).toNat)) → ∀ N', FY σ M3 N' → (m_ir ((s : Int) + 1)) ∧ X_ kk_X11_broken 61 [v_P 79, v_I w, v_I (br_off σ (σ 5 0) : Int), v_I (s : Int), v_I ((s : Int) + 1), v_U] [] N' (PM (if w = 0 then br_st (nz σ) (2 ^ br_off σ (σ 5 0)) else (br_on (br_st (nz σ) (2 ^ br_off σ (σ 5 0))).toNat : Int), σ) M3) := fun hc N' hN' => by
            rw [e, if_pos hc] at nx
            exact ⟨is1, nx N' hN'⟩
          refine wp_X11_broken_61 ?_
          rw [eshl]
          refine ⟨fun y => absurd y (by omega), fun _ => ⟨fun q3 => tst s N (fun N' => _) (fun N' => _) (by omega) hN (fun z N' hN' => no (fun z2 => z z2.1) N' hN') (fun z N' hN' => yes ⟨z, Or.inl q3⟩ N' hN'), fun q3 => ?_⟩⟩
          have hlt : 0 ≤ br_st (nz σ) s ∧ br_st (nz σ) s < 256 := by
            rcases br_st_sp (σ := nz σ) s with ⟨a, _⟩ | ⟨a, b, _⟩
            · omega
            · omega
          refine ⟨_, km_ones (s := s) (by omega), fun r26 M27 _ _ e27 => ?_⟩
          obtain ⟨e27a, rfl⟩ := e27
          subst e27a
          have hones : C_ kk_X11_ones [v_I (br_st (nz σ) s)] M27 (fun r M' => M' = M27 ∧ r = (br_on (br_st (nz σ) s).toNat : Int)) := by
            have := km_ones (M := M27) (s := (br_st (nz σ) s).toNat) (by omega)
            rw [Int.toNat_of_nonneg hlt.1] at this
            exact this
          refine ⟨_, hones, fun r33 M34 _ _ e34 => ?_⟩
          obtain ⟨e34a, rfl⟩ := e34
          subst e34a
          refine ⟨fun q4 => no (fun z => ?_) _ hN, fun q4 => tst s _ (fun N' => _) (fun N' => _) (by omega) hN (fun z N' hN' => no (fun z2 => z z2.1) N' hN') (fun z N' hN' => yes ⟨z, Or.inr (by omega)⟩ N' hN')⟩
          rcases z.2 with z2 | z2 <;> omega
      -- what is left out is kept aside
      have aside : ∀ (m b : Nat) (N : mM), b + m = σ 5 0 → (∀ p, p ≠ 107 → N p = M3 p) → (∀ b', b' < b → N 107 b' = σ 12 b') → X_ kk_X11_broken 29 [v_P 79, v_I w, v_I (br_off σ (σ 5 0) : Int), v_I (b : Int), v_U, v_U] [] N (PM (if w = 0 then br_st (nz σ) (2 ^ br_off σ (σ 5 0)) else (br_on (br_st (nz σ) (2 ^ br_off σ (σ 5 0))).toNat : Int), σ) M3) := by
        intro m
        induction m with
        | zero =>
          intro b N hb n1 n2
          refine wp_X11_broken_29 ⟨fun _ => main (2 ^ br_off σ (σ 5 0)) 0 N (by omega) ⟨fun p hp => n1 p (by omega), fun i _ => by rw [n1 79 (by decide)], fun i _ => by rw [n1 91 (by decide)], fun b' hb' => n2 b' (by omega)⟩, fun y => absurd y (by rw [n1 79 (by decide), h.2.2.1]; omega)⟩
        | succ m ih =>
          intro b N hb n1 n2
          refine wp_X11_broken_29 ⟨fun y => absurd y (by rw [n1 79 (by decide), h.2.2.1]; omega), fun _ => ⟨by omega, by omega, ⟨by omega, by omega⟩, ?_⟩⟩
          rw [Int.toNat_natCast, n1 91 (by decide), (h.2.2.2.2.2.1 b (by omega)).2.1]
          refine ih (b + 1) _ (by omega) (fun p hp => by rw [up_row hp]; exact n1 p hp) (fun b' hb' => ?_)
          by_cases e : b' = b
          · subst e; exact up_hit
          · rw [up_slot e]; exact n2 b' (by omega)
      exact aside (σ 5 0) 0 M3 (by omega) (fun _ _ => rfl) (fun b' hb' => absurd hb' (Nat.not_lt_zero b'))
    · rw [if_pos (by omega)]
      exact PM_same h
  · unfold sp_broken
    rw [if_pos (by omega)]
    exact PM_same h
