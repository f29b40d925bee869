/-! fault, wish: the class -/
theorem kc_firstWrong {σ : St} {M : mM} (hw : Wf σ) (h : HS σ M) : C_ kk_X9_firstWrong [v_P 26] M (fun r M' => Fr9 M M' ∧ r = n_fault σ ∧ (r = -6 → ∃ s, p_run σ (σ 17 0) = some s ∧ SR s (p_num σ (σ 17 0)) (p_wan σ (σ 17 0)) M')) := by
  obtain ⟨h1, h2⟩ := h
  have hn := hw.2.2.2.2.2.2.2.2.2.2.1
  have hcode := hw.2.2.2.2.2.2.2.2.2.2.2
  refine c_intro (by decide) rfl (Nat.le_of_ble_eq_true rfl) (by simp [m_dv, Value.category]) (wp_X9_firstWrong_0 ⟨_, kc_begin (a := 0) (by decide), fun r2 M3 _ _ e3 => ?_⟩)
  obtain ⟨b1, b2, b3, b4, b5, b6, b7, b8⟩ := e3
  have loop : ∀ m i s M', i + m = σ 17 0 → p_run σ i = some s → SR s (p_num σ i) (p_wan σ i) M' → Fr9 M M' → X_ kk_X9_firstWrong 7 [v_P 26, v_I (i : Int)] [] M' (fun r M' => Fr9 M M' ∧ r = n_fl σ m i ∧ (r = -6 → ∃ s, p_run σ (σ 17 0) = some s ∧ SR s (p_num σ (σ 17 0)) (p_wan σ (σ 17 0)) M')) := by
    intro m
    induction m with
    | zero =>
      intro i s M' hi hr hs hf
      have ei : i = σ 17 0 := by omega
      have e1 : M' 26 1 = σ 17 0 := hf.2.trans h1
      refine wp_X9_firstWrong_7 ⟨fun _ => ?_, fun q => absurd q (by rw [e1]; omega)⟩
      rw [hs.2.1, e1]
      refine ⟨fun q => ⟨hf, ?_, fun z => by omega⟩, fun q => ⟨hf, ?_, fun _ => ⟨s, by rw [← ei]; exact hr, by rw [← ei]; exact hs⟩⟩⟩
      · unfold n_fl
        rw [hr]
        dsimp only
        rw [if_neg (by omega), ei]
      · unfold n_fl
        rw [hr]
        dsimp only
        rw [if_pos (by omega)]
    | succ m ih =>
      intro i s M' hi hr hs hf
      have e1 : M' 26 1 = σ 17 0 := hf.2.trans h1
      have e27 : M' 27 i = σ 18 i := by rw [hf.1 27 (by decide) (by decide) (by decide)]; exact h2 i (by omega)
      have hok := p_run_ok hr
      refine wp_X9_firstWrong_7 ⟨fun q => absurd q (by rw [e1]; omega), fun _ => ⟨by omega, ?_⟩⟩
      rw [Int.toNat_natCast, e27]
      refine ⟨_, kc_takes (hcode i (by omega)).2 hok.1 hok.2 hs, fun r3 M4 _ _ e4 => ?_⟩
      obtain ⟨-, f4, ⟨p1, rfl⟩ | ⟨s', p1, rfl, p2⟩⟩ := e4
      · refine ⟨fun q => absurd rfl q, fun _ => ⟨Fr9_trans hf f4, ?_, fun z => by omega⟩⟩
        unfold n_fl
        rw [p_run_s hr, p1]
      · refine ⟨fun _ => ⟨⟨by omega, by omega⟩, ?_⟩, fun q => absurd q (by decide)⟩
        have hr' : p_run σ (i + 1) = some s' := by rw [p_run_s hr, p1]
        have nx := ih (i + 1) s' M4 (by omega) hr' (by rw [p_num_s hr, p_wan_s hr]; exact p2) (Fr9_trans hf f4)
        have e : n_fl σ (m + 1) i = n_fl σ m (i + 1) := by
          rw [n_fl, hr']
        rw [e]
        exact nx
  have st : SR (0, 0, 0, 0, 0) (p_num σ 0) (p_wan σ 0) M3 := by
    refine ⟨b1, b2, fun z => by dsimp only at z; omega, b3, b4, fun a ha => ?_⟩
    dsimp only at ha
    rw [show a = 0 by omega, b5, b6]
    exact ⟨rfl, rfl⟩
  exact loop (σ 17 0) 0 _ M3 (by omega) rfl st b8
theorem CR_fr9 {σ : St} {M M' : mM} (h : CR σ M) (f : Fr9 M M') : CR σ M' := by
  obtain ⟨f1, f2⟩ := f
  obtain ⟨⟨g1, g2⟩, ⟨g3, g4, g5⟩, g6, g7, ⟨g8, g9⟩, g10, ⟨g11, g12⟩⟩ := h
  refine ⟨⟨?_, fun j hj => ?_⟩, ⟨?_, ?_, fun b hb => ?_⟩, fun j hj => ?_, fun b hb => ?_, ⟨?_, fun i hi => ?_⟩, fun l hl => ?_, ⟨?_, fun d hd => ?_⟩⟩
  · rw [f1 1 (by decide) (by decide) (by decide)]; exact g1
  · rw [f1 2 (by decide) (by decide) (by decide), f1 3 (by decide) (by decide) (by decide), f1 4 (by decide) (by decide) (by decide), f1 6 (by decide) (by decide) (by decide)]; exact g2 j hj
  · rw [f1 1 (by decide) (by decide) (by decide)]; exact g3
  · rw [f1 1 (by decide) (by decide) (by decide)]; exact g4
  · unfold HB1
    rw [f1 (8 + 3 * b) (by omega) (by omega) (by omega), f1 (8 + 3 * b + 1) (by omega) (by omega) (by omega), f1 (8 + 3 * b + 2) (by omega) (by omega) (by omega)]; exact g5 b hb
  · rw [f1 5 (by decide) (by decide) (by decide)]; exact g6 j hj
  · rw [f1 (8 + 3 * b) (by omega) (by omega) (by omega)]; exact g7 b hb
  · rw [f2]; exact g8
  · rw [f1 27 (by decide) (by decide) (by decide)]; exact g9 i hi
  · rw [f1 61 (by decide) (by decide) (by decide)]; exact g10 l hl
  · rw [f1 75 (by decide) (by decide) (by decide)]; exact g11
  · rw [f1 76 (by decide) (by decide) (by decide)]; exact g12 d hd
theorem Fr9_C {M M' : mM} (f : Fr9 M M') : FrC M M' := fun p hp => f.1 p (by omega) (by omega) (by omega)
theorem Fr9_K {M M' : mM} (f : Fr9 M M') : FrK M M' := Or.inr fun p h1 h2 => f.1 p (by omega) (by omega) (by omega)
def sp_fault (σ : St) : Int × St := (n_fault σ, σ)
theorem kc_fault {σ : St} {M : mM} (hw : Wf σ) (h : CR σ M) : C_ kk_X10_fault [v_P 0] M (PC (sp_fault σ) M) := by
  refine c_intro (by decide) rfl (Nat.le_of_ble_eq_true rfl) (by simp [m_dv, Value.category]) (wp_X10_fault_0 ⟨_, kc_firstWrong hw h.2.2.2.2.1, fun r2 M3 _ _ e3 => ?_⟩)
  exact ⟨e3.2.1, CR_fr9 h e3.1, Fr9_C e3.1, Fr9_K e3.1⟩
def w_al (σ : St) : Nat := match p_run σ (σ 17 0) with
  | none => 0
  | some s => s.2.2.2.2 + 1
def w_st (σ : St) (b : Nat) : St := fun f k =>
  if f = 9 ∧ k = b then w_al σ else if f = 12 ∧ k = b then 0 else if f = 17 ∧ k = 0 then 0
  else if f = 10 ∧ 6 * b ≤ k ∧ k < 6 * b + 6 then p_num σ (σ 17 0) (k - 6 * b)
  else if f = 11 ∧ 30 * b ≤ k ∧ k < 30 * b + 30 then p_wan σ (σ 17 0) ((k - 30 * b) / 5) ((k - 30 * b) % 5) else σ f k
def sp_wish (σ : St) (b : Int) : Int × St := if ¬ (0 ≤ b ∧ b < σ 5 0) then (-1, σ) else if ¬ n_fault σ = -6 then (-5, σ) else (w_al σ, w_st σ b.toNat)
theorem w_row {σ : St} {b f : Nat} (h : f ≠ 9 ∧ f ≠ 10 ∧ f ≠ 11 ∧ f ≠ 12 ∧ f ≠ 17) : w_st σ b f = σ f := by
  funext k
  unfold w_st
  rw [if_neg (by omega), if_neg (by omega), if_neg (by omega), if_neg (by omega), if_neg (by omega)]
theorem w_9 {σ : St} {b : Nat} : w_st σ b 9 b = w_al σ := by
  unfold w_st
  rw [if_pos ⟨rfl, rfl⟩]
theorem w_9n {σ : St} {b c : Nat} (h : c ≠ b) : w_st σ b 9 c = σ 9 c := by
  unfold w_st
  rw [if_neg (by omega), if_neg (by omega), if_neg (by omega), if_neg (by omega), if_neg (by omega)]
theorem w_12 {σ : St} {b : Nat} : w_st σ b 12 b = 0 := by
  unfold w_st
  rw [if_neg (by omega), if_pos ⟨rfl, rfl⟩]
theorem w_12n {σ : St} {b c : Nat} (h : c ≠ b) : w_st σ b 12 c = σ 12 c := by
  unfold w_st
  rw [if_neg (by omega), if_neg (by omega), if_neg (by omega), if_neg (by omega), if_neg (by omega)]
theorem w_17 {σ : St} {b : Nat} : w_st σ b 17 0 = 0 := by
  unfold w_st
  rw [if_neg (by omega), if_neg (by omega), if_pos ⟨rfl, rfl⟩]
theorem w_10 {σ : St} {b i : Nat} (hi : i < 6) : w_st σ b 10 (6 * b + i) = p_num σ (σ 17 0) i := by
  unfold w_st
  rw [if_neg (by omega), if_neg (by omega), if_neg (by omega), if_pos (by omega), show 6 * b + i - 6 * b = i by omega]
theorem w_10n {σ : St} {b c i : Nat} (h : c ≠ b) (hi : i < 6) : w_st σ b 10 (6 * c + i) = σ 10 (6 * c + i) := by
  unfold w_st
  rw [if_neg (by omega), if_neg (by omega), if_neg (by omega), if_neg (by omega), if_neg (by omega)]
theorem w_11 {σ : St} {b i s : Nat} (hi : i < 6) (hs : s < 5) : w_st σ b 11 (5 * (6 * b + i) + s) = p_wan σ (σ 17 0) i s := by
  unfold w_st
  rw [if_neg (by omega), if_neg (by omega), if_neg (by omega), if_neg (by omega), if_pos (by omega), show (5 * (6 * b + i) + s - 30 * b) / 5 = i by omega, show (5 * (6 * b + i) + s - 30 * b) % 5 = s by omega]
theorem w_11n {σ : St} {b c i s : Nat} (h : c ≠ b) (hi : i < 6) (hs : s < 5) : w_st σ b 11 (5 * (6 * c + i) + s) = σ 11 (5 * (6 * c + i) + s) := by
  unfold w_st
  rw [if_neg (by omega), if_neg (by omega), if_neg (by omega), if_neg (by omega), if_neg (by omega)]
theorem w_need {σ : St} {b i : Nat} (hi : i < 6) : n_need (w_st σ b) (6 * b + i) = n_pack (p_wan σ (σ 17 0) i) := by
  unfold n_need n_pack
  have e0 := w_11 (σ := σ) (b := b) hi (s := 0) (by decide)
  rw [Nat.add_zero] at e0
  rw [e0, w_11 hi (by decide), w_11 hi (by decide), w_11 hi (by decide), w_11 hi (by decide)]
theorem w_needn {σ : St} {b c i : Nat} (h : c ≠ b) (hi : i < 6) : n_need (w_st σ b) (6 * c + i) = n_need σ (6 * c + i) := by
  unfold n_need
  have e0 := w_11n (σ := σ) h hi (s := 0) (by decide)
  rw [Nat.add_zero] at e0
  rw [e0, w_11n h hi (by decide), w_11n h hi (by decide), w_11n h hi (by decide), w_11n h hi (by decide)]
theorem kc_take {M : mM} {b n : Nat} (hb : b < 6) (hn : n < 6) (h : M 26 4 = n) : C_ kk_X1_take [v_P (8 + 3 * b), v_P 26] M (fun _ M' => (∀ p, p ≠ 8 + 3 * b → p ≠ 8 + 3 * b + 1 → p ≠ 8 + 3 * b + 2 → M' p = M p) ∧ M' (8 + 3 * b) 3 = n + 1 ∧ M' (8 + 3 * b) 6 = 0 ∧ (∀ j, j ≠ 3 → j ≠ 6 → M' (8 + 3 * b) j = M (8 + 3 * b) j) ∧ ∀ i, i < n + 1 → M' (8 + 3 * b + 1) i = M 28 i ∧ M' (8 + 3 * b + 2) i = M 29 i) := by
  refine c_intro (by decide) rfl (Nat.le_of_ble_eq_true rfl) (by simp [m_dv, Value.category]) (wp_X1_take_0 (isB_at hb) ?_)
  rw [h]
  have cpr : ∀ {M0 : mM} {qa sp qb dp k q : Nat}, q ≠ qb → m_cp M0 qa sp qb dp k q = M0 q := by
    intro M0 qa sp qb dp k q hq
    funext j
    rw [cp_eq, if_neg (fun z => hq z.1)]
  have ez : (Int.toNat 0) = 0 := rfl
  have en : Int.toNat ((n : Int) + 1) = n + 1 := by omega
  refine ⟨⟨by omega, by omega⟩, ⟨by omega, by omega, by omega⟩, fun M3 e3 => ?_⟩
  have e33 : M3 (8 + 3 * b) 3 = (n : Int) + 1 := by
    subst e3
    rw [cpr (by omega), up_hit]
  rw [e33]
  refine ⟨⟨by omega, by omega, by omega⟩, fun M6 e6 => ?_⟩
  subst e6
  refine ⟨fun p h1 h2 h3 => ?_, ?_, ?_, fun j h1 h2 => ?_, fun i hi => ⟨?_, ?_⟩⟩
  · rw [up_row h1, cpr h3]
    subst e3
    rw [cpr h2, up_row h1]
  · rw [up_slot (by decide), cpr (by omega)]
    exact e33
  · rw [up_hit]
  · rw [up_slot h2, cpr (by omega)]
    subst e3
    rw [cpr (by omega), up_slot h1]
  · rw [up_row (by omega), cpr (by omega)]
    subst e3
    rw [cp_eq, if_pos ⟨rfl, by rw [ez]; omega, by rw [ez, en]; omega⟩, ez, up_row (by omega)]
    rw [show 0 + (i - 0) = i by omega]
  · rw [up_row (by omega), cp_eq, if_pos ⟨rfl, by rw [ez]; omega, by rw [ez, en]; omega⟩, ez]
    rw [show 0 + (i - 0) = i by omega]
    subst e3
    rw [cpr (by omega), up_row (by omega)]
theorem w_al_le {σ : St} : w_al σ ≤ 6 := by
  unfold w_al
  cases hr : p_run σ (σ 17 0) with
  | none => exact Nat.zero_le _
  | some s =>
    have := (p_run_ok hr).1
    obtain ⟨aw, ns, mn, dg, al⟩ := s
    have h3 := this.2.2.1
    dsimp only
    omega
theorem kc_wish {σ : St} {M : mM} {b : Int} (hw : Wf σ) (h : CR σ M) : C_ kk_X10_wish [v_P 0, v_I b] M (PC (sp_wish σ b) M) := by
  have h1 := h.2.1.1
  have hnb := hw.2.2.2.1
  refine c_intro (by decide) rfl (Nat.le_of_ble_eq_true rfl) (by simp [m_dv, Value.category]) (wp_X10_wish_0 ?_)
  rw [h1]
  refine ⟨fun q => ⟨_, kc_firstWrong hw h.2.2.2.2.1, fun r2 M3 _ _ e3 => ?_⟩, fun q => ?_⟩
  · obtain ⟨f3, rfl, e4⟩ := e3
    refine ⟨fun q2 => ⟨_, c_forget, fun r9 M10 _ _ e10 => ⟨by omega, ?_⟩⟩, fun q2 => ?_⟩
    · obtain ⟨b', rfl⟩ := nat_of q.1
      have hb6 : b' < 6 := by omega
      obtain ⟨s, hr, sr⟩ := e4 q2
      have hok := (p_run_ok hr).1
      have hal : w_al σ = s.2.2.2.2 + 1 := by unfold w_al; rw [hr]
      have hal5 : s.2.2.2.2 ≤ 5 := by have := w_al_le (σ := σ); omega
      have e104 : M10 26 4 = s.2.2.2.2 := by subst e10; simp (disch := omega) only [up_row, up_slot, up_hit, su_row, su_slot, su_hit]; exact sr.1
      rw [Int.toNat_natCast]
      refine ⟨_, kc_take hb6 (n := s.2.2.2.2) (by omega) e104, fun r18 M19 _ _ e19 => ⟨by omega, ?_⟩⟩
      obtain ⟨t1, t2, t3, t4, t5⟩ := e19
      unfold sp_wish
      rw [if_neg (by omega), if_neg (by rw [q2]; exact fun z => z rfl), Int.toNat_natCast]
      have hC := CR_forget (CR_fr9 h f3)
      rw [← e10] at hC
      have hcp : FrC M M10 := by rw [e10]; exact Fr_trans (Fr9_C f3) FrC_forget
      have hk70 : M10 70 7 = 0 := by subst e10; simp (disch := omega) only [up_row, up_slot, up_hit, su_row, su_slot, su_hit]
      have hk74 : M10 74 4 = 0 := by subst e10; simp (disch := omega) only [up_row, up_slot, up_hit, su_row, su_slot, su_hit]
      have e28 : ∀ i, i ≤ s.2.2.2.2 → M10 28 i = p_num σ (σ 17 0) i ∧ M10 29 i = n_pack (p_wan σ (σ 17 0) i) := by
        intro i hi
        subst e10
        simp (disch := omega) only [up_row, up_slot, up_hit, su_row, su_slot, su_hit]
        exact sr.2.2.2.2.2 i hi
      refine ⟨?_, ?_, ?_, ?_⟩
      · rw [t2, hal]
        omega
      · show CR (w_st σ b') (m_up M19 26 1 0)
        obtain ⟨⟨g1, g2⟩, ⟨g3, g4, g5⟩, g6, g7, ⟨g8, g9⟩, g10, ⟨g11, g12⟩⟩ := hC
        refine ⟨⟨?_, fun j hj => ?_⟩, ⟨?_, ?_, fun b hb => ?_⟩, fun j hj => ?_, fun b hb => ?_, ⟨?_, fun i hi => ?_⟩, fun l hl => ?_, ⟨?_, fun d hd => ?_⟩⟩
        · rw [w_row (by decide), up_row (by decide), t1 1 (by omega) (by omega) (by omega)]; exact g1
        · rw [w_row (by decide)] at hj
          rw [w_row (by decide), w_row (by decide), w_row (by decide), up_row (by decide), up_row (by decide), up_row (by decide), up_row (by decide), t1 2 (by omega) (by omega) (by omega), t1 3 (by omega) (by omega) (by omega), t1 4 (by omega) (by omega) (by omega), t1 6 (by omega) (by omega) (by omega)]
          exact g2 j hj
        · rw [w_row (by decide), up_row (by decide), t1 1 (by omega) (by omega) (by omega)]; exact g3
        · rw [w_row (by decide), up_row (by decide), t1 1 (by omega) (by omega) (by omega)]; exact g4
        · unfold HB1
          rw [w_row (f := 6) (by decide), w_row (f := 7) (by decide), w_row (f := 8) (by decide), up_row (by omega), up_row (by omega), up_row (by omega)]
          by_cases e : b = b'
          · subst e
            rw [w_9, w_12, hal]
            have g := g5 b hb
            have g7' := g7 b hb
            refine ⟨by rw [t4 0 (by decide) (by decide)]; exact g.1, by rw [t4 1 (by decide) (by decide)]; exact g.2.1, by rw [t4 2 (by decide) (by decide)]; exact g.2.2.1, by rw [t2]; omega, ?_, fun i hi => ?_⟩
            · rw [t3, t4 7 (by decide) (by decide), g7'.2]
              decide
            · rw [(t5 i (by omega)).1, (t5 i (by omega)).2, w_10 (by omega), w_need (by omega)]
              exact e28 i (by omega)
          · rw [w_9n e, w_12n e, t1 (8 + 3 * b) (by omega) (by omega) (by omega), t1 (8 + 3 * b + 1) (by omega) (by omega) (by omega), t1 (8 + 3 * b + 2) (by omega) (by omega) (by omega)]
            have g := g5 b hb
            have h9 := (hw.2.2.2.2.1 b hb).2.2.2.1
            refine ⟨g.1, g.2.1, g.2.2.1, g.2.2.2.1, g.2.2.2.2.1, fun i hi => ?_⟩
            rw [w_10n e (by omega), w_needn e (by omega)]
            exact g.2.2.2.2.2 i hi
        · rw [w_row (by decide)] at hj
          rw [w_row (by decide), up_row (by decide), t1 5 (by omega) (by omega) (by omega)]; exact g6 j hj
        · rw [up_row (by omega)]
          by_cases e : b = b'
          · subst e
            rw [w_12, t3, t4 7 (by decide) (by decide)]
            exact ⟨rfl, (g7 b hb).2⟩
          · rw [w_12n e, t1 (8 + 3 * b) (by omega) (by omega) (by omega)]
            exact g7 b hb
        · rw [w_17, up_hit]
          rfl
        · rw [w_17] at hi
          omega
        · rw [w_row (by decide), up_row (by decide), t1 61 (by omega) (by omega) (by omega)]; exact g10 l hl
        · rw [w_row (by decide), up_row (by decide), t1 75 (by omega) (by omega) (by omega)]; exact g11
        · rw [w_row (by decide)] at hd
          rw [w_row (by decide), up_row (by decide), t1 76 (by omega) (by omega) (by omega)]; exact g12 d hd
      · intro p hp
        rw [up_row (by omega), t1 p (by omega) (by omega) (by omega)]
        exact hcp p hp
      · refine Or.inl ⟨?_, ?_⟩
        · rw [up_row (by decide), t1 70 (by omega) (by omega) (by omega)]; exact hk70
        · rw [up_row (by decide), t1 74 (by omega) (by omega) (by omega)]; exact hk74
    · unfold sp_wish
      rw [if_neg (by omega), if_pos q2]
      exact ⟨rfl, CR_fr9 h f3, Fr9_C f3, Fr9_K f3⟩
  · unfold sp_wish
    rw [if_pos q]
    exact PC_same h
/-! fault: the reference -/
def q_ms (s : P5) : Nat := if s.1 ≤ 3 then s.1 else 3 + s.2.2.2.1
def q_la (s : P5) : Nat := if s.2.1 = 0 then 0 else 96 + s.2.1
theorem km_stepOf {M : mM} {c : Nat} {s : P5} (ho : p_ok s) : C_ kk_X11_stepOf [v_I (q_ms s : Int), v_I (c : Int), v_I (q_la s : Int), v_I ((s.2.2.2.2 + 1 : Nat) : Int)] M (fun r M' => M' = M ∧ ((p_step c s = none ∧ r = -1) ∨ ∃ s', p_step c s = some s' ∧ r = q_ms s')) := by
  obtain ⟨aw, ns, mn, dg, al⟩ := s
  obtain ⟨o1, o2, o3, o4, o5, o6, o7⟩ := ho
  have e1 : q_ms (aw, ns, mn, dg, al) = if aw ≤ 3 then aw else 3 + dg := rfl
  have e2 : q_la (aw, ns, mn, dg, al) = if ns = 0 then 0 else 96 + ns := rfl
  have bad : p_step c (aw, ns, mn, dg, al) = none → (M = M ∧ ((p_step c (aw, ns, mn, dg, al) = none ∧ (-1 : Int) = -1) ∨ ∃ s', p_step c (aw, ns, mn, dg, al) = some s' ∧ (-1 : Int) = q_ms s')) := fun q => ⟨rfl, Or.inl ⟨q, rfl⟩⟩
  refine c_intro (by decide) rfl (Nat.le_of_ble_eq_true rfl) (by simp [m_dv, Value.category]) (wp_X11_stepOf_0 ?_)
  rw [e1, e2]
  rcases (show aw = 0 ∨ aw = 1 ∨ aw = 2 ∨ aw = 3 ∨ aw = 4 by omega) with rfl | rfl | rfl | rfl | rfl
  · have hst : p_step c (0, ns, mn, dg, al) = if 49 ≤ c ∧ c ≤ 57 ∧ ns < 5 then some (1, ns, c - 48, dg, al) else none := by
      rw [p_step_eq, if_neg (by omega), if_neg (by omega), if_pos (by omega)]
    have hns := o4 rfl
    rw [if_pos (by decide : (0 : Nat) ≤ 3)]
    refine ⟨fun q => ⟨fun _ => ⟨rfl, Or.inr ⟨_, by rw [hst, if_pos (by omega)], rfl⟩⟩, fun z => absurd z (by decide), fun z => absurd z (by decide), fun z => absurd z (by decide), fun z => absurd z (by decide)⟩, fun q => ⟨fun _ => bad (by rw [hst, if_neg (by omega)]), fun z => absurd z (by decide), fun z => absurd z (by decide), fun z => absurd z (by decide), fun z => absurd z (by decide)⟩⟩
  · have hst : p_step c (1, ns, mn, dg, al) = if 97 + ns ≤ c ∧ c ≤ 101 then some (2, c - 96, mn, dg, al) else none := by
      rw [p_step_eq, if_pos rfl]
    have key : (97 ≤ (c : Int) ∧ (c : Int) ≤ 101 → ((c : Int) ≤ ((if ns = 0 then 0 else 96 + ns : Nat) : Int) → (M = M ∧ ((p_step c (1, ns, mn, dg, al) = none ∧ (-1 : Int) = -1) ∨ ∃ s', p_step c (1, ns, mn, dg, al) = some s' ∧ (-1 : Int) = q_ms s'))) ∧ (¬ (c : Int) ≤ ((if ns = 0 then 0 else 96 + ns : Nat) : Int) → (M = M ∧ ((p_step c (1, ns, mn, dg, al) = none ∧ (2 : Int) = -1) ∨ ∃ s', p_step c (1, ns, mn, dg, al) = some s' ∧ (2 : Int) = q_ms s')))) ∧ (¬ (97 ≤ (c : Int) ∧ (c : Int) ≤ 101) → (M = M ∧ ((p_step c (1, ns, mn, dg, al) = none ∧ (-1 : Int) = -1) ∨ ∃ s', p_step c (1, ns, mn, dg, al) = some s' ∧ (-1 : Int) = q_ms s'))) := by
      refine ⟨fun q => ⟨fun q2 => bad ?_, fun q2 => ?_⟩, fun q => bad (by rw [hst, if_neg (by omega)])⟩
      · rw [hst, if_neg]
        by_cases z : ns = 0
        · rw [if_pos z] at q2; omega
        · rw [if_neg z] at q2; omega
      · have hcc : 97 + ns ≤ c ∧ c ≤ 101 := by
          by_cases z : ns = 0
          · rw [if_pos z] at q2; omega
          · rw [if_neg z] at q2; omega
        exact ⟨rfl, Or.inr ⟨_, by rw [hst, if_pos hcc], rfl⟩⟩
    rw [if_pos (by decide : (1 : Nat) ≤ 3)]
    exact ⟨fun q => ⟨fun z => absurd z (by decide), fun _ => key, fun z => absurd z (by decide), fun z => absurd z (by decide), fun z => absurd z (by decide)⟩, fun q => ⟨fun z => absurd z (by decide), fun _ => key, fun z => absurd z (by decide), fun z => absurd z (by decide), fun z => absurd z (by decide)⟩⟩
  · have hst : p_step c (2, ns, mn, dg, al) = if c = 61 then some (3, ns, mn, dg, al) else if 49 ≤ c ∧ c ≤ 57 ∧ ns < 5 then some (1, ns, c - 48, dg, al) else none := by
      rw [p_step_eq, if_neg (by omega)]
      by_cases z : c = 61
      · rw [if_pos ⟨rfl, z⟩, if_pos z]
      · rw [if_neg (fun y => z y.2), if_neg z, if_pos (Or.inr rfl)]
    rw [if_pos (by decide : (2 : Nat) ≤ 3)]
    refine ⟨fun q => ⟨fun z => absurd z (by decide), fun z => absurd z (by decide), fun _ => ⟨fun q2 => ⟨fun q3 => bad ?_, fun q3 => ?_⟩, fun q2 => absurd q2 (by omega)⟩, fun z => absurd z (by decide), fun z => absurd z (by decide)⟩, fun q => ⟨fun z => absurd z (by decide), fun z => absurd z (by decide), fun _ => ⟨fun q2 => bad (by rw [hst, if_neg (by omega), if_neg (by omega)]), fun q2 => ⟨rfl, Or.inr ⟨_, by rw [hst, if_pos (by omega)], rfl⟩⟩⟩, fun z => absurd z (by decide), fun z => absurd z (by decide)⟩⟩
    · rw [hst, if_neg (by omega), if_neg]
      by_cases z : ns = 0
      · rw [if_pos z] at q3; omega
      · rw [if_neg z] at q3; omega
    · have hcc : 49 ≤ c ∧ c ≤ 57 ∧ ns < 5 := by
        by_cases z : ns = 0
        · omega
        · rw [if_neg z] at q3; omega
      exact ⟨rfl, Or.inr ⟨_, by rw [hst, if_neg (by omega), if_pos hcc], rfl⟩⟩
  · have hst : p_step c (3, ns, mn, dg, al) = if 48 ≤ c ∧ c ≤ 57 ∧ dg < 3 then some (4, ns, mn, dg + 1, al) else none := by
      rw [p_step_eq, if_neg (by omega), if_neg (by omega), if_neg (by omega), if_neg (by omega)]
    have hdg := o6 (by omega)
    rw [if_pos (by decide : (3 : Nat) ≤ 3)]
    have key : (48 ≤ (c : Int) ∧ (c : Int) ≤ 57 → (M = M ∧ ((p_step c (3, ns, mn, dg, al) = none ∧ (4 : Int) = -1) ∨ ∃ s', p_step c (3, ns, mn, dg, al) = some s' ∧ (4 : Int) = q_ms s'))) ∧ (¬ (48 ≤ (c : Int) ∧ (c : Int) ≤ 57) → (M = M ∧ ((p_step c (3, ns, mn, dg, al) = none ∧ (-1 : Int) = -1) ∨ ∃ s', p_step c (3, ns, mn, dg, al) = some s' ∧ (-1 : Int) = q_ms s'))) := by
      refine ⟨fun q => ⟨rfl, Or.inr ⟨_, by rw [hst, if_pos (by omega)], ?_⟩⟩, fun q => bad (by rw [hst, if_neg (by omega)])⟩
      rw [hdg]
      rfl
    exact ⟨fun q => ⟨fun z => absurd z (by decide), fun z => absurd z (by decide), fun z => absurd z (by decide), fun _ => key, fun z => absurd z (by decide)⟩, fun q => ⟨fun z => absurd z (by decide), fun z => absurd z (by decide), fun z => absurd z (by decide), fun _ => key, fun z => absurd z (by decide)⟩⟩
  · have hst : p_step c (4, ns, mn, dg, al) = if c = 124 then (if al < 5 then some (0, 0, mn, 0, al + 1) else none) else if 48 ≤ c ∧ c ≤ 57 ∧ dg < 3 then some (4, ns, mn, dg + 1, al) else none := by
      rw [p_step_eq, if_neg (by omega), if_neg (by omega), if_neg (by omega)]
      by_cases z : c = 124
      · rw [if_pos ⟨rfl, z⟩, if_pos z]
      · rw [if_neg (fun y => z y.2), if_neg z]
    have hdg := o7 rfl
    rw [if_neg (by decide : ¬ (4 : Nat) ≤ 3)]
    have key : (48 ≤ (c : Int) ∧ (c : Int) ≤ 57 → (6 ≤ ((3 + dg : Nat) : Int) → (M = M ∧ ((p_step c (4, ns, mn, dg, al) = none ∧ (-1 : Int) = -1) ∨ ∃ s', p_step c (4, ns, mn, dg, al) = some s' ∧ (-1 : Int) = q_ms s'))) ∧ (¬ 6 ≤ ((3 + dg : Nat) : Int) → m_ir (((3 + dg : Nat) : Int) + 1) ∧ (M = M ∧ ((p_step c (4, ns, mn, dg, al) = none ∧ ((3 + dg : Nat) : Int) + 1 = -1) ∨ ∃ s', p_step c (4, ns, mn, dg, al) = some s' ∧ ((3 + dg : Nat) : Int) + 1 = q_ms s')))) ∧ (¬ (48 ≤ (c : Int) ∧ (c : Int) ≤ 57) → (¬ (c : Int) = 124 → (M = M ∧ ((p_step c (4, ns, mn, dg, al) = none ∧ (-1 : Int) = -1) ∨ ∃ s', p_step c (4, ns, mn, dg, al) = some s' ∧ (-1 : Int) = q_ms s'))) ∧ ((c : Int) = 124 → (6 ≤ ((al + 1 : Nat) : Int) → (M = M ∧ ((p_step c (4, ns, mn, dg, al) = none ∧ (-1 : Int) = -1) ∨ ∃ s', p_step c (4, ns, mn, dg, al) = some s' ∧ (-1 : Int) = q_ms s'))) ∧ (¬ 6 ≤ ((al + 1 : Nat) : Int) → (M = M ∧ ((p_step c (4, ns, mn, dg, al) = none ∧ (0 : Int) = -1) ∨ ∃ s', p_step c (4, ns, mn, dg, al) = some s' ∧ (0 : Int) = q_ms s'))))) := by
      refine ⟨fun q => ⟨fun q2 => bad (by rw [hst, if_neg (by omega), if_neg (by omega)]), fun q2 => ⟨⟨by omega, by omega⟩, rfl, Or.inr ⟨_, by rw [hst, if_neg (by omega), if_pos (by omega)], ?_⟩⟩⟩, fun q => ⟨fun q2 => bad (by rw [hst, if_neg (by omega), if_neg (by omega)]), fun q2 => ⟨fun q3 => bad (by rw [hst, if_pos (by omega), if_neg (by omega)]), fun q3 => ⟨rfl, Or.inr ⟨_, by rw [hst, if_pos (by omega), if_pos (by omega)], rfl⟩⟩⟩⟩⟩
      have : q_ms (4, ns, mn, dg + 1, al) = 3 + (dg + 1) := rfl
      omega
    exact ⟨fun q => ⟨fun z => absurd z (by omega), fun z => absurd z (by omega), fun z => absurd z (by omega), fun z => absurd z (by omega), fun _ => key⟩, fun q => ⟨fun z => absurd z (by omega), fun z => absurd z (by omega), fun z => absurd z (by omega), fun z => absurd z (by omega), fun _ => key⟩⟩
