/-! RAISED -/
def k_nx (σ : St) (pr : Nat → Nat) : Nat → Nat := fun l => pr l + (if 2 ≤ k_ct σ pr l (σ 5 0) then 1 else 0)
def k_sp (σ : St) (pr : Nat → Nat) : Prop := k_mis σ pr ≤ 0 ∨ ∀ l, l < σ 0 0 → ¬ 2 ≤ k_ct σ pr l (σ 5 0)
def k_sb (σ : St) (pr : Nat → Nat) : Bool := decide (k_mis σ pr ≤ 0 ∨ ∀ l, l < σ 0 0 → ¬ 2 ≤ k_ct σ pr l (σ 5 0))
theorem k_sb_iff {σ : St} {pr : Nat → Nat} : k_sb σ pr = true ↔ k_sp σ pr := by
  unfold k_sb k_sp
  exact decide_eq_true_iff
def k_rp (σ : St) : Nat → Nat → Nat
  | 0 => fun _ => 0
  | m + 1 => if k_sb σ (k_rp σ m) = true then k_rp σ m else k_nx σ (k_rp σ m)
def k_rr (σ : St) : Nat → Nat
  | 0 => 0
  | m + 1 => if k_sb σ (k_rp σ m) = true then k_rr σ m else k_rr σ m + 1
theorem k_frz {σ : St} {m : Nat} (h : k_sp σ (k_rp σ m)) : ∀ j, k_rp σ (m + j) = k_rp σ m ∧ k_rr σ (m + j) = k_rr σ m
  | 0 => ⟨rfl, rfl⟩
  | j + 1 => by
    obtain ⟨a, b⟩ := k_frz h j
    have hs : k_sb σ (k_rp σ (m + j)) = true := by rw [a]; exact k_sb_iff.2 h
    rw [show m + (j + 1) = (m + j) + 1 by omega, k_rp, k_rr, if_pos hs, if_pos hs]
    exact ⟨a, b⟩
theorem k_end {σ : St} {m : Nat} (hm : m ≤ 300) (h : k_sp σ (k_rp σ m)) : k_rp σ 300 = k_rp σ m ∧ k_rr σ 300 = k_rr σ m := by
  have := k_frz h (300 - m)
  rw [show m + (300 - m) = 300 by omega] at this
  exact this
theorem k_rp_le {σ : St} : ∀ m l, k_rp σ m l ≤ m
  | 0, l => Nat.le_refl _
  | m + 1, l => by
    have := k_rp_le (σ := σ) m l
    rw [k_rp]
    split
    · omega
    · unfold k_nx
      split <;> omega
theorem k_ps_rp {σ : St} (hw : Wf σ) {m : Nat} (hm : m ≤ 300) : k_ps σ (k_rp σ m) ≤ 20000 := by
  have hn8 := hw.1
  have h := k_sum_le (f := k_rp σ m) (K := 300) (n := σ 0 0) (fun l _ => by have := k_rp_le (σ := σ) m l; omega)
  unfold k_ps
  omega
theorem k_step {σ : St} {m : Nat} (h : ¬ k_sp σ (k_rp σ m)) : k_rp σ (m + 1) = k_nx σ (k_rp σ m) ∧ k_rr σ (m + 1) = k_rr σ m + 1 := by
  have hs : ¬ k_sb σ (k_rp σ m) = true := fun z => h (k_sb_iff.1 z)
  rw [k_rp, k_rr, if_neg hs, if_neg hs]
  exact ⟨rfl, rfl⟩
theorem kc_raise {σ : St} {M : mM} (hw : Wf σ) (hw2 : Wf2 σ) (hh : HH σ M) : C_ kk_X8_raise [v_P 65, v_I (n_dw σ : Int)] M (fun _ M' => M' 65 4 = k_rr σ 300 ∧ M' 65 5 = k_mis σ (k_rp σ 300) ∧ (∀ l, l < σ 0 0 → M' 66 l = k_rp σ 300 l) ∧ ∀ p, p < 65 ∨ 70 ≤ p → M' p = M p) := by
  have hn8 := hw.1
  have hnb := hw.2.2.2.1
  have p8 := pow8 hw
  have hq := isP_65
  refine c_intro (by decide) rfl (Nat.le_of_ble_eq_true rfl) (by simp [m_dv, Value.category]) (wp_X8_raise_0 hq ?_)
  have rounds : ∀ (f m : Nat) (N : mM), m + f = 300 → k_rr σ m = m → (∀ l, l < σ 0 0 → N 66 l = k_rp σ m l) → (∀ p, p < 65 ∨ 70 ≤ p → N p = M p) → X_ kk_X8_raise 28 [v_P 65, v_I (n_dw σ : Int), v_I (m : Int), v_U, v_U] [] N (fun _ M' => M' 65 4 = k_rr σ 300 ∧ M' 65 5 = k_mis σ (k_rp σ 300) ∧ (∀ l, l < σ 0 0 → M' 66 l = k_rp σ 300 l) ∧ ∀ p, p < 65 ∨ 70 ≤ p → M' p = M p) := by
    intro f
    induction f with
    | zero =>
      intro m N hm hrr n6 nf
      have em : m = 300 := by omega
      subst em
      have hhN : HH σ (m_up N 65 4 ((300 : Nat) : Int)) := HH_of hh (fun p hp => by rw [up_row (by omega)]; exact nf p (by omega))
      have n6u : ∀ l, l < σ 0 0 → m_up N 65 4 ((300 : Nat) : Int) 66 l = k_rp σ 300 l := fun l hl => by rw [up_row (by decide)]; exact n6 l hl
      refine wp_X8_raise_28 hq ⟨fun y => absurd y (by omega), fun _ => ⟨_, kc_look (pr := k_rp σ 300) hw hw2 hq hhN n6u (k_ps_rp hw (Nat.le_refl _)), fun r2 M3 _ _ e3 => ?_⟩⟩
      obtain ⟨g1, f3⟩ := e3
      have hh3 : HH σ M3 := HH_of hhN (fun p hp => f3 p (by omega) (by omega) (by omega))
      have n6' : ∀ l, l < σ 0 0 → M3 (65 + 1) l = k_rp σ 300 l := fun l hl => by rw [f3 (65 + 1) (by decide) (by decide) (by decide)]; exact n6u l hl
      refine ⟨_, kc_lack (pr := k_rp σ 300) hw hq hh3 n6' (k_ps_rp hw (Nat.le_refl _)) (fun b hb => (g1 b hb).2), fun r9 M10 _ _ e10 => ?_⟩
      obtain ⟨e10a, rfl⟩ := e10
      subst e10a
      refine ⟨_, kc_wantedTwice (pr := k_rp σ 300) hw hq (by rw [up_row (by decide)]; exact hh3.2.1) (fun b hb => by rw [up_row (by decide)]; exact (g1 b hb).1), fun r16 M17 _ _ e17 => ?_⟩
      obtain ⟨e17a, t, rfl, ht, hb⟩ := e17
      subst e17a
      have fin : m_up M10 65 5 (k_mis σ (k_rp σ 300)) 65 4 = k_rr σ 300 ∧ m_up M10 65 5 (k_mis σ (k_rp σ 300)) 65 5 = k_mis σ (k_rp σ 300) ∧ (∀ l, l < σ 0 0 → m_up M10 65 5 (k_mis σ (k_rp σ 300)) 66 l = k_rp σ 300 l) ∧ ∀ p, p < 65 ∨ 70 ≤ p → m_up M10 65 5 (k_mis σ (k_rp σ 300)) p = M p := by
        refine ⟨?_, up_hit, fun l hl => ?_, fun p hp => ?_⟩
        · rw [up_slot (by decide), f3 65 (by decide) (by decide) (by decide), up_hit, hrr]
        · rw [up_row (by decide)]; exact n6' l hl
        · rw [up_row (by omega), f3 p (by omega) (by omega) (by omega), up_row (by omega)]; exact nf p hp
      refine ⟨fun _ => fin, fun _ => ⟨fun _ => fin, fun _ => ⟨fun y => absurd ?_ y, fun _ => fin⟩⟩⟩
      rfl
    | succ f ih =>
      intro m N hm hrr n6 nf
      have hm3 : m ≤ 300 := by omega
      have hhN : HH σ (m_up N 65 4 ((m : Nat) : Int)) := HH_of hh (fun p hp => by rw [up_row (by omega)]; exact nf p (by omega))
      have n6u : ∀ l, l < σ 0 0 → m_up N 65 4 ((m : Nat) : Int) 66 l = k_rp σ m l := fun l hl => by rw [up_row (by decide)]; exact n6 l hl
      refine wp_X8_raise_28 hq ⟨fun y => absurd y (by omega), fun _ => ⟨_, kc_look (pr := k_rp σ m) hw hw2 hq hhN n6u (k_ps_rp hw hm3), fun r2 M3 _ _ e3 => ?_⟩⟩
      obtain ⟨g1, f3⟩ := e3
      have hh3 : HH σ M3 := HH_of hhN (fun p hp => f3 p (by omega) (by omega) (by omega))
      have n6' : ∀ l, l < σ 0 0 → M3 (65 + 1) l = k_rp σ m l := fun l hl => by rw [f3 (65 + 1) (by decide) (by decide) (by decide)]; exact n6u l hl
      refine ⟨_, kc_lack (pr := k_rp σ m) hw hq hh3 n6' (k_ps_rp hw hm3) (fun b hb => (g1 b hb).2), fun r9 M10 _ _ e10 => ?_⟩
      obtain ⟨e10a, rfl⟩ := e10
      subst e10a
      refine ⟨_, kc_wantedTwice (pr := k_rp σ m) hw hq (by rw [up_row (by decide)]; exact hh3.2.1) (fun b hb => by rw [up_row (by decide)]; exact (g1 b hb).1), fun r16 M17 _ _ e17 => ?_⟩
      obtain ⟨e17a, t, rfl, ht, hb⟩ := e17
      have m4 : M17 65 4 = m := by rw [e17a, up_slot (by decide), f3 65 (by decide) (by decide) (by decide)]; exact up_hit
      have m5 : M17 65 5 = k_mis σ (k_rp σ m) := by rw [e17a]; exact up_hit
      have m6 : ∀ l, l < σ 0 0 → M17 66 l = k_rp σ m l := fun l hl => by rw [e17a, up_row (by decide)]; exact n6' l hl
      have mf : ∀ p, p < 65 ∨ 70 ≤ p → M17 p = M p := fun p hp => by rw [e17a, up_row (by omega), f3 p (by omega) (by omega) (by omega), up_row (by omega)]; exact nf p hp
      have fin : k_sp σ (k_rp σ m) → M17 65 4 = k_rr σ 300 ∧ M17 65 5 = k_mis σ (k_rp σ 300) ∧ (∀ l, l < σ 0 0 → M17 66 l = k_rp σ 300 l) ∧ ∀ p, p < 65 ∨ 70 ≤ p → M17 p = M p := fun hs => by
        obtain ⟨x1, x2⟩ := k_end hm3 hs
        rw [x1, x2]
        exact ⟨by rw [m4, hrr], m5, m6, mf⟩
      have hmis := k_mis_0 hw (pr := k_rp σ m)
      refine ⟨fun q => fin (Or.inl (by rw [m5] at q; omega)), fun q => ⟨fun q2 => fin (Or.inr (fun l hl z => ?_)), fun q2 => ⟨fun _ => ?_, fun y => absurd y (by omega)⟩⟩⟩
      · have := (hb l).2 z
        rw [show t = 0 by omega, Nat.zero_testBit] at this
        cases this
      · have hns : ¬ k_sp σ (k_rp σ m) := by
          rintro (z | z)
          · rw [m5] at q
            omega
          · have : ∃ i, Nat.testBit t i ≠ Nat.testBit 0 i := Nat.exists_testBit_ne_of_ne (by omega)
            obtain ⟨i, hi⟩ := this
            rw [Nat.zero_testBit] at hi
            have hi' : t.testBit i = true := by simpa using hi
            have hin : i < σ 0 0 := by
              rcases Nat.lt_or_ge i (σ 0 0) with w | w
              · exact w
              · rw [Nat.testBit_lt_two_pow (Nat.lt_of_lt_of_le ht (Nat.pow_le_pow_right (by decide) w))] at hi'
                cases hi'
            exact z i hin ((hb i).1 hi')
        obtain ⟨st1, st2⟩ := k_step hns
        have inc : ∀ (j l : Nat) (K : mM), l + j = σ 0 0 → (∀ l', l' < l → K 66 l' = k_rp σ (m + 1) l') → (∀ l', l ≤ l' → K 66 l' = M17 66 l') → (∀ p, p ≠ 66 → K p = M17 p) → X_ kk_X8_raise 80 [v_P 65, v_I (n_dw σ : Int), v_I (m : Int), v_I (t : Int), v_I (l : Int)] [] K (fun _ M' => M' 65 4 = k_rr σ 300 ∧ M' 65 5 = k_mis σ (k_rp σ 300) ∧ (∀ l, l < σ 0 0 → M' 66 l = k_rp σ 300 l) ∧ ∀ p, p < 65 ∨ 70 ≤ p → M' p = M p) := by
          intro j
          induction j with
          | zero =>
            intro l K hl k1 k2 k3
            have e1 : K 1 0 = σ 0 0 := by rw [k3 1 (by decide), mf 1 (by omega)]; exact hh.1.1
            refine wp_X8_raise_80 hq ⟨fun _ => ?_, fun y => absurd y (by rw [e1]; omega)⟩
            refine ⟨⟨by omega, by omega⟩, ?_⟩
            rw [show (m : Int) + 1 = ((m + 1 : Nat) : Int) by omega]
            exact ih (m + 1) _ (by omega) (by rw [st2, hrr]) (fun l' hl' => k1 l' (by omega)) (fun p hp => by rw [k3 p (by omega)]; exact mf p hp)
          | succ j ihj =>
            intro l K hl k1 k2 k3
            have e1 : K 1 0 = σ 0 0 := by rw [k3 1 (by decide), mf 1 (by omega)]; exact hh.1.1
            have hrl := k_rp_le (σ := σ) m l
            refine wp_X8_raise_80 hq ⟨fun y => absurd y (by rw [e1]; omega), fun _ => ?_⟩
            rw [Int.toNat_natCast, b_bit (by omega) (by omega), show (65 + 1 : Nat) = 66 from rfl, k2 l (Nat.le_refl _), m6 l (by omega)]
            have ev : (k_rp σ m l : Int) + (if t.testBit l = true then 1 else 0) = (k_rp σ (m + 1) l : Nat) := by
              rw [st1]
              unfold k_nx
              by_cases z : t.testBit l = true
              · rw [if_pos z, if_pos ((hb l).1 z)]; omega
              · rw [if_neg z, if_neg (fun y => z ((hb l).2 y))]; omega
            have hrl2 := k_rp_le (σ := σ) (m + 1) l
            rw [ev]
            refine ⟨by omega, ⟨by omega, by omega⟩, by omega, fun M5 e5 => ⟨⟨by omega, by omega⟩, ihj (l + 1) M5 (by omega) (fun l' hl' => ?_) (fun l' hl' => by rw [e5, up_slot (by omega)]; exact k2 l' (by omega)) (fun p hp => by rw [e5, up_row hp]; exact k3 p hp)⟩⟩
            rw [e5]
            by_cases e : l' = l
            · subst e; exact up_hit
            · rw [up_slot e]; exact k1 l' (by omega)
        exact inc (σ 0 0) 0 M17 (by omega) (fun l' hl' => by omega) (fun _ _ => rfl) (fun _ _ => rfl)
  have zero : ∀ (m l : Nat) (N : mM), l + m = σ 0 0 → (∀ l', l' < l → N 66 l' = 0) → (∀ p, p ≠ 66 → N p = M p) → X_ kk_X8_raise 2 [v_P 65, v_I (n_dw σ : Int), v_I (l : Int), v_U, v_U] [] N (fun _ M' => M' 65 4 = k_rr σ 300 ∧ M' 65 5 = k_mis σ (k_rp σ 300) ∧ (∀ l, l < σ 0 0 → M' 66 l = k_rp σ 300 l) ∧ ∀ p, p < 65 ∨ 70 ≤ p → M' p = M p) := by
    intro m
    induction m with
    | zero =>
      intro l N hl n1 n2
      refine wp_X8_raise_2 hq ⟨fun _ => rounds 300 0 _ (by omega) rfl (fun l' hl' => n1 l' (by omega)) (fun p hp => n2 p (by omega)), fun y => absurd y (by rw [n2 1 (by decide), hh.1.1]; omega)⟩
    | succ m ih =>
      intro l N hl n1 n2
      refine wp_X8_raise_2 hq ⟨fun y => absurd y (by rw [n2 1 (by decide), hh.1.1]; omega), fun _ => ⟨by omega, ⟨by omega, by omega⟩, ?_⟩⟩
      rw [Int.toNat_natCast]
      refine ih (l + 1) _ (by omega) (fun l' hl' => ?_) (fun p hp => by rw [up_row hp]; exact n2 p hp)
      by_cases e : l' = l
      · subst e; exact up_hit
      · rw [up_slot e]; exact n1 l' (by omega)
  exact zero (σ 0 0) 0 M (by omega) (fun l' hl' => by omega) (fun _ _ => rfl)
def sp_raised (σ : St) (w : Int) : Int × St := (if 10 ≤ w ∧ w ≤ 17 ∧ ¬ w - 10 < σ 0 0 then -1 else if ¬ (0 ≤ w ∧ w ≤ 1 ∨ 10 ≤ w ∧ w ≤ 17) then -2 else if w = 0 then (k_rr σ 300 : Int) else if w = 1 then k_mis σ (k_rp σ 300) else (k_rp σ 300 (w - 10).toNat : Int), σ)
theorem kc_raised {σ : St} {M : mM} {w : Int} (hw : Wf σ) (hw2 : Wf2 σ) (h : CR σ M) : C_ kk_X10_raised [v_P 0, v_I w] M (PC (sp_raised σ w) M) := by
  have hn8 := hw.1
  have hh : HH σ M := ⟨h.1, h.2.1⟩
  refine c_intro (by decide) rfl (Nat.le_of_ble_eq_true rfl) (by simp [m_dv, Value.category]) (wp_X10_raised_0 ?_)
  rw [h.1.1]
  have go : (0 ≤ w ∧ w ≤ 1 ∨ 10 ≤ w ∧ w ≤ 17 ∧ w - 10 < σ 0 0) → ∀ Q : Int → mM → Prop, Q = PC (sp_raised σ w) M → ∃ Qc1 : Int → mM → Prop, C_ kk_X5_mostWorth [v_P 48] M Qc1 ∧ ∀ (r2 : Int) (M3 : mM), m_ir r2 → m_okM M3 → Qc1 r2 M3 → ∃ Qc8 : Int → mM → Prop, C_ kk_X8_raise [v_P 65, v_I r2] M3 Qc8 ∧ ∀ (r9 : Int) (M10 : mM), m_ir r9 → m_okM M10 → Qc8 r9 M10 → (¬ w = 0 → (¬ w = 1 → (m_ir (w - 10)) ∧ (0 ≤ (w - 10) ∧ (w - 10) < 8) ∧ Q (M10 66 ((w - 10).toNat)) M10) ∧ (w = 1 → Q (M10 65 5) M10)) ∧ (w = 0 → Q (M10 65 4) M10) := by
    intro hww Q hQ
    subst hQ
    refine ⟨_, kc_mostWorth hw hh, fun r2 M3 _ _ e3 => ?_⟩
    obtain ⟨rfl, -, f3⟩ := e3
    have hh3 : HH σ M3 := HH_of hh (fun p hp => f3 p (by omega))
    refine ⟨_, kc_raise hw hw2 hh3, fun r9 M10 _ _ e10 => ?_⟩
    obtain ⟨x1, x2, x3, f10⟩ := e10
    have f : ∀ p, p < 48 ∨ p = 49 ∨ 60 ≤ p ∧ p < 65 ∨ 70 ≤ p → M10 p = M p := fun p hp => by rw [f10 p (by omega), f3 p (by omega)]
    have fr : ∀ x : Int, PC (x, σ) M x M10 := fun x => ⟨rfl, CR_fr h (fun p hp => f p (by omega)) (by rw [f 75 (by omega)]), fun p hp => f p (by omega), Or.inr fun p _ _ => f p (by omega)⟩
    unfold sp_raised
    rw [if_neg (by omega), if_neg (by omega)]
    refine ⟨fun q => ⟨fun q2 => ⟨⟨by omega, by omega⟩, by omega, ?_⟩, fun q2 => ?_⟩, fun q => ?_⟩
    · rw [if_neg q, if_neg q2, x3 _ (by omega)]; exact fr _
    · rw [if_neg q, if_pos q2, x2]; exact fr _
    · rw [if_pos q, x1]; exact fr _
  have no2 : ¬ (0 ≤ w ∧ w ≤ 1) → ¬ (10 ≤ w ∧ w ≤ 17) → PC (sp_raised σ w) M (-2) M := fun a b => by
    unfold sp_raised
    rw [if_neg (by omega), if_pos (by omega)]
    exact PC_same h
  refine ⟨fun a => ⟨fun b => ⟨fun _ => no2 (by omega) (by omega), fun c => absurd a c⟩, fun b => go (by omega) _ rfl⟩, fun a => ⟨⟨by omega, by omega⟩, fun b => ⟨fun c => ⟨fun d => absurd d a, fun _ => go (by omega) _ rfl⟩, fun c => go (by omega) _ rfl⟩, fun b => ?_⟩⟩
  unfold sp_raised
  rw [if_pos (by omega)]
  exact PC_same h
