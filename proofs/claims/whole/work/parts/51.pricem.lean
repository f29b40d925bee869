/-! PRICES, the reference -/
theorem km_costOf {σ : St} {M : mM} {q2 h : Nat} {pr : Nat → Nat} (hw : Wf σ) (hq : m_sh q2 = (20, 8)) (h4 : M 79 4 = σ 0 0) (hp : ∀ l, l < σ 0 0 → M q2 l = pr l) (hb : k_ps σ pr ≤ 20000) (hh : h < 2 ^ 31) : C_ kk_X11_costOf [v_P 79, v_I (h : Int), v_P q2] M (fun r M' => M' = M ∧ r = k_co σ pr h) := by
  have hn8 := hw.1
  refine c_intro (by decide) rfl (Nat.le_of_ble_eq_true rfl) (by simp [m_dv, Value.category]) (wp_X11_costOf_0 hq ?_)
  have loop : ∀ (m l : Nat), l + m = σ 0 0 → X_ kk_X11_costOf 5 [v_P 79, v_I (h : Int), v_P q2, v_I (q_sum (fun l => if h.testBit l = true then pr l else 0) l : Int), v_I (l : Int)] [] M (fun r M' => M' = M ∧ r = k_co σ pr h) := by
    intro m
    induction m with
    | zero =>
      intro l hl
      refine wp_X11_costOf_5 hq ⟨fun _ => ⟨rfl, by rw [show l = σ 0 0 by omega]; rfl⟩, fun y => absurd y (by rw [h4]; omega)⟩
    | succ m ih =>
      intro l hl
      have nx := ih (l + 1) (by omega)
      rw [q_sum] at nx
      have hle : q_sum (fun l => if h.testBit l = true then pr l else 0) l + pr l ≤ k_ps σ pr := by
        have a := q_sum_mono (f := pr) (n := l + 1) (m := σ 0 0) (by omega)
        have b := q_sum_le (f := fun l => if h.testBit l = true then pr l else 0) (g := pr) (n := l) (fun j _ => by
          show (if h.testBit j = true then pr j else 0) ≤ pr j
          split <;> omega)
        rw [q_sum] at a
        unfold k_ps
        omega
      refine wp_X11_costOf_5 hq ⟨fun y => absurd y (by rw [h4]; omega), fun _ => ?_⟩
      rw [Int.toNat_natCast, hp l (by omega)]
      refine ⟨fun q => ⟨⟨by omega, by omega⟩, ⟨by omega, by omega⟩, ?_⟩, fun q => ⟨by omega, ⟨by omega, by omega⟩, ⟨by omega, by omega⟩, ?_⟩⟩
      · have hb' : ¬ h.testBit l = true := fun z => q ((b_bit1 (by omega) hh).2 z)
        rw [if_neg hb'] at nx
        exact nx
      · rw [if_pos ((b_bit1 (by omega) hh).1 q)] at nx
        rw [← Int.natCast_add]
        exact nx
  exact loop (σ 0 0) 0 (by omega)
theorem km_liked {σ : St} {M : mM} {q2 b : Nat} {pr : Nat → Nat} (hw : Wf σ) (hq : m_sh q2 = (20, 8)) (h4 : M 79 4 = σ 0 0) (hWL : WL σ M) (hp : ∀ l, l < σ 0 0 → M q2 l = pr l) (hpb : k_ps σ pr ≤ 20000) (hb : b < σ 5 0) : C_ kk_X11_liked [v_P 79, v_I (b : Int), v_P q2] M (fun r M' => M' = M ∧ r = k_h σ pr b) := by
  have hn8 := hw.1
  have hnb := hw.2.2.2.1
  have p8 := pow8 hw
  have pp : 0 < 2 ^ σ 0 0 := Nat.pow_pos (by decide)
  refine c_intro (by decide) rfl (Nat.le_of_ble_eq_true rfl) (by simp [m_dv, Value.category]) (wp_X11_liked_0 hq ?_)
  rw [show (256 * (b : Int)).toNat = 256 * b + 0 by omega, hWL b 0 hb pp]
  refine ⟨⟨by omega, by omega⟩, by omega, ?_⟩
  have loop : ∀ (k m : Nat), m + k = 2 ^ σ 0 0 - 1 → X_ kk_X11_liked 17 [v_P 79, v_I (b : Int), v_P q2, v_I ((k_lk σ pr b m).1 : Int), v_I (k_lk σ pr b m).2, v_I ((m : Int) + 1), v_U] [] M (fun r M' => M' = M ∧ r = k_h σ pr b) := by
    intro k
    induction k with
    | zero =>
      intro m hm
      refine wp_X11_liked_17 hq ?_
      rw [h4, b_shl1 (by omega)]
      refine ⟨fun _ => ⟨rfl, ?_⟩, fun y => absurd y (by omega)⟩
      rw [show m = 2 ^ σ 0 0 - 1 by omega]
      rfl
    | succ k ih =>
      intro m hm
      have nx := ih (m + 1) (by omega)
      refine wp_X11_liked_17 hq ?_
      rw [h4, b_shl1 (by omega), show (256 * (b : Int) + ((m : Int) + 1)).toNat = 256 * b + (m + 1) by omega, hWL b (m + 1) hb (by omega), show (m : Int) + 1 = ((m + 1 : Nat) : Int) by omega]
      refine ⟨fun y => absurd y (by omega), fun _ => ⟨⟨by omega, by omega⟩, ⟨by omega, by omega⟩, by omega, _, km_costOf hw hq h4 hp hpb (by omega), fun r5 M6 _ _ e6 => ?_⟩⟩
      obtain ⟨e6a, rfl⟩ := e6
      subst e6a
      have hcp := k_co_ps (σ := σ) (pr := pr) (h := m + 1)
      have hwl := n_worth_le hw (b := b) (h := m + 1) (by omega)
      have ev : (n_worth σ b (m + 1) : Int) - (k_co σ pr (m + 1) : Int) = k_val σ pr b (m + 1) := rfl
      rw [ev]
      refine ⟨⟨by unfold k_val; omega, by unfold k_val; omega⟩, fun q => ⟨⟨by omega, by omega⟩, ?_⟩, fun q => ⟨⟨by omega, by omega⟩, ?_⟩⟩
      · have e : k_lk σ pr b (m + 1) = k_lk σ pr b m := by rw [k_lk, if_neg (by omega)]
        rw [e] at nx
        exact nx
      · have e : k_lk σ pr b (m + 1) = (m + 1, k_val σ pr b (m + 1)) := by rw [k_lk, if_pos (by omega)]
        rw [e] at nx
        exact nx
  exact loop (2 ^ σ 0 0 - 1) 0 (by omega)
theorem km_over {σ : St} {M : mM} {q2 b h : Nat} {pr : Nat → Nat} (hw : Wf σ) (hq : m_sh q2 = (20, 8)) (h4 : M 79 4 = σ 0 0) (hWL : WL σ M) (hp : ∀ l, l < σ 0 0 → M q2 l = pr l) (hpb : k_ps σ pr ≤ 20000) (hb : b < σ 5 0) (hh : h < 2 ^ σ 0 0) : C_ kk_X11_over [v_P 79, v_I (b : Int), v_I (h : Int), v_P q2] M (fun r M' => M' = M ∧ r = k_val σ pr b h) := by
  have hnb := hw.2.2.2.1
  have p8 := pow8 hw
  refine c_intro (by decide) rfl (Nat.le_of_ble_eq_true rfl) (by simp [m_dv, Value.category]) (wp_X11_over_0 hq ?_)
  rw [show (256 * (b : Int) + (h : Int)).toNat = 256 * b + h by omega, hWL b h hb hh]
  refine ⟨⟨by omega, by omega⟩, ⟨by omega, by omega⟩, by omega, _, km_costOf hw hq h4 hp hpb (by omega), fun r5 M6 _ _ e6 => ?_⟩
  obtain ⟨e6a, rfl⟩ := e6
  subst e6a
  have hcp := k_co_ps (σ := σ) (pr := pr) (h := h)
  have hwl := n_worth_le hw (b := b) (h := h) (by omega)
  exact ⟨⟨by omega, by omega⟩, rfl, rfl⟩
theorem km_likes {σ : St} {M : mM} {b w : Int} (hw : Wf σ) (h : MR σ M) : C_ kk_X11_likes [v_P 79, v_I b, v_I w] M (PM (sp_likes σ b w) M) := by
  have hnb := hw.2.2.2.1
  have hn8 := hw.1
  refine c_intro (by decide) rfl (Nat.le_of_ble_eq_true rfl) (by simp [m_dv, Value.category]) (wp_X11_likes_0 ?_)
  rw [h.2.2.1]
  unfold sp_likes
  refine ⟨by omega, fun q => ?_, fun q => ?_⟩
  · rw [if_neg (fun z => z q)]
    obtain ⟨b', rfl⟩ := nat_of q.1
    refine ⟨fun q2 => ⟨_, km_layWorths hw h, fun r2 M3 _ _ e3 => ?_⟩, fun q2 => ?_⟩
    · rw [if_neg (by omega)]
      obtain ⟨hW, f3⟩ := e3
      have h4 : M3 79 4 = σ 0 0 := by rw [f3 79 (by decide)]; exact h.1
      have hp : ∀ l, l < σ 0 0 → M3 101 l = σ 14 l := fun l hl => by rw [f3 101 (by decide)]; exact h.2.2.2.2.2.2.2.2.1 l (by omega)
      refine ⟨_, km_liked (pr := σ 14) hw rfl h4 hW hp (ps_14 hw) (by omega), fun r9 M10 _ _ e10 => ?_⟩
      obtain ⟨e10a, rfl⟩ := e10
      subst e10a
      rw [Int.toNat_natCast]
      have hk := k_hg (σ := σ) (pr := σ 14) (b := b')
      refine ⟨fun q3 => ⟨_, km_over (pr := σ 14) hw rfl h4 hW hp (ps_14 hw) (by omega) hk.1, fun r16 M17 _ _ e17 => ?_⟩, fun q3 => ?_⟩
      · obtain ⟨e17a, rfl⟩ := e17
        subst e17a
        rw [if_neg q3, hk.2.1]
        exact PM_fr h (fun p hp => f3 p (by omega))
      · rw [if_pos q3]
        exact PM_fr h (fun p hp => f3 p (by omega))
    · rw [if_pos (by omega)]; exact PM_same h
  · rw [if_pos q]; exact PM_same h
theorem km_missingBy {σ : St} {M : mM} {q2 : Nat} {pr : Nat → Nat} (hw : Wf σ) (hq : m_sh q2 = (20, 8)) (hq2 : q2 ≠ 103) (h4 : M 79 4 = σ 0 0) (h8 : M 79 8 = σ 5 0) (hWL : WL σ M) (hD : MDL σ M) (hp : ∀ l, l < σ 0 0 → M q2 l = pr l) (hpb : k_ps σ pr ≤ 20000) : C_ kk_X11_missingBy [v_P 79, v_P q2] M (fun r M' => r = k_mis σ pr ∧ (∀ b, b < σ 5 0 → M' 103 b = k_h σ pr b) ∧ ∀ p, p ≠ 103 → M' p = M p) := by
  have hn8 := hw.1
  have hnb := hw.2.2.2.1
  have p8 := pow8 hw
  have pp : 0 < 2 ^ σ 0 0 := Nat.pow_pos (by decide)
  have hdw := nV_le hw (σ 5 0) (Nat.le_refl _) (n_cnt σ (2 ^ σ 0 0 - 1))
  have hdw' : n_dw σ ≤ 6000 := by unfold n_dw; omega
  refine c_intro (by decide) rfl (Nat.le_of_ble_eq_true rfl) (by simp [m_dv, Value.category]) (wp_X11_missingBy_0 hq ?_)
  rw [h4, b_shl1 (by omega), show ((2 ^ σ 0 0 : Nat) : Int) - 1 = ((2 ^ σ 0 0 - 1 : Nat) : Int) by omega]
  refine ⟨⟨by omega, by omega⟩, _, km_costOf hw hq h4 hp hpb (by omega), fun r3 M4 _ _ e4 => ?_⟩
  obtain ⟨e4a, rfl⟩ := e4
  subst e4a
  refine ⟨_, km_dealtWorth hw h4 hD, fun r10 M11 _ _ e11 => ?_⟩
  obtain ⟨e11a, rfl⟩ := e11
  subst e11a
  rw [k_co_full]
  refine ⟨⟨by omega, by omega⟩, ?_⟩
  have loop : ∀ (m b : Nat) (N : mM), b + m = σ 5 0 → (∀ b', b' < b → N 103 b' = k_h σ pr b') → (∀ p, p ≠ 103 → N p = M11 p) → X_ kk_X11_missingBy 21 [v_P 79, v_P q2, v_I ((k_ps σ pr : Int) - (n_dw σ : Int) + k_fs σ pr b), v_I (b : Int)] [] N (fun r M' => r = k_mis σ pr ∧ (∀ b, b < σ 5 0 → M' 103 b = k_h σ pr b) ∧ ∀ p, p ≠ 103 → M' p = M11 p) := by
    intro m
    induction m with
    | zero =>
      intro b N hb n1 n2
      refine wp_X11_missingBy_21 hq ⟨fun _ => ⟨?_, fun b' hb' => n1 b' (by omega), n2⟩, fun y => absurd y (by rw [n2 79 (by decide), h8]; omega)⟩
      rw [show b = σ 5 0 by omega]
      unfold k_mis
      omega
    | succ m ih =>
      intro b N hb n1 n2
      have nx := fun N' => ih (b + 1) N' (by omega)
      have hfs := k_fs_le hw (pr := pr) b (by omega)
      have hgb := k_g_le hw (pr := pr) (b := b) (by omega)
      have hk := k_hg (σ := σ) (pr := pr) (b := b)
      have hs : k_fs σ pr (b + 1) = k_fs σ pr b + k_g σ pr b := rfl
      rw [hs, ← Int.add_assoc] at nx
      have n4 : N 79 4 = σ 0 0 := by rw [n2 79 (by decide)]; exact h4
      refine wp_X11_missingBy_21 hq ⟨fun y => absurd y (by rw [n2 79 (by decide), h8]; omega), fun _ => ⟨_, km_liked (pr := pr) hw hq n4 (WL_of hWL (n2 92 (by decide))) (fun l hl => by rw [n2 q2 hq2]; exact hp l hl) hpb (by omega), fun r2 M3 _ _ e3 => ?_⟩⟩
      obtain ⟨e3a, rfl⟩ := e3
      subst e3a
      rw [Int.toNat_natCast]
      refine ⟨by omega, by omega, _, km_over (pr := pr) hw hq (by rw [up_row (by decide)]; exact n4) (WL_of hWL (by rw [up_row (by decide)]; exact n2 92 (by decide))) (fun l hl => by rw [up_row hq2, n2 q2 hq2]; exact hp l hl) hpb (by omega) hk.1, fun r11 M12 _ _ e12 => ?_⟩
      obtain ⟨e12a, rfl⟩ := e12
      subst e12a
      rw [hk.2.1]
      refine ⟨⟨by omega, by omega⟩, ⟨by omega, by omega⟩, nx _ (fun b' hb' => ?_) (fun p hp' => by rw [up_row hp']; exact n2 p hp')⟩
      by_cases e : b' = b
      · subst e; exact up_hit
      · rw [up_slot e]; exact n1 b' (by omega)
  have l0 := loop (σ 5 0) 0 M11 (by omega) (fun b' hb' => by omega) (fun _ _ => rfl)
  have e0 : k_fs σ pr 0 = 0 := rfl
  rw [e0, Int.add_zero] at l0
  exact l0
theorem km_missing {σ : St} {M : mM} (hw : Wf σ) (h : MR σ M) : C_ kk_X11_missing [v_P 79] M (PM (sp_missing σ) M) := by
  have hn8 := hw.1
  refine c_intro (by decide) rfl (Nat.le_of_ble_eq_true rfl) (by simp [m_dv, Value.category]) (wp_X11_missing_0 ⟨_, km_layWorths hw h, fun r2 M3 _ _ e3 => ?_⟩)
  obtain ⟨hW, f3⟩ := e3
  have h4 : M3 79 4 = σ 0 0 := by rw [f3 79 (by decide)]; exact h.1
  have h8 : M3 79 8 = σ 5 0 := by rw [f3 79 (by decide)]; exact h.2.2.1
  refine ⟨_, km_findDealt hw h4 h8 hW, fun r9 M10 _ _ e10 => ?_⟩
  obtain ⟨hD, f10⟩ := e10
  refine ⟨_, km_missingBy (pr := σ 14) hw rfl (by decide) (by rw [f10 79 (by decide)]; exact h4) (by rw [f10 79 (by decide)]; exact h8) (WL_of hW (f10 92 (by decide))) hD (fun l hl => by rw [f10 101 (by decide), f3 101 (by decide)]; exact h.2.2.2.2.2.2.2.2.1 l (by omega)) (ps_14 hw), fun r16 M17 _ _ e17 => ?_⟩
  obtain ⟨rfl, -, f17⟩ := e17
  exact PM_fr h (fun p hp => by rw [f17 p (by omega), f10 p (by omega), f3 p (by omega)])
theorem k_ct_le {σ : St} {pr : Nat → Nat} {l : Nat} : ∀ b, k_ct σ pr l b ≤ b
  | 0 => Nat.le_refl _
  | b + 1 => by
    have ih := k_ct_le (σ := σ) (pr := pr) (l := l) b
    have e : k_ct σ pr l (b + 1) = k_ct σ pr l b + (if (k_h σ pr b).testBit l = true then 1 else 0) := rfl
    rw [e]
    split <;> omega
def k_tw (σ : St) (pr : Nat → Nat) (l : Nat) : Prop := ∃ l', l' < l ∧ 2 ≤ k_ct σ pr l' (σ 5 0)
theorem km_raise {σ : St} {M : mM} (hw : Wf σ) (h4 : M 79 4 = σ 0 0) (h8 : M 79 8 = σ 5 0) (hWL : WL σ M) : C_ kk_X11_raise [v_P 79] M (fun r M' => r = k_mis σ (k_rp σ 300) ∧ M' 79 28 = k_rr σ 300 ∧ (∀ l, l < σ 0 0 → M' 102 l = k_rp σ 300 l) ∧ (∀ p, p ≠ 79 → p ≠ 100 → p ≠ 102 → p ≠ 103 → M' p = M p) ∧ ∀ i, i ≠ 28 → M' 79 i = M 79 i) := by
  have hn8 := hw.1
  have hnb := hw.2.2.2.1
  have p8 := pow8 hw
  refine c_intro (by decide) rfl (Nat.le_of_ble_eq_true rfl) (by simp [m_dv, Value.category]) (wp_X11_raise_0 ⟨_, km_findDealt hw h4 h8 hWL, fun r2 M3 _ _ e3 => ?_⟩)
  obtain ⟨hD, f3⟩ := e3
  -- what stays
  have rounds : ∀ (f m : Nat) (N : mM), m + f = 300 → k_rr σ m = m → N 79 28 = m → (∀ l, l < σ 0 0 → N 102 l = k_rp σ m l) → (∀ b, b < σ 5 0 → N 103 b = k_h σ (k_rp σ m) b) → MDL σ N → (∀ p, p ≠ 79 → p ≠ 100 → p ≠ 102 → p ≠ 103 → N p = M p) → (∀ i, i ≠ 28 → N 79 i = M 79 i) → X_ kk_X11_raise 43 [v_P 79, v_I (k_mis σ (k_rp σ m)), v_I 1, v_U, v_U, v_U] [] N (fun r M' => r = k_mis σ (k_rp σ 300) ∧ M' 79 28 = k_rr σ 300 ∧ (∀ l, l < σ 0 0 → M' 102 l = k_rp σ 300 l) ∧ (∀ p, p ≠ 79 → p ≠ 100 → p ≠ 102 → p ≠ 103 → M' p = M p) ∧ ∀ i, i ≠ 28 → M' 79 i = M 79 i) := by
    intro f
    induction f with
    | zero =>
      intro m N hm hrr n28 n102 n103 nD nf n79
      have em : m = 300 := by omega
      subst em
      have fin : k_mis σ (k_rp σ 300) = k_mis σ (k_rp σ 300) ∧ N 79 28 = k_rr σ 300 ∧ (∀ l, l < σ 0 0 → N 102 l = k_rp σ 300 l) ∧ (∀ p, p ≠ 79 → p ≠ 100 → p ≠ 102 → p ≠ 103 → N p = M p) ∧ ∀ i, i ≠ 28 → N 79 i = M 79 i := ⟨rfl, by rw [n28, hrr], n102, nf, n79⟩
      exact wp_X11_raise_43 ⟨fun _ => fin, fun _ => ⟨fun _ => fin, fun _ => ⟨fun _ => fin, fun y => absurd y (by rw [n28]; omega)⟩⟩⟩
    | succ f ih =>
      intro m N hm hrr n28 n102 n103 nD nf n79
      have hm3 : m ≤ 300 := by omega
      have hmis := k_mis_0 hw (pr := k_rp σ m)
      have k4 : N 79 4 = σ 0 0 := by rw [n79 4 (by decide)]; exact h4
      have k8 : N 79 8 = σ 5 0 := by rw [n79 8 (by decide)]; exact h8
      have fin : k_sp σ (k_rp σ m) → ∀ N' : mM, N' 79 28 = m → (∀ l, l < σ 0 0 → N' 102 l = k_rp σ m l) → (∀ p, p ≠ 79 → p ≠ 100 → p ≠ 102 → p ≠ 103 → N' p = M p) → (∀ i, i ≠ 28 → N' 79 i = M 79 i) → k_mis σ (k_rp σ m) = k_mis σ (k_rp σ 300) ∧ N' 79 28 = k_rr σ 300 ∧ (∀ l, l < σ 0 0 → N' 102 l = k_rp σ 300 l) ∧ (∀ p, p ≠ 79 → p ≠ 100 → p ≠ 102 → p ≠ 103 → N' p = M p) ∧ ∀ i, i ≠ 28 → N' 79 i = M 79 i := fun hs N' a1 a2 a3 a4 => by
        obtain ⟨x1, x2⟩ := k_end hm3 hs
        rw [x1, x2]
        exact ⟨rfl, by rw [a1, hrr], a2, a3, a4⟩
      refine wp_X11_raise_43 ⟨fun q => fin (Or.inl q) N n28 n102 nf n79, fun q => ⟨fun y => absurd y (by decide), fun _ => ⟨fun y => absurd y (by rw [n28]; omega), fun _ => ?_⟩⟩⟩
      -- lot by lot
      have lots : ∀ (j l : Nat) (x2 : Int) (K : mM), l + j = σ 0 0 → (x2 = 0 ∨ x2 = 1) → (x2 = 0 → ∀ l', l' < l → ¬ 2 ≤ k_ct σ (k_rp σ m) l' (σ 5 0)) → (x2 = 1 → k_tw σ (k_rp σ m) l) → (∀ l', l' < l → K 102 l' = k_nx σ (k_rp σ m) l') → (∀ l', l ≤ l' → K 102 l' = N 102 l') → (∀ p, p ≠ 102 → K p = N p) → X_ kk_X11_raise 65 [v_P 79, v_I (k_mis σ (k_rp σ m)), v_I x2, v_I (l : Int), v_U, v_U] [] K (fun r M' => r = k_mis σ (k_rp σ 300) ∧ M' 79 28 = k_rr σ 300 ∧ (∀ l, l < σ 0 0 → M' 102 l = k_rp σ 300 l) ∧ (∀ p, p ≠ 79 → p ≠ 100 → p ≠ 102 → p ≠ 103 → M' p = M p) ∧ ∀ i, i ≠ 28 → M' 79 i = M 79 i) := by
        intro j
        induction j with
        | zero =>
          intro l x2 K hl hx hx0 hx1 k1 k2 k3
          have el : l = σ 0 0 := by omega
          subst el
          have c28 : K 79 28 = m := by rw [k3 79 (by decide)]; exact n28
          have c4 : K 79 4 = σ 0 0 := by rw [k3 79 (by decide)]; exact k4
          refine wp_X11_raise_65 ⟨fun _ => ?_, fun y => absurd y (by rw [c4]; omega)⟩
          rw [c28]
          refine ⟨fun q0 => ⟨⟨by omega, by omega⟩, fun _ => ?_, fun y => absurd q0 y⟩, fun q0 => ⟨⟨by omega, by omega⟩, fun y => absurd y q0, fun _ => ?_⟩⟩
          · have hs : k_sp σ (k_rp σ m) := Or.inr (hx0 q0)
            have e102 : ∀ l, l < σ 0 0 → K 102 l = k_rp σ m l := fun l hl => by
              rw [k1 l hl]
              unfold k_nx
              rw [if_neg (hx0 q0 l hl)]
              rfl
            refine wp_X11_raise_43 ⟨fun y => absurd y q, fun _ => ⟨fun _ => fin hs _ (by rw [up_hit]; omega) (fun l hl => by rw [up_row (by decide)]; exact e102 l hl) (fun p p1 p2 p3 p4 => by rw [up_row p1, k3 p p3]; exact nf p p1 p2 p3 p4) (fun i hi => by rw [up_slot hi, k3 79 (by decide)]; exact n79 i hi), fun y => absurd q0 y⟩⟩
          · have hx1' : x2 = 1 := by omega
            obtain ⟨l', hl', hct⟩ := hx1 hx1'
            have hns : ¬ k_sp σ (k_rp σ m) := by
              rintro (z | z)
              · omega
              · exact z l' hl' hct
            obtain ⟨st1, st2⟩ := k_step hns
            have e102 : ∀ l, l < σ 0 0 → K 102 l = k_rp σ (m + 1) l := fun l hl => by rw [k1 l hl, st1]
            refine ⟨_, km_missingBy (pr := k_rp σ (m + 1)) hw rfl (by decide) (by rw [up_slot (by decide)]; exact c4) (by rw [up_slot (by decide), k3 79 (by decide)]; exact k8) (WL_of hWL (by rw [up_row (by decide), k3 92 (by decide), nf 92 (by decide) (by decide) (by decide) (by decide)])) (fun b f' hb hf' => by rw [up_row (by decide), k3 100 (by decide)]; exact nD b f' hb hf') (fun l hl => by rw [up_row (by decide)]; exact e102 l hl) (k_ps_rp hw (by omega)), fun r11 M12 _ _ e12 => ?_⟩
            obtain ⟨rfl, g103, f12⟩ := e12
            rw [hx1']
            refine ih (m + 1) M12 (by omega) (by rw [st2, hrr]) (by rw [f12 79 (by decide), up_hit]; omega) (fun l hl => by rw [f12 102 (by decide), up_row (by decide)]; exact e102 l hl) g103 (fun b f' hb hf' => by rw [f12 100 (by decide), up_row (by decide), k3 100 (by decide)]; exact nD b f' hb hf') (fun p p1 p2 p3 p4 => by rw [f12 p p4, up_row p1, k3 p p3]; exact nf p p1 p2 p3 p4) (fun i hi => by rw [f12 79 (by decide), up_slot hi, k3 79 (by decide)]; exact n79 i hi)
        | succ j ihj =>
          intro l x2 K hl hx hx0 hx1 k1 k2 k3
          have c4 : K 79 4 = σ 0 0 := by rw [k3 79 (by decide)]; exact k4
          have c8 : K 79 8 = σ 5 0 := by rw [k3 79 (by decide)]; exact k8
          refine wp_X11_raise_65 ⟨fun y => absurd y (by rw [c4]; omega), fun _ => ?_⟩
          have hrl := k_rp_le (σ := σ) m l
          have cnt : ∀ (k b : Nat), b + k = σ 5 0 → X_ kk_X11_raise 79 [v_P 79, v_I (k_mis σ (k_rp σ m)), v_I x2, v_I (l : Int), v_I (k_ct σ (k_rp σ m) l b : Int), v_I (b : Int)] [] K (fun r M' => r = k_mis σ (k_rp σ 300) ∧ M' 79 28 = k_rr σ 300 ∧ (∀ l, l < σ 0 0 → M' 102 l = k_rp σ 300 l) ∧ (∀ p, p ≠ 79 → p ≠ 100 → p ≠ 102 → p ≠ 103 → M' p = M p) ∧ ∀ i, i ≠ 28 → M' 79 i = M 79 i) := by
            intro k
            induction k with
            | zero =>
              intro b hb
              have eb : b = σ 5 0 := by omega
              subst eb
              have i1 : m_ir ((l : Int) + 1) := ⟨by omega, by omega⟩
              have nxt : ∀ (x2' v : Int), (x2' = 0 ∨ x2' = 1) → (x2' = 0 → x2 = 0 ∧ ¬ 2 ≤ k_ct σ (k_rp σ m) l (σ 5 0)) → (x2' = 1 → x2 = 1 ∨ 2 ≤ k_ct σ (k_rp σ m) l (σ 5 0)) → v = k_nx σ (k_rp σ m) l → X_ kk_X11_raise 65 [v_P 79, v_I (k_mis σ (k_rp σ m)), v_I x2', v_I ((l : Int) + 1), v_U, v_U] [] (m_up K 102 l v) (fun r M' => r = k_mis σ (k_rp σ 300) ∧ M' 79 28 = k_rr σ 300 ∧ (∀ l, l < σ 0 0 → M' 102 l = k_rp σ 300 l) ∧ (∀ p, p ≠ 79 → p ≠ 100 → p ≠ 102 → p ≠ 103 → M' p = M p) ∧ ∀ i, i ≠ 28 → M' 79 i = M 79 i) := by
                intro x2' v y0 y1 y2 hv
                refine ihj (l + 1) x2' _ (by omega) y0 (fun z l' hl' => ?_) (fun z => ?_) (fun l' hl' => ?_) (fun l' hl' => by rw [up_slot (by omega)]; exact k2 l' (by omega)) (fun p hp => by rw [up_row hp]; exact k3 p hp)
                · by_cases e : l' = l
                  · subst e; exact (y1 z).2
                  · exact hx0 (y1 z).1 l' (by omega)
                · rcases y2 z with w | w
                  · obtain ⟨l', h1, h2⟩ := hx1 w
                    exact ⟨l', by omega, h2⟩
                  · exact ⟨l, by omega, w⟩
                · by_cases e : l' = l
                  · subst e; rw [up_hit]; exact hv
                  · rw [up_slot e]; exact k1 l' (by omega)
              refine wp_X11_raise_79 ⟨fun _ => ?_, fun y => absurd y (by rw [c8]; omega)⟩
              rw [Int.toNat_natCast, k2 l (Nat.le_refl _), n102 l (by omega)]
              have ev0 : ¬ 2 ≤ k_ct σ (k_rp σ m) l (σ 5 0) → (k_rp σ m l : Int) + 0 = k_nx σ (k_rp σ m) l := fun z => by
                unfold k_nx
                rw [if_neg z]
                omega
              have ev1 : 2 ≤ k_ct σ (k_rp σ m) l (σ 5 0) → (k_rp σ m l : Int) + 1 = k_nx σ (k_rp σ m) l := fun z => by
                unfold k_nx
                rw [if_pos z]
                omega
              refine ⟨by omega, fun q1 => ⟨⟨by omega, by omega⟩, by omega, fun q2 => ⟨i1, nxt 1 _ (Or.inr rfl) (fun z => by omega) (fun _ => Or.inl (by omega)) (ev0 (by omega))⟩, fun q2 => ⟨fun q3 => ⟨i1, nxt 0 _ (Or.inl rfl) (fun _ => ⟨q2, by omega⟩) (fun z => by omega) (ev0 (by omega))⟩, fun y => absurd q1 y⟩⟩, fun q1 => ⟨⟨by omega, by omega⟩, by omega, fun q2 => ⟨i1, nxt 1 _ (Or.inr rfl) (fun z => by omega) (fun _ => Or.inl (by omega)) (ev1 (by omega))⟩, fun q2 => ⟨fun y => absurd y q1, fun _ => ⟨i1, nxt 1 _ (Or.inr rfl) (fun z => by omega) (fun _ => Or.inr (by omega)) (ev1 (by omega))⟩⟩⟩⟩
            | succ k ihk =>
              intro b hb
              have nx := ihk (b + 1) (by omega)
              have hkl := (k_hg (σ := σ) (pr := k_rp σ m) (b := b)).1
              have e : k_ct σ (k_rp σ m) l (b + 1) = k_ct σ (k_rp σ m) l b + (if (k_h σ (k_rp σ m) b).testBit l = true then 1 else 0) := rfl
              have hcl := k_ct_le (σ := σ) (pr := k_rp σ m) (l := l) b
              refine wp_X11_raise_79 ⟨fun y => absurd y (by rw [c8]; omega), fun _ => ?_⟩
              rw [Int.toNat_natCast, k3 103 (by decide), n103 b (by omega), b_bit (by omega) (by omega)]
              have ev : (k_ct σ (k_rp σ m) l b : Int) + (if (k_h σ (k_rp σ m) b).testBit l = true then 1 else 0) = (k_ct σ (k_rp σ m) l (b + 1) : Nat) := by
                rw [e]
                split <;> omega
              have hcl2 := k_ct_le (σ := σ) (pr := k_rp σ m) (l := l) (b + 1)
              rw [ev]
              exact ⟨by omega, ⟨by omega, by omega⟩, ⟨by omega, by omega⟩, nx⟩
          exact cnt (σ 5 0) 0 (by omega)
      exact lots (σ 0 0) 0 0 N (by omega) (Or.inl rfl) (fun _ l' hl' => by omega) (fun y => absurd y (by decide)) (fun l' hl' => by omega) (fun _ _ => rfl) (fun _ _ => rfl)
  have zero : ∀ (m l : Nat) (N : mM), l + m = σ 0 0 → (∀ l', l' < l → N 102 l' = 0) → (∀ p, p ≠ 102 → N p = M3 p) → X_ kk_X11_raise 6 [v_P 79, v_I (l : Int), v_U, v_U, v_U, v_U] [] N (fun r M' => r = k_mis σ (k_rp σ 300) ∧ M' 79 28 = k_rr σ 300 ∧ (∀ l, l < σ 0 0 → M' 102 l = k_rp σ 300 l) ∧ (∀ p, p ≠ 79 → p ≠ 100 → p ≠ 102 → p ≠ 103 → M' p = M p) ∧ ∀ i, i ≠ 28 → M' 79 i = M 79 i) := by
    intro m
    induction m with
    | zero =>
      intro l N hl n1 n2
      have k4 : N 79 4 = σ 0 0 := by rw [n2 79 (by decide), f3 79 (by decide)]; exact h4
      have k8 : N 79 8 = σ 5 0 := by rw [n2 79 (by decide), f3 79 (by decide)]; exact h8
      refine wp_X11_raise_6 ⟨fun _ => ⟨_, km_missingBy (pr := k_rp σ 0) hw rfl (by decide) (by rw [up_slot (by decide)]; exact k4) (by rw [up_slot (by decide)]; exact k8) (WL_of hWL (by rw [up_row (by decide), n2 92 (by decide), f3 92 (by decide)])) (fun b f' hb hf' => by rw [up_row (by decide), n2 100 (by decide)]; exact hD b f' hb hf') (fun l' hl' => by rw [up_row (by decide)]; exact n1 l' (by omega)) (k_ps_rp hw (by omega)), fun r11 M12 _ _ e12 => ?_⟩, fun y => absurd y (by rw [k4]; omega)⟩
      obtain ⟨rfl, g103, f12⟩ := e12
      exact rounds 300 0 M12 (by omega) rfl (by rw [f12 79 (by decide), up_hit]; rfl) (fun l' hl' => by rw [f12 102 (by decide), up_row (by decide)]; exact n1 l' (by omega)) g103 (fun b f' hb hf' => by rw [f12 100 (by decide), up_row (by decide), n2 100 (by decide)]; exact hD b f' hb hf') (fun p p1 p2 p3 p4 => by rw [f12 p p4, up_row p1, n2 p p3, f3 p p2]) (fun i hi => by rw [f12 79 (by decide), up_slot hi, n2 79 (by decide), f3 79 (by decide)])
    | succ m ih =>
      intro l N hl n1 n2
      have k4 : N 79 4 = σ 0 0 := by rw [n2 79 (by decide), f3 79 (by decide)]; exact h4
      refine wp_X11_raise_6 ⟨fun y => absurd y (by rw [k4]; omega), fun _ => ⟨by omega, ⟨by omega, by omega⟩, ?_⟩⟩
      rw [Int.toNat_natCast]
      refine ih (l + 1) _ (by omega) (fun l' hl' => ?_) (fun p hp => by rw [up_row hp]; exact n2 p hp)
      by_cases e : l' = l
      · subst e; exact up_hit
      · rw [up_slot e]; exact n1 l' (by omega)
  exact zero (σ 0 0) 0 M3 (by omega) (fun l' hl' => by omega) (fun _ _ => rfl)
theorem km_raised {σ : St} {M : mM} {w : Int} (hw : Wf σ) (h : MR σ M) : C_ kk_X11_raised [v_P 79, v_I w] M (PM (sp_raised σ w) M) := by
  have hn8 := hw.1
  refine c_intro (by decide) rfl (Nat.le_of_ble_eq_true rfl) (by simp [m_dv, Value.category]) (wp_X11_raised_0 ?_)
  rw [h.1]
  have go : (0 ≤ w ∧ w ≤ 1 ∨ 10 ≤ w ∧ w ≤ 17 ∧ w - 10 < σ 0 0) → ∀ Q : Int → mM → Prop, Q = PM (sp_raised σ w) M → ∃ Qc1 : Int → mM → Prop, C_ kk_X11_layWorths [v_P 79] M Qc1 ∧ ∀ (r2 : Int) (M3 : mM), m_ir r2 → m_okM M3 → Qc1 r2 M3 → ∃ Qc8 : Int → mM → Prop, C_ kk_X11_raise [v_P 79] M3 Qc8 ∧ ∀ (r9 : Int) (M10 : mM), m_ir r9 → m_okM M10 → Qc8 r9 M10 → (¬ w = 0 → (¬ w = 1 → (m_ir (w - 10)) ∧ (0 ≤ (w - 10) ∧ (w - 10) < 8) ∧ Q (M10 102 ((w - 10).toNat)) M10) ∧ (w = 1 → Q r9 M10)) ∧ (w = 0 → Q (M10 79 28) M10) := by
    intro hww Q hQ
    subst hQ
    refine ⟨_, km_layWorths hw h, fun r2 M3 _ _ e3 => ?_⟩
    obtain ⟨hW, f3⟩ := e3
    refine ⟨_, km_raise hw (by rw [f3 79 (by decide)]; exact h.1) (by rw [f3 79 (by decide)]; exact h.2.2.1) hW, fun r9 M10 _ _ e10 => ?_⟩
    obtain ⟨rfl, x1, x3, f10, f79⟩ := e10
    have fr : ∀ x : Int, PM (x, σ) M x M10 := fun x => ⟨rfl, MR_fr h (fun p hp => by rw [f10 p (by omega) (by omega) (by omega) (by omega), f3 p (by omega)]) (fun i hi => by rw [f79 i (by omega), f3 79 (by decide)]), fun p hp => by rw [f10 p (by omega) (by omega) (by omega) (by omega), f3 p (by omega)]⟩
    unfold sp_raised
    rw [if_neg (by omega), if_neg (by omega)]
    refine ⟨fun q => ⟨fun q2 => ⟨⟨by omega, by omega⟩, by omega, ?_⟩, fun q2 => ?_⟩, fun q => ?_⟩
    · rw [if_neg q, if_neg q2, x3 _ (by omega)]; exact fr _
    · rw [if_neg q, if_pos q2]; exact fr _
    · rw [if_pos q, x1]; exact fr _
  have no2 : ¬ (0 ≤ w ∧ w ≤ 1) → ¬ (10 ≤ w ∧ w ≤ 17) → PM (sp_raised σ w) M (-2) M := fun a b => by
    unfold sp_raised
    rw [if_neg (by omega), if_pos (by omega)]
    exact PM_same h
  refine ⟨fun a => ⟨⟨by omega, by omega⟩, by omega, fun b => ⟨fun c => go (by omega) _ rfl, fun c => ⟨fun d => go (by omega) _ rfl, fun d => absurd a d⟩⟩, fun b => ?_⟩, fun a => ⟨fun b => go (by omega) _ rfl, fun b => ⟨fun c => absurd c a, fun _ => no2 b a⟩⟩⟩
  unfold sp_raised
  rw [if_pos (by omega)]
  exact PM_same h
