/-! the reference's DAY: tick by tick the same events -/
def RD (σ : St) (o : Nat → Nat) (D : dD) (M : mM) : Prop :=
  (∀ c, c < 3 → M 98 c = D 0 c ∧ M 99 c = D 1 c) ∧ (∀ b, b < σ 5 0 → M 96 b = D 3 b ∧ M 97 b = D 4 b) ∧
  ∀ p, p < σ 0 0 → (p : Int) < D 0 (σ 2 (o p)) → M 93 (o p) = D 5 (o p) ∧ M 94 (o p) = D 6 (o p) ∧ M 95 (o p) = D 7 (o p)
theorem d_rm_0 {σ : St} {o : Nat → Nat} : ∀ n, n ≤ σ 0 0 → d_rm σ o (d_0 σ o) n = n
  | 0, _ => rfl
  | n + 1, hn => by
    have ih := d_rm_0 (σ := σ) (o := o) n (by omega)
    have hnp := d_np_spec (σ := σ) (o := o) (c := σ 2 (o n)) (p := 0) (Nat.zero_le _)
    have e0 : d_0 σ o 0 (σ 2 (o n)) = d_np σ o (σ 2 (o n)) 0 := rfl
    unfold d_rm
    rw [ih, e0, if_pos]
    rcases Nat.lt_or_ge n (d_np σ o (σ 2 (o n)) 0) with w | w
    · exact absurd rfl (hnp.2.2.2 n (by omega) w)
    · omega
theorem d_rm_eq {σ : St} {o : Nat → Nat} {T : Int} {k : Nat → Int} (hw : Wf σ) (ho : d_or σ o) (hT : 0 ≤ T) : ∀ m, m ≤ σ 0 0 → d_rm σ o (d_go σ o T k m) (σ 0 0) = σ 0 0 - m
  | 0, _ => d_rm_0 _ (Nat.le_refl _)
  | m + 1, hm => by
    have ih := d_rm_eq (k := k) hw ho hT m (by omega)
    have hok := d_ok_go (k := k) hw ho hT m
    unfold d_go
    rcases d_nx_spec (σ := σ) (o := o) (T := T) (k := k) (D := d_go σ o T k m) (n := 3) with ⟨a1, a2⟩ | ⟨a1, a2, a3, a4⟩
    · have z : d_rm σ o (d_go σ o T k m) (σ 0 0) = 0 := by
        have key : ∀ n, n ≤ σ 0 0 → d_rm σ o (d_go σ o T k m) n = 0 := by
          intro n
          induction n with
          | zero => intro _; rfl
          | succ n ihn =>
            intro hn
            have h2 := (hw.2.1 (o n) (ho.1 n (by omega))).2.1
            have h3 := a2 _ h2
            unfold d_rm
            rw [ihn (by omega), if_neg (by omega)]
        exact key _ (Nat.le_refl _)
      omega
    · rw [if_neg (by omega)]
      have e := d_rm_ev (T := T) (k := k) (c := (d_nx σ o T k (d_go σ o T k m) 3).toNat) (by omega) a3 hok (σ 0 0) (Nat.le_refl _)
      rw [if_pos a3] at e
      omega
/-- while lots are left, a clock has one -/
theorem d_nx_on {σ : St} {o : Nat → Nat} {T : Int} {k : Nat → Int} (hw : Wf σ) (ho : d_or σ o) (hT : 0 ≤ T) {m : Nat} (hm : m < σ 0 0) : 0 ≤ d_nx σ o T k (d_go σ o T k m) 3 := by
  rcases d_nx_spec (σ := σ) (o := o) (T := T) (k := k) (D := d_go σ o T k m) (n := 3) with ⟨a1, a2⟩ | ⟨a1, -⟩
  · have h1 := d_rm_eq (k := k) hw ho hT (m + 1) (by omega)
    have h2 := d_rm_eq (k := k) hw ho hT m (by omega)
    have e : d_go σ o T k (m + 1) = d_go σ o T k m := by rw [d_go, if_pos a1]
    rw [e, h2] at h1
    omega
  · exact a1
/-- up to the look of the clock c in the tick t nothing is due -/
def TI (σ : St) (o : Nat → Nat) (T : Int) (k : Nat → Int) (D : dD) (t : Int) (c : Nat) : Prop :=
  ∀ c', c' < 3 → D 0 c' < σ 0 0 → D 2 c' ≤ (if c ≤ c' then t else t + 1) ∧ (if c ≤ c' then t else t + 1) ≤ d_et σ o T k D c'
theorem km_runDay {σ : St} {o : Nat → Nat} {T : Int} {k : Nat → Int} {M : mM} (hw : Wf σ) (ho : d_or σ o) (hT : 0 ≤ T ∧ T ≤ 200) (hk : ∀ b, b < σ 5 0 → 0 ≤ k b ∧ k b ≤ 100) (hM : MD σ o k M) : C_ kk_X11_runDay [v_P 79, v_I T] M (fun _ M' => RD σ o (d_end σ o T k) M' ∧ ∀ p, p < 93 ∨ 100 ≤ p → M' p = M p) := by
  have hn8 := hw.1
  have hnb := hw.2.2.2.1
  have p8 := pow8 hw
  have hbnd : ∀ i : Nat, i ≤ 8 → 0 ≤ (i : Int) * (T + 1) ∧ (i : Int) * (T + 1) ≤ 1608 := fun i hi => by
    have h1 : (i : Int) * (T + 1) ≤ 8 * (T + 1) := Int.mul_le_mul_of_nonneg_right (by omega) (by omega)
    have h2 : 0 ≤ (i : Int) * (T + 1) := Int.mul_nonneg (by omega) (by omega)
    omega
  -- while lots are left, the tick is small
  have small : ∀ (i : Nat) (t : Int) (c : Nat), i < σ 0 0 → TI σ o T k (d_go σ o T k i) t c → t ≤ 1900 := by
    intro i t c hi hti
    have hok := d_ok_go (k := k) hw ho hT.1 i
    have hb := hbnd i (by omega)
    have hon := d_nx_on (k := k) hw ho hT.1 hi
    rcases d_nx_spec (σ := σ) (o := o) (T := T) (k := k) (D := d_go σ o T k i) (n := 3) with ⟨a1, a2⟩ | ⟨a1, a2, a3, a4⟩
    · omega
    · have h3 : (d_nx σ o T k (d_go σ o T k i) 3).toNat < 3 := by omega
      have g := hti _ h3 a3
      have d := hok.1 _ h3
      have e := (d_en_le (σ := σ) (o := o) (T := T) (k := k) (D := d_go σ o T k i) (c := (d_nx σ o T k (d_go σ o T k i) 3).toNat) hT.1 d.2.2.2.2.1).2.2.2
      have g2 := g.2
      split at g2 <;> omega
  have main : ∀ (f i : Nat) (t : Int) (c : Nat) (N : mM), i ≤ σ 0 0 → 0 ≤ t → t ≤ 2000 → c ≤ 3 → (2000 - t) * 4 + (3 - (c : Int)) < f → RD σ o (d_go σ o T k i) N → TI σ o T k (d_go σ o T k i) t c → (∀ p, p < 93 ∨ 100 ≤ p → N p = M p) → X_ kk_X11_runDay 81 [v_P 79, v_I T, v_I ((σ 0 0 : Int) - i), v_I t, v_I (c : Int), v_U, v_U, v_U] [] N (fun _ M' => RD σ o (d_end σ o T k) M' ∧ ∀ p, p < 93 ∨ 100 ≤ p → M' p = M p) := by
    intro f
    induction f with
    | zero => intro i t c N hi ht0 ht hc hf; omega
    | succ f ih =>
      intro i t c N hi ht0 ht hc hf hRD hTI hfr
      have hMN : MD σ o k N := MD_of hM hfr
      have it1 : m_ir (t + 1) := ⟨by omega, by omega⟩
      refine wp_X11_runDay_81 ⟨fun y => ⟨it1, ?_⟩, fun y => ?_⟩
      · -- the next tick
        refine wp_X11_runDay_74 ⟨fun z => ?_, fun z => ?_⟩
        · have : i = σ 0 0 := by omega
          subst this
          exact ⟨hRD, hfr⟩
        · have hTI' : TI σ o T k (d_go σ o T k i) (t + 1) 0 := fun c' hc' ha => by
            have g := hTI c' hc' ha
            rw [if_neg (by omega)] at g
            rw [if_pos (by omega)]
            exact g
          have := small i (t + 1) 0 (by omega) hTI'
          exact ih i (t + 1) 0 N hi (by omega) (by omega) (by omega) (by omega) hRD hTI' hfr
      · have hc3 : c < 3 := by omega
        have ic1 : m_ir ((c : Int) + 1) := ⟨by omega, by omega⟩
        have hok := d_ok_go (k := k) hw ho hT.1 i
        have hb8 := hbnd i (by omega)
        have hgo : d_go σ o T k (i + 1) = if d_nx σ o T k (d_go σ o T k i) 3 < 0 then d_go σ o T k i else d_ev σ o T k (d_go σ o T k i) (d_nx σ o T k (d_go σ o T k i) 3).toNat := rfl
        have hok1 := d_ok_go (k := k) hw ho hT.1 (i + 1)
        have hon := d_nx_on (k := k) hw ho hT.1 (m := i)
        have hin : d_go σ o T k i 0 c < σ 0 0 → i < σ 0 0 := by
          intro ha
          rcases Nat.lt_or_ge i (σ 0 0) with w | w
          · exact w
          · have ei : i = σ 0 0 := by omega
            have d0 := hok.1 c hc3
            have hd := d_done (k := k) hw ho hT.1 (d_go σ o T k i 0 c).toNat (by omega)
            unfold d_end at hd
            rw [← ei, d0.2.2.1 ha] at hd
            omega
        have ihi := ih i t (c + 1) N hi ht0 ht (by omega) (by omega) hRD
        generalize hDD : d_go σ o T k i = D at hRD hTI hok hgo hon hin ihi
        obtain ⟨r1, r2, r3⟩ := hRD
        obtain ⟨r98, r99⟩ := r1 c hc3
        obtain ⟨d1, d2, d3, d4, d5, d6⟩ := hok.1 c hc3
        rw [Int.toNat_natCast, hMN.1, r98, r99]
        refine ⟨by omega, fun z => ⟨ic1, ?_⟩, fun z => ?_⟩
        · refine ihi (fun c' hc' ha => ?_) hfr
          have g := hTI c' hc' ha
          by_cases e : c' = c
          · subst e; omega
          · by_cases w : c ≤ c'
            · rw [if_pos w] at g
              rw [if_pos (by omega)]
              exact g
            · rw [if_neg w] at g
              rw [if_neg (by omega)]
              exact g
        · have ha : D 0 c < σ 0 0 := by omega
          have hi' := hin ha
          have hp : (D 0 c).toNat < σ 0 0 := by omega
          have hl := ho.1 _ hp
          have h83 := (hMN.2.1 _ hp).2.2
          have h82 := (hMN.2.1 _ hl).2.1
          have hls := (hw.2.1 _ hl).2.2.1
          obtain ⟨t1, t2⟩ := hTI c hc3 ha
          rw [if_pos (Nat.le_refl _)] at t1 t2
          rw [h83]
          refine ⟨by omega, fun w => absurd w (by omega), fun _ => ⟨by omega, by omega, by omega, ⟨by omega, by omega⟩, ⟨by omega, by omega⟩, _, km_presser (c := c) (v := T - (t - D 1 c)) hw ho hMN hk ⟨d1, ha⟩ (fun b hb => ⟨(r2 b hb).1, (r2 b hb).2, (hok.2.1 b (by omega)).1, (hok.2.1 b (by omega)).2.1⟩), fun r12 M13 _ _ e13 => ?_⟩⟩
          obtain ⟨e13a, e13b⟩ := e13
          subst e13a
          rw [Int.toNat_natCast, h82]
          have hms := m_pr_spec (σ := σ) (o := o) (k := k) (D := D) (c := c) (v := T - (t - D 1 c)) (σ 5 0)
          have hhi := d_hi_iff (σ := σ) (o := o) (k := k) (D := D) (c := c) (v := T - (t - D 1 c))
          rw [← e13b] at hms
          have een : d_en σ o T k D c = min (T - (D 2 c - D 1 c)) (d_hi σ o k D c (σ 5 0)) := rfl
          have eet : d_et σ o T k D c = D 1 c + T - d_en σ o T k D c := rfl
          -- the event
          have event : (0 ≤ r12 ∨ T - (t - D 1 c) ≤ (σ 3 (o (D 0 c).toNat) : Int)) → ∃ Qc18 : Int → mM → Prop, C_ kk_X11_sell [v_P 79, v_I (o (D 0 c).toNat : Int), v_I r12, v_I (T - (t - D 1 c)), v_I t] M13 Qc18 ∧ ∀ (r19 : Int) (M20 : mM), m_ir r19 → m_okM M20 → Qc18 r19 M20 → (0 ≤ (c : Int) ∧ (c : Int) < 3) ∧ (m_ir ((M20 98 c) + 1)) ∧ ∃ Qc27 : Int → mM → Prop, C_ kk_X11_nextPlace [v_P 79, v_I (c : Int), v_I ((M20 98 c) + 1)] M20 Qc27 ∧ ∀ (r28 : Int) (M29 : mM), m_ir r28 → m_okM M29 → Qc27 r28 M29 → (0 ≤ (c : Int) ∧ (c : Int) < 3) ∧ (m_ir (t + 1)) ∧ (0 ≤ (c : Int) ∧ (c : Int) < 3) ∧ (m_ir (((σ 0 0 : Int) - i) + (-1))) ∧ (m_ir ((c : Int) + 1)) ∧ X_ kk_X11_runDay 81 [v_P 79, v_I T, v_I (((σ 0 0 : Int) - i) + (-1)), v_I t, v_I ((c : Int) + 1), v_U, v_U, v_U] [] (m_up (m_up M29 98 c r28) 99 c (t + 1)) (fun _ M' => RD σ o (d_end σ o T k) M' ∧ ∀ p, p < 93 ∨ 100 ≤ p → M' p = M p) := by
            intro hev
            have hle : T - (t - D 1 c) ≤ d_hi σ o k D c (σ 5 0) := by
              rw [hhi]
              rcases hev with w | w
              · rcases hms with ⟨a1, -⟩ | ⟨a1, a2, a3⟩
                · omega
                · exact Or.inr ⟨r12.toNat, by omega, a3⟩
              · exact Or.inl w
            have hett : d_et σ o T k D c = t := by omega
            have henv : d_en σ o T k D c = T - (t - D 1 c) := by omega
            have hr : r12 = d_pr σ o T k D c (σ 5 0) := by rw [e13b, ← henv, m_pr_en]
            have hnx : d_nx σ o T k D 3 = c := by
              rcases d_nx_spec (σ := σ) (o := o) (T := T) (k := k) (D := D) (n := 3) with ⟨a1, a2⟩ | ⟨a1, a2, a3, a4⟩
              · exact absurd ha (a2 c hc3)
              · obtain ⟨x, ex⟩ := nat_of a1
                rw [ex] at a2 a4 ⊢
                rw [ex] at a3
                rw [Int.toNat_natCast] at a3
                simp only [Int.toNat_natCast] at a4
                have q := a4 c hc3 ha
                have u := (hTI x (by omega) a3).2
                by_cases w : c ≤ x
                · rw [if_pos w] at u; omega
                · rw [if_neg w] at u; omega
            rw [hnx, if_neg (by omega), Int.toNat_natCast] at hgo
            have hD1 : (d_ev σ o T k D c) = d_go σ o T k (i + 1) := hgo.symm
            have hpr := d_pr_spec (σ := σ) (o := o) (T := T) (k := k) (D := D) (c := c) (σ 5 0)
            rw [← hr, henv] at hpr
            have hr6 : r12 < 6 := by omega
            have hv : 0 ≤ r12 → 0 ≤ T - (t - D 1 c) ∧ T - (t - D 1 c) ≤ M13 97 r12.toNat ∧ M13 97 r12.toNat ≤ 1000 ∧ 0 ≤ M13 96 r12.toNat ∧ M13 96 r12.toNat < 256 := by
              intro w
              rcases hpr with y' | ⟨y1, y2, y3, y4⟩
              · omega
              · have hb5 : r12.toNat < σ 5 0 := by omega
                have gb := hok.2.1 r12.toNat (by omega)
                have hre := (d_re_le (σ := σ) (o := o) (k := k) (D := D) (c := c) gb.2.2.1).2
                have hcoin := (hw.2.2.2.2.1 r12.toNat (by omega)).1
                rw [(r2 _ hb5).1, (r2 _ hb5).2]
                omega
            refine ⟨_, km_sell (by omega) hr6 hv, fun r19 M20 _ _ e20 => ?_⟩
            have f20 : ∀ p, p < 93 ∨ 98 ≤ p → M20 p = M13 p := fun p hp => by
              rw [e20]
              split
              · simp (disch := omega) only [up_row]
              · simp (disch := omega) only [up_row]
            have e98 : M20 98 c = D 0 c := by rw [f20 98 (by omega)]; exact r98
            have hM20 : MD σ o k M20 := MD_of hM (fun p hp => by rw [f20 p (by omega)]; exact hfr p hp)
            rw [e98, show D 0 c + 1 = (((D 0 c).toNat + 1 : Nat) : Int) by omega]
            refine ⟨by omega, ⟨by omega, by omega⟩, _, km_nextPlace hw ho hM20 (by omega), fun r28 M29 _ _ e29 => ⟨by omega, it1, by omega, ⟨by omega, by omega⟩, ic1, ?_⟩⟩
            obtain ⟨e29a, rfl⟩ := e29
            subst e29a
            have hnp := d_np_spec (σ := σ) (o := o) (c := c) (p := (D 0 c).toNat + 1) (by omega)
            have goal := ih (i + 1) t (c + 1) (m_up (m_up M29 98 c (d_np σ o c ((D 0 c).toNat + 1))) 99 c (t + 1)) (by omega) ht0 ht (by omega) (by omega)
            rw [hgo] at goal
            rw [show ((σ 0 0 : Int) - i) + (-1) = (σ 0 0 : Int) - ((i + 1 : Nat) : Int) by omega]
            refine goal ⟨fun c' hc' => ?_, fun b hb => ?_, fun p hp' hs => ?_⟩ (fun c' hc' ha' => ?_) (fun p hp' => ?_)
            · rw [ev_0, ev_1, hett]
              by_cases e : c' = c
              · subst e
                simp only [if_true]
                exact ⟨by simp (disch := omega) only [up_row, up_slot, up_hit, su_row, su_slot, su_hit], by simp (disch := omega) only [up_row, up_slot, up_hit, su_row, su_slot, su_hit]⟩
              · rw [if_neg e, if_neg e]
                refine ⟨?_, ?_⟩
                · rw [up_row (by omega), up_slot e, f20 98 (by omega)]; exact (r1 c' hc').1
                · rw [up_slot e, up_row (by omega), f20 99 (by omega)]; exact (r1 c' hc').2
            · rw [ev_3, ev_4, ← hr, henv]
              rw [up_row (by omega), up_row (by omega), up_row (by omega), up_row (by omega), e20]
              obtain ⟨s1, s2⟩ := r2 b hb
              by_cases e : (b : Int) = r12
              · rw [if_pos e, if_pos e]
                have eb : r12.toNat = b := by omega
                rw [if_neg (by omega), eb]
                refine ⟨?_, ?_⟩
                · rw [up_row (by omega), up_hit, s1]
                · rw [up_hit, s2]
              · rw [if_neg e, if_neg e, ← s1, ← s2]
                by_cases w : r12 < 0
                · rw [if_pos w]
                  exact ⟨by simp (disch := omega) only [up_row, up_slot, up_hit, su_row, su_slot, su_hit], by simp (disch := omega) only [up_row, up_slot, up_hit, su_row, su_slot, su_hit]⟩
                · rw [if_neg w]
                  have nb : b ≠ r12.toNat := by omega
                  exact ⟨by simp (disch := omega) only [up_row, up_slot, up_hit, su_row, su_slot, su_hit], by simp (disch := omega) only [up_row, up_slot, up_hit, su_row, su_slot, su_hit]⟩
            · have e93 : ∀ l, l ≠ o (D 0 c).toNat → M29 93 l = M13 93 l ∧ M29 94 l = M13 94 l ∧ M29 95 l = M13 95 l := fun l hne => by
                rw [e20]
                by_cases w : r12 < 0
                · rw [if_pos w]
                  exact ⟨by simp (disch := omega) only [up_row, up_slot, up_hit, su_row, su_slot, su_hit], by simp (disch := omega) only [up_row, up_slot, up_hit, su_row, su_slot, su_hit], by simp (disch := omega) only [up_row, up_slot, up_hit, su_row, su_slot, su_hit]⟩
                · rw [if_neg w]
                  exact ⟨by simp (disch := omega) only [up_row, up_slot, up_hit, su_row, su_slot, su_hit], by simp (disch := omega) only [up_row, up_slot, up_hit, su_row, su_slot, su_hit], by simp (disch := omega) only [up_row, up_slot, up_hit, su_row, su_slot, su_hit]⟩
              have e93' : M29 93 (o (D 0 c).toNat) = r12 ∧ M29 94 (o (D 0 c).toNat) = (if r12 < 0 then -6 else T - (t - D 1 c)) ∧ M29 95 (o (D 0 c).toNat) = t := by
                rw [e20]
                by_cases w : r12 < 0
                · rw [if_pos w, if_pos w]
                  exact ⟨by simp (disch := omega) only [up_row, up_slot, up_hit, su_row, su_slot, su_hit], by simp (disch := omega) only [up_row, up_slot, up_hit, su_row, su_slot, su_hit], by simp (disch := omega) only [up_row, up_slot, up_hit, su_row, su_slot, su_hit]⟩
                · rw [if_neg w, if_neg w]
                  exact ⟨by simp (disch := omega) only [up_row, up_slot, up_hit, su_row, su_slot, su_hit], by simp (disch := omega) only [up_row, up_slot, up_hit, su_row, su_slot, su_hit], by simp (disch := omega) only [up_row, up_slot, up_hit, su_row, su_slot, su_hit]⟩
              rw [ev_5, ev_6, ev_7, ← hr, henv, hett, up_row (by omega), up_row (by omega), up_row (by omega), up_row (by omega), up_row (by omega), up_row (by omega)]
              by_cases e : o p = o (D 0 c).toNat
              · rw [if_pos e, if_pos e, if_pos e, e]
                exact e93'
              · rw [if_neg e, if_neg e, if_neg e, (e93 _ e).1, (e93 _ e).2.1, (e93 _ e).2.2]
                refine r3 p hp' ?_
                rw [ev_0] at hs
                by_cases w : σ 2 (o p) = c
                · rw [if_pos w] at hs
                  rw [w]
                  have hne : p ≠ (D 0 c).toNat := fun w => e (by rw [w])
                  rcases Nat.lt_or_ge p (D 0 c).toNat with w' | w'
                  · omega
                  · exact absurd w (hnp.2.2.2 p (by omega) (by omega))
                · rw [if_neg w] at hs
                  exact hs
            · have hok' := hok1.1 c' hc'
              rw [hgo] at hok'
              have hde := (d_en_le (σ := σ) (o := o) (T := T) (k := k) (D := d_ev σ o T k D c) (c := c') hT.1 hok'.2.2.2.2.1).2.2.1
              have e2 : d_ev σ o T k D c 2 c' = if c' = c then t + 1 else max (D 2 c') (if c' < c then t + 1 else t) := by rw [ev_2, hett]
              rw [e2] at hde ⊢
              by_cases e : c' = c
              · rw [if_pos e] at hde ⊢
                rw [if_neg (by omega)]
                exact ⟨by omega, hde⟩
              · rw [if_neg e] at hde ⊢
                have ha2 : D 0 c' < σ 0 0 := by
                  rw [ev_0, if_neg e] at ha'
                  exact ha'
                have u := (hTI c' hc' ha2).1
                by_cases w : c' < c
                · rw [if_pos w] at hde ⊢
                  rw [if_neg (by omega)] at u ⊢
                  exact ⟨by omega, by omega⟩
                · rw [if_neg w] at hde ⊢
                  rw [if_pos (by omega)] at u ⊢
                  exact ⟨by omega, by omega⟩
            · rw [up_row (by omega), up_row (by omega), f20 p (by omega)]
              exact hfr p hp'
          refine ⟨fun q => event (Or.inl q), fun q => ⟨by omega, fun q2 => ⟨ic1, ?_⟩, fun q2 => event (Or.inr (by omega))⟩⟩
          refine ihi (fun c' hc' ha' => ?_) hfr
          have g := hTI c' hc' ha'
          by_cases e : c' = c
          · subst e
            rw [if_neg (by omega)]
            have hno : ¬ T - (t - D 1 c') ≤ d_hi σ o k D c' (σ 5 0) := by
              rw [hhi]
              rintro (w | ⟨b, hb, w⟩)
              · omega
              · rcases hms with ⟨a1, a2⟩ | ⟨a1, -⟩
                · exact a2 b hb ⟨by omega, w⟩
                · omega
            exact ⟨by omega, by omega⟩
          · by_cases w : c ≤ c'
            · rw [if_pos w] at g
              rw [if_pos (by omega)]
              exact g
            · rw [if_neg w] at g
              rw [if_neg (by omega)]
              exact g
  -- the start
  refine c_intro (by decide) rfl (Nat.le_of_ble_eq_true rfl) (by simp [m_dv, Value.category]) (wp_X11_runDay_0 ?_)
  have st2 : ∀ (m c : Nat) (N : mM), c + m = 3 → (∀ c', c' < c → N 98 c' = d_np σ o c' 0 ∧ N 99 c' = 0) → (∀ b, b < σ 5 0 → N 96 b = 0 ∧ N 97 b = σ 6 b) → (∀ p, p < 93 ∨ 100 ≤ p → N p = M p) → X_ kk_X11_runDay 37 [v_P 79, v_I T, v_I (c : Int), v_U, v_U, v_U, v_U, v_U] [] N (fun _ M' => RD σ o (d_end σ o T k) M' ∧ ∀ p, p < 93 ∨ 100 ≤ p → M' p = M p) := by
    intro m
    induction m with
    | zero =>
      intro c N hc h1 h2 h3
      refine wp_X11_runDay_37 ⟨fun _ => ?_, fun y => absurd y (by omega)⟩
      have hMN : MD σ o k N := MD_of hM h3
      have hRD : RD σ o (d_go σ o T k 0) N := by
        refine ⟨fun c' hc' => h1 c' (by omega), fun b hb => h2 b hb, fun p hp hs => ?_⟩
        have e0 : d_go σ o T k 0 0 (σ 2 (o p)) = d_np σ o (σ 2 (o p)) 0 := rfl
        rw [e0] at hs
        exact absurd rfl ((d_np_spec (σ := σ) (o := o) (c := σ 2 (o p)) (p := 0) (Nat.zero_le _)).2.2.2 p (by omega) (by omega))
      rw [hMN.1]
      refine wp_X11_runDay_74 ⟨fun z => ?_, fun z => ?_⟩
      · refine ⟨?_, h3⟩
        unfold d_end
        rw [show σ 0 0 = 0 by omega]
        exact hRD
      · have e := main 9000 0 0 0 N (by omega) (by omega) (by omega) (by omega) (by omega) hRD (fun c' hc' ha => ?_) h3
        · rw [show (σ 0 0 : Int) - ((0 : Nat) : Int) = σ 0 0 by omega] at e
          exact e
        · have d := (d_ok_go (k := k) hw ho hT.1 0).1 c' hc'
          have de := (d_en_le (σ := σ) (o := o) (T := T) (k := k) (D := d_go σ o T k 0) (c := c') hT.1 d.2.2.2.2.1).2.2.1
          have e2 : d_go σ o T k 0 2 c' = 0 := rfl
          rw [e2] at de ⊢
          rw [if_pos (by omega)]
          exact ⟨by omega, de⟩
    | succ m ih =>
      intro c N hc h1 h2 h3
      have hMN : MD σ o k N := MD_of hM h3
      refine wp_X11_runDay_37 ⟨fun y => absurd y (by omega), fun _ => ⟨_, km_nextPlace (f := 0) hw ho hMN (by omega), fun r2 M3 _ _ e3 => ⟨by omega, by omega, ⟨by omega, by omega⟩, ?_⟩⟩⟩
      obtain ⟨e3a, rfl⟩ := e3
      subst e3a
      rw [Int.toNat_natCast]
      refine ih (c + 1) _ (by omega) (fun c' hc' => ?_) (fun b hb => by simp (disch := omega) only [up_row, up_slot, up_hit, su_row, su_slot, su_hit]; exact h2 b hb) (fun p hp => by simp (disch := omega) only [up_row, up_slot, up_hit, su_row, su_slot, su_hit]; exact h3 p hp)
      by_cases e : c' = c
      · subst e
        exact ⟨by simp (disch := omega) only [up_row, up_slot, up_hit, su_row, su_slot, su_hit], by simp (disch := omega) only [up_row, up_slot, up_hit, su_row, su_slot, su_hit]⟩
      · refine ⟨?_, ?_⟩
        · simp (disch := omega) only [up_row, up_slot, up_hit, su_row, su_slot, su_hit]; exact (h1 c' (by omega)).1
        · simp (disch := omega) only [up_row, up_slot, up_hit, su_row, su_slot, su_hit]; exact (h1 c' (by omega)).2
  have st1 : ∀ (m b : Nat) (N : mM), b + m = σ 5 0 → (∀ b', b' < b → N 96 b' = 0 ∧ N 97 b' = σ 6 b') → (∀ p, p < 93 ∨ 100 ≤ p → N p = M p) → X_ kk_X11_runDay 2 [v_P 79, v_I T, v_I (b : Int), v_U, v_U, v_U, v_U, v_U] [] N (fun _ M' => RD σ o (d_end σ o T k) M' ∧ ∀ p, p < 93 ∨ 100 ≤ p → M' p = M p) := by
    intro m
    induction m with
    | zero =>
      intro b N hb h1 h3
      have hMN : MD σ o k N := MD_of hM h3
      refine wp_X11_runDay_2 ⟨fun _ => st2 3 0 N (by omega) (fun c' hc' => by omega) (fun b' hb' => h1 b' (by omega)) h3, fun y => absurd y (by rw [hMN.2.2.1]; omega)⟩
    | succ m ih =>
      intro b N hb h1 h3
      have hMN : MD σ o k N := MD_of hM h3
      refine wp_X11_runDay_2 ⟨fun y => absurd y (by rw [hMN.2.2.1]; omega), fun _ => ⟨by omega, by omega, by omega, ⟨by omega, by omega⟩, ?_⟩⟩
      rw [Int.toNat_natCast, (hMN.2.2.2.1 b (by omega)).1]
      refine ih (b + 1) _ (by omega) (fun b' hb' => ?_) (fun p hp => by simp (disch := omega) only [up_row, up_slot, up_hit, su_row, su_slot, su_hit]; exact h3 p hp)
      by_cases e : b' = b
      · subst e
        exact ⟨by simp (disch := omega) only [up_row, up_slot, up_hit, su_row, su_slot, su_hit], by simp (disch := omega) only [up_row, up_slot, up_hit, su_row, su_slot, su_hit]⟩
      · refine ⟨?_, ?_⟩
        · simp (disch := omega) only [up_row, up_slot, up_hit, su_row, su_slot, su_hit]; exact (h1 b' (by omega)).1
        · simp (disch := omega) only [up_row, up_slot, up_hit, su_row, su_slot, su_hit]; exact (h1 b' (by omega)).2
  exact st1 (σ 5 0) 0 M (by omega) (fun b' hb' => by omega) (fun _ _ => rfl)
