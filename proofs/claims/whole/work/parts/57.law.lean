/-! the law: what holds at its loop's head, and each call -/
def IN (M : mM) : Prop := ∃ σ, Wf σ ∧ Wf2 σ ∧ CR σ M ∧ MR σ M ∧ KO σ M ∧ KB σ M
theorem lw_join {z : Int × St} {M9 M22 : mM} {r r2 : Int} {P R : Prop} (hw : Wf z.2) (hw2 : Wf2 z.2) (er : r = z.1) (eC : CR z.2 M9) (eK : KO z.2 M9 ∧ KB z.2 M9) (e2 : PM z M9 r2 M22) (h : IN M22 → P) : (r = r2 → P) ∧ (¬ r = r2 → R) :=
  ⟨fun _ => h ⟨z.2, hw, hw2, CR_of eC e2.2.2, e2.2.1, KO_of rfl (fun p _ h2 => e2.2.2 p (by omega)) eK.1, KB_of rfl (e2.2.2 74 (by decide)) eK.2⟩, fun n => absurd (er.trans e2.1.symm) n⟩
theorem nz_say {σ : St} {c : Int} : nz (sp_say σ c).2 = nz σ := by
  unfold sp_say
  split
  · rfl
  · split
    · rfl
    · exact nz_of (fun f _ h2 => by simp (disch := omega) only [up_row, up_slot, up_hit, su_row, su_slot, su_hit])
theorem nz_wipe {σ : St} : nz (sp_wipe σ).2 = nz σ := nz_of (τ := s_up σ 17 0 0) (fun f _ h2 => by simp (disch := omega) only [up_row, up_slot, up_hit, su_row, su_slot, su_hit])
theorem nz_unlearn {σ : St} : nz (sp_unlearn σ).2 = nz σ := nz_of (τ := s_up σ 15 0 0) (fun f _ h2 => by simp (disch := omega) only [up_row, up_slot, up_hit, su_row, su_slot, su_hit])
theorem nz_price {σ : St} {l v : Int} : nz (sp_price σ l v).2 = nz σ := by
  unfold sp_price
  split
  · rfl
  · split
    · rfl
    · exact nz_of (fun f _ h2 => by simp (disch := omega) only [up_row, up_slot, up_hit, su_row, su_slot, su_hit])
theorem nz_lesson {σ : St} {v : Int} : nz (sp_lesson σ v).2 = nz σ := by
  unfold sp_lesson
  split
  · rfl
  · split
    · rfl
    · exact nz_of (fun f _ h2 => by simp (disch := omega) only [up_row, up_slot, up_hit, su_row, su_slot, su_hit])
theorem nz_swap {σ : St} {a b : Int} : nz (sp_swap σ a b).2 = nz σ := by
  unfold sp_swap
  split
  · rfl
  · exact nz_of (τ := s_sw σ a.toNat b.toNat) (fun f h1 h2 => sw_row h1)
theorem lc_164 {x3 : Int} {L : Nat} {xs : Nat → Int} {M : mM} {Q : Int → mM → Prop} (hxs : ∀ j, m_ir (xs j)) (hL2 : L ≤ 2048) (hx : 0 ≤ x3 ∧ x3 + 3 < L) (hI : IN M) (h : ∀ M', IN M' → X_ (kk_L_law L xs) 951 [v_S, v_P 0, v_P 79, v_I x3] [] M' Q) : X_ (kk_L_law L xs) 164 [v_S, v_P 0, v_P 79, v_I x3] [] M Q := by
  obtain ⟨σ, hw, hw2, hC, hM, hO, hB⟩ := hI
  exact wp_L_law_164 hxs hL2 ⟨⟨by omega, by omega⟩, ⟨by omega, by omega⟩, ⟨by omega, by omega⟩, ⟨by omega, by omega⟩, ⟨by omega, by omega⟩, ⟨by omega, by omega⟩, _, kd_lot hw hC, fun r M9 _ _ e => ⟨⟨by omega, by omega⟩, ⟨by omega, by omega⟩, ⟨by omega, by omega⟩, ⟨by omega, by omega⟩, ⟨by omega, by omega⟩, ⟨by omega, by omega⟩, _, km_lot hw (MR_of hM e.2.2.1), fun r2 M22 _ _ e2 => lw_join (z := sp_lot σ (xs (x3 + 1).toNat) (xs (x3 + 2).toNat) (xs (x3 + 3).toNat)) (wf_lot hw) (v2_lot hw2) e.1 e.2.1 (KK_pd e hO hB) e2 (h M22)⟩⟩
theorem lc_207 {x3 : Int} {L : Nat} {xs : Nat → Int} {M : mM} {Q : Int → mM → Prop} (hxs : ∀ j, m_ir (xs j)) (hL2 : L ≤ 2048) (hx : 0 ≤ x3 ∧ x3 + 3 < L) (hI : IN M) (h : ∀ M', IN M' → X_ (kk_L_law L xs) 951 [v_S, v_P 0, v_P 79, v_I x3] [] M' Q) : X_ (kk_L_law L xs) 207 [v_S, v_P 0, v_P 79, v_I x3] [] M Q := by
  obtain ⟨σ, hw, hw2, hC, hM, hO, hB⟩ := hI
  exact wp_L_law_207 hxs hL2 ⟨_, kd_buyer hC, fun r M9 _ _ e => ⟨_, km_buyer hw (MR_of hM e.2.2.1), fun r2 M22 _ _ e2 => lw_join (z := sp_buyer σ ) (wf_buyer hw) (v2_buyer hw2) e.1 e.2.1 (KK_pd e hO hB) e2 (h M22)⟩⟩
theorem lc_220 {x3 : Int} {L : Nat} {xs : Nat → Int} {M : mM} {Q : Int → mM → Prop} (hxs : ∀ j, m_ir (xs j)) (hL2 : L ≤ 2048) (hx : 0 ≤ x3 ∧ x3 + 3 < L) (hI : IN M) (h : ∀ M', IN M' → X_ (kk_L_law L xs) 951 [v_S, v_P 0, v_P 79, v_I x3] [] M' Q) : X_ (kk_L_law L xs) 220 [v_S, v_P 0, v_P 79, v_I x3] [] M Q := by
  obtain ⟨σ, hw, hw2, hC, hM, hO, hB⟩ := hI
  exact wp_L_law_220 hxs hL2 ⟨⟨by omega, by omega⟩, ⟨by omega, by omega⟩, ⟨by omega, by omega⟩, ⟨by omega, by omega⟩, ⟨by omega, by omega⟩, ⟨by omega, by omega⟩, _, kd_set hw hC, fun r M9 _ _ e => ⟨⟨by omega, by omega⟩, ⟨by omega, by omega⟩, ⟨by omega, by omega⟩, ⟨by omega, by omega⟩, ⟨by omega, by omega⟩, ⟨by omega, by omega⟩, _, km_set hw (MR_of hM e.2.2.1), fun r2 M22 _ _ e2 => lw_join (z := sp_set σ (xs (x3 + 1).toNat) (xs (x3 + 2).toNat) (xs (x3 + 3).toNat)) (wf_set hw) (v2_set hw2) e.1 e.2.1 (KK_pd e hO hB) e2 (h M22)⟩⟩
theorem lc_263 {x3 : Int} {L : Nat} {xs : Nat → Int} {M : mM} {Q : Int → mM → Prop} (hxs : ∀ j, m_ir (xs j)) (hL2 : L ≤ 2048) (hx : 0 ≤ x3 ∧ x3 + 3 < L) (hI : IN M) (h : ∀ M', IN M' → X_ (kk_L_law L xs) 951 [v_S, v_P 0, v_P 79, v_I x3] [] M' Q) : X_ (kk_L_law L xs) 263 [v_S, v_P 0, v_P 79, v_I x3] [] M Q := by
  obtain ⟨σ, hw, hw2, hC, hM, hO, hB⟩ := hI
  exact wp_L_law_263 hxs hL2 ⟨⟨by omega, by omega⟩, ⟨by omega, by omega⟩, _, kc_say hC, fun r M9 _ _ e => ⟨⟨by omega, by omega⟩, ⟨by omega, by omega⟩, _, km_say hw (MR_of hM e.2.2.1), fun r2 M22 _ _ e2 => lw_join (z := sp_say σ (xs (x3 + 1).toNat)) (wf_say hw) (v2_say hw2) e.1 e.2.1 (KK_fr nz_say e.2.2.2 hO hB) e2 (h M22)⟩⟩
theorem lc_286 {x3 : Int} {L : Nat} {xs : Nat → Int} {M : mM} {Q : Int → mM → Prop} (hxs : ∀ j, m_ir (xs j)) (hL2 : L ≤ 2048) (hx : 0 ≤ x3 ∧ x3 + 3 < L) (hI : IN M) (h : ∀ M', IN M' → X_ (kk_L_law L xs) 951 [v_S, v_P 0, v_P 79, v_I x3] [] M' Q) : X_ (kk_L_law L xs) 286 [v_S, v_P 0, v_P 79, v_I x3] [] M Q := by
  obtain ⟨σ, hw, hw2, hC, hM, hO, hB⟩ := hI
  exact wp_L_law_286 hxs hL2 ⟨_, kc_wipe hC, fun r M9 _ _ e => ⟨_, km_wipe (MR_of hM e.2.2.1), fun r2 M22 _ _ e2 => lw_join (z := sp_wipe σ ) (wf_wipe hw) (v2_wipe hw2) e.1 e.2.1 (KK_fr nz_wipe e.2.2.2 hO hB) e2 (h M22)⟩⟩
theorem lc_299 {x3 : Int} {L : Nat} {xs : Nat → Int} {M : mM} {Q : Int → mM → Prop} (hxs : ∀ j, m_ir (xs j)) (hL2 : L ≤ 2048) (hx : 0 ≤ x3 ∧ x3 + 3 < L) (hI : IN M) (h : ∀ M', IN M' → X_ (kk_L_law L xs) 951 [v_S, v_P 0, v_P 79, v_I x3] [] M' Q) : X_ (kk_L_law L xs) 299 [v_S, v_P 0, v_P 79, v_I x3] [] M Q := by
  obtain ⟨σ, hw, hw2, hC, hM, hO, hB⟩ := hI
  exact wp_L_law_299 hxs hL2 ⟨_, kc_fault hw hC, fun r M9 _ _ e => ⟨_, km_fault hw (MR_of hM e.2.2.1), fun r2 M22 _ _ e2 => lw_join (z := sp_fault σ ) hw hw2 e.1 e.2.1 (KK_fr rfl e.2.2.2 hO hB) e2 (h M22)⟩⟩
theorem lc_312 {x3 : Int} {L : Nat} {xs : Nat → Int} {M : mM} {Q : Int → mM → Prop} (hxs : ∀ j, m_ir (xs j)) (hL2 : L ≤ 2048) (hx : 0 ≤ x3 ∧ x3 + 3 < L) (hI : IN M) (h : ∀ M', IN M' → X_ (kk_L_law L xs) 951 [v_S, v_P 0, v_P 79, v_I x3] [] M' Q) : X_ (kk_L_law L xs) 312 [v_S, v_P 0, v_P 79, v_I x3] [] M Q := by
  obtain ⟨σ, hw, hw2, hC, hM, hO, hB⟩ := hI
  exact wp_L_law_312 hxs hL2 ⟨⟨by omega, by omega⟩, ⟨by omega, by omega⟩, _, kd_wish hw hC, fun r M9 _ _ e => ⟨⟨by omega, by omega⟩, ⟨by omega, by omega⟩, _, km_wish hw (MR_of hM e.2.2.1), fun r2 M22 _ _ e2 => lw_join (z := sp_wish σ (xs (x3 + 1).toNat)) (wf_wish hw) (v2_wish hw2 hw) e.1 e.2.1 (KK_pd e hO hB) e2 (h M22)⟩⟩
theorem lc_335 {x3 : Int} {L : Nat} {xs : Nat → Int} {M : mM} {Q : Int → mM → Prop} (hxs : ∀ j, m_ir (xs j)) (hL2 : L ≤ 2048) (hx : 0 ≤ x3 ∧ x3 + 3 < L) (hI : IN M) (h : ∀ M', IN M' → X_ (kk_L_law L xs) 951 [v_S, v_P 0, v_P 79, v_I x3] [] M' Q) : X_ (kk_L_law L xs) 335 [v_S, v_P 0, v_P 79, v_I x3] [] M Q := by
  obtain ⟨σ, hw, hw2, hC, hM, hO, hB⟩ := hI
  exact wp_L_law_335 hxs hL2 ⟨⟨by omega, by omega⟩, ⟨by omega, by omega⟩, ⟨by omega, by omega⟩, ⟨by omega, by omega⟩, ⟨by omega, by omega⟩, ⟨by omega, by omega⟩, _, kc_alt hw hC, fun r M9 _ _ e => ⟨⟨by omega, by omega⟩, ⟨by omega, by omega⟩, ⟨by omega, by omega⟩, ⟨by omega, by omega⟩, ⟨by omega, by omega⟩, ⟨by omega, by omega⟩, _, km_alt hw (MR_of hM e.2.2.1), fun r2 M22 _ _ e2 => lw_join (z := sp_alt σ (xs (x3 + 1).toNat) (xs (x3 + 2).toNat) (xs (x3 + 3).toNat)) hw hw2 e.1 e.2.1 (KK_fr rfl e.2.2.2 hO hB) e2 (h M22)⟩⟩
theorem lc_378 {x3 : Int} {L : Nat} {xs : Nat → Int} {M : mM} {Q : Int → mM → Prop} (hxs : ∀ j, m_ir (xs j)) (hL2 : L ≤ 2048) (hx : 0 ≤ x3 ∧ x3 + 3 < L) (hI : IN M) (h : ∀ M', IN M' → X_ (kk_L_law L xs) 951 [v_S, v_P 0, v_P 79, v_I x3] [] M' Q) : X_ (kk_L_law L xs) 378 [v_S, v_P 0, v_P 79, v_I x3] [] M Q := by
  obtain ⟨σ, hw, hw2, hC, hM, hO, hB⟩ := hI
  exact wp_L_law_378 hxs hL2 ⟨⟨by omega, by omega⟩, ⟨by omega, by omega⟩, ⟨by omega, by omega⟩, ⟨by omega, by omega⟩, _, kd_leave hw hC, fun r M9 _ _ e => ⟨⟨by omega, by omega⟩, ⟨by omega, by omega⟩, ⟨by omega, by omega⟩, ⟨by omega, by omega⟩, _, km_leave hw (MR_of hM e.2.2.1), fun r2 M22 _ _ e2 => lw_join (z := sp_leave σ (xs (x3 + 1).toNat) (xs (x3 + 2).toNat)) (wf_leave hw) (v2_leave hw2) e.1 e.2.1 (KK_pd e hO hB) e2 (h M22)⟩⟩
theorem lc_411 {x3 : Int} {L : Nat} {xs : Nat → Int} {M : mM} {Q : Int → mM → Prop} (hxs : ∀ j, m_ir (xs j)) (hL2 : L ≤ 2048) (hx : 0 ≤ x3 ∧ x3 + 3 < L) (hI : IN M) (h : ∀ M', IN M' → X_ (kk_L_law L xs) 951 [v_S, v_P 0, v_P 79, v_I x3] [] M' Q) : X_ (kk_L_law L xs) 411 [v_S, v_P 0, v_P 79, v_I x3] [] M Q := by
  obtain ⟨σ, hw, hw2, hC, hM, hO, hB⟩ := hI
  exact wp_L_law_411 hxs hL2 ⟨⟨by omega, by omega⟩, ⟨by omega, by omega⟩, ⟨by omega, by omega⟩, ⟨by omega, by omega⟩, _, kc_worth hw hC, fun r M9 _ _ e => ⟨⟨by omega, by omega⟩, ⟨by omega, by omega⟩, ⟨by omega, by omega⟩, ⟨by omega, by omega⟩, _, km_worth hw (MR_of hM e.2.2.1), fun r2 M22 _ _ e2 => lw_join (z := sp_worth σ (xs (x3 + 1).toNat) (xs (x3 + 2).toNat)) hw hw2 e.1 e.2.1 (KK_fr rfl e.2.2.2 hO hB) e2 (h M22)⟩⟩
theorem lc_444 {x3 : Int} {L : Nat} {xs : Nat → Int} {M : mM} {Q : Int → mM → Prop} (hxs : ∀ j, m_ir (xs j)) (hL2 : L ≤ 2048) (hx : 0 ≤ x3 ∧ x3 + 3 < L) (hI : IN M) (h : ∀ M', IN M' → X_ (kk_L_law L xs) 951 [v_S, v_P 0, v_P 79, v_I x3] [] M' Q) : X_ (kk_L_law L xs) 444 [v_S, v_P 0, v_P 79, v_I x3] [] M Q := by
  obtain ⟨σ, hw, hw2, hC, hM, hO, hB⟩ := hI
  exact wp_L_law_444 hxs hL2 ⟨⟨by omega, by omega⟩, ⟨by omega, by omega⟩, ⟨by omega, by omega⟩, ⟨by omega, by omega⟩, _, kc_why hw hC, fun r M9 _ _ e => ⟨⟨by omega, by omega⟩, ⟨by omega, by omega⟩, ⟨by omega, by omega⟩, ⟨by omega, by omega⟩, _, km_why hw (MR_of hM e.2.2.1), fun r2 M22 _ _ e2 => lw_join (z := sp_why σ (xs (x3 + 1).toNat) (xs (x3 + 2).toNat)) hw hw2 e.1 e.2.1 (KK_fr rfl e.2.2.2 hO hB) e2 (h M22)⟩⟩
theorem lc_477 {x3 : Int} {L : Nat} {xs : Nat → Int} {M : mM} {Q : Int → mM → Prop} (hxs : ∀ j, m_ir (xs j)) (hL2 : L ≤ 2048) (hx : 0 ≤ x3 ∧ x3 + 3 < L) (hI : IN M) (h : ∀ M', IN M' → X_ (kk_L_law L xs) 951 [v_S, v_P 0, v_P 79, v_I x3] [] M' Q) : X_ (kk_L_law L xs) 477 [v_S, v_P 0, v_P 79, v_I x3] [] M Q := by
  obtain ⟨σ, hw, hw2, hC, hM, hO, hB⟩ := hI
  exact wp_L_law_477 hxs hL2 ⟨⟨by omega, by omega⟩, ⟨by omega, by omega⟩, _, kd_top hC, fun r M9 _ _ e => ⟨⟨by omega, by omega⟩, ⟨by omega, by omega⟩, _, km_top (MR_of hM e.2.2.1), fun r2 M22 _ _ e2 => lw_join (z := sp_top σ (xs (x3 + 1).toNat)) (wf_top hw) (v2_top hw2) e.1 e.2.1 (KK_pd e hO hB) e2 (h M22)⟩⟩
theorem lc_500 {x3 : Int} {L : Nat} {xs : Nat → Int} {M : mM} {Q : Int → mM → Prop} (hxs : ∀ j, m_ir (xs j)) (hL2 : L ≤ 2048) (hx : 0 ≤ x3 ∧ x3 + 3 < L) (hI : IN M) (h : ∀ M', IN M' → X_ (kk_L_law L xs) 951 [v_S, v_P 0, v_P 79, v_I x3] [] M' Q) : X_ (kk_L_law L xs) 500 [v_S, v_P 0, v_P 79, v_I x3] [] M Q := by
  obtain ⟨σ, hw, hw2, hC, hM, hO, hB⟩ := hI
  exact wp_L_law_500 hxs hL2 ⟨⟨by omega, by omega⟩, ⟨by omega, by omega⟩, ⟨by omega, by omega⟩, ⟨by omega, by omega⟩, _, kc_swap hw hC, fun r M9 _ _ e => ⟨⟨by omega, by omega⟩, ⟨by omega, by omega⟩, ⟨by omega, by omega⟩, ⟨by omega, by omega⟩, _, km_swap hw (MR_of hM e.2.2.1), fun r2 M22 _ _ e2 => lw_join (z := sp_swap σ (xs (x3 + 1).toNat) (xs (x3 + 2).toNat)) (wf_swap hw) (v2_swap hw2) e.1 e.2.1 (KK_fr nz_swap e.2.2.2 hO hB) e2 (h M22)⟩⟩
theorem lc_533 {x3 : Int} {L : Nat} {xs : Nat → Int} {M : mM} {Q : Int → mM → Prop} (hxs : ∀ j, m_ir (xs j)) (hL2 : L ≤ 2048) (hx : 0 ≤ x3 ∧ x3 + 3 < L) (hI : IN M) (h : ∀ M', IN M' → X_ (kk_L_law L xs) 951 [v_S, v_P 0, v_P 79, v_I x3] [] M' Q) : X_ (kk_L_law L xs) 533 [v_S, v_P 0, v_P 79, v_I x3] [] M Q := by
  obtain ⟨σ, hw, hw2, hC, hM, hO, hB⟩ := hI
  exact wp_L_law_533 hxs hL2 ⟨⟨by omega, by omega⟩, ⟨by omega, by omega⟩, _, kc_order hw hC, fun r M9 _ _ e => ⟨⟨by omega, by omega⟩, ⟨by omega, by omega⟩, _, km_order hw (MR_of hM e.2.2.1), fun r2 M22 _ _ e2 => lw_join (z := sp_order σ (xs (x3 + 1).toNat)) hw hw2 e.1 e.2.1 (KK_fr rfl e.2.2.2 hO hB) e2 (h M22)⟩⟩
theorem lc_556 {x3 : Int} {L : Nat} {xs : Nat → Int} {M : mM} {Q : Int → mM → Prop} (hxs : ∀ j, m_ir (xs j)) (hL2 : L ≤ 2048) (hx : 0 ≤ x3 ∧ x3 + 3 < L) (hI : IN M) (h : ∀ M', IN M' → X_ (kk_L_law L xs) 951 [v_S, v_P 0, v_P 79, v_I x3] [] M' Q) : X_ (kk_L_law L xs) 556 [v_S, v_P 0, v_P 79, v_I x3] [] M Q := by
  obtain ⟨σ, hw, hw2, hC, hM, hO, hB⟩ := hI
  exact wp_L_law_556 hxs hL2 ⟨⟨by omega, by omega⟩, ⟨by omega, by omega⟩, ⟨by omega, by omega⟩, ⟨by omega, by omega⟩, _, kc_sold hw hw2 hC, fun r M9 _ _ e => ⟨⟨by omega, by omega⟩, ⟨by omega, by omega⟩, ⟨by omega, by omega⟩, ⟨by omega, by omega⟩, _, km_sold hw (MR_of hM e.2.2.1), fun r2 M22 _ _ e2 => lw_join (z := sp_sold σ (xs (x3 + 1).toNat) (xs (x3 + 2).toNat)) hw hw2 e.1 e.2.1 (KK_fr rfl e.2.2.2 hO hB) e2 (h M22)⟩⟩
theorem lc_589 {x3 : Int} {L : Nat} {xs : Nat → Int} {M : mM} {Q : Int → mM → Prop} (hxs : ∀ j, m_ir (xs j)) (hL2 : L ≤ 2048) (hx : 0 ≤ x3 ∧ x3 + 3 < L) (hI : IN M) (h : ∀ M', IN M' → X_ (kk_L_law L xs) 951 [v_S, v_P 0, v_P 79, v_I x3] [] M' Q) : X_ (kk_L_law L xs) 589 [v_S, v_P 0, v_P 79, v_I x3] [] M Q := by
  obtain ⟨σ, hw, hw2, hC, hM, hO, hB⟩ := hI
  exact wp_L_law_589 hxs hL2 ⟨⟨by omega, by omega⟩, ⟨by omega, by omega⟩, ⟨by omega, by omega⟩, ⟨by omega, by omega⟩, _, kc_day hw hw2 hC, fun r M9 _ _ e => ⟨⟨by omega, by omega⟩, ⟨by omega, by omega⟩, ⟨by omega, by omega⟩, ⟨by omega, by omega⟩, _, km_day hw (MR_of hM e.2.2.1), fun r2 M22 _ _ e2 => lw_join (z := sp_day σ (xs (x3 + 1).toNat) (xs (x3 + 2).toNat)) hw hw2 e.1 e.2.1 (KK_fr rfl e.2.2.2 hO hB) e2 (h M22)⟩⟩
theorem lc_622 {x3 : Int} {L : Nat} {xs : Nat → Int} {M : mM} {Q : Int → mM → Prop} (hxs : ∀ j, m_ir (xs j)) (hL2 : L ≤ 2048) (hx : 0 ≤ x3 ∧ x3 + 3 < L) (hI : IN M) (h : ∀ M', IN M' → X_ (kk_L_law L xs) 951 [v_S, v_P 0, v_P 79, v_I x3] [] M' Q) : X_ (kk_L_law L xs) 622 [v_S, v_P 0, v_P 79, v_I x3] [] M Q := by
  obtain ⟨σ, hw, hw2, hC, hM, hO, hB⟩ := hI
  exact wp_L_law_622 hxs hL2 ⟨⟨by omega, by omega⟩, ⟨by omega, by omega⟩, _, kc_dealt hw hw2 hC, fun r M9 _ _ e => ⟨⟨by omega, by omega⟩, ⟨by omega, by omega⟩, _, km_dealt hw hw2 (MR_of hM e.2.2.1), fun r2 M22 _ _ e2 => lw_join (z := sp_dealt σ (xs (x3 + 1).toNat)) hw hw2 e.1 e.2.1 (KK_fr rfl e.2.2.2 hO hB) e2 (h M22)⟩⟩
theorem lc_645 {x3 : Int} {L : Nat} {xs : Nat → Int} {M : mM} {Q : Int → mM → Prop} (hxs : ∀ j, m_ir (xs j)) (hL2 : L ≤ 2048) (hx : 0 ≤ x3 ∧ x3 + 3 < L) (hI : IN M) (h : ∀ M', IN M' → X_ (kk_L_law L xs) 951 [v_S, v_P 0, v_P 79, v_I x3] [] M' Q) : X_ (kk_L_law L xs) 645 [v_S, v_P 0, v_P 79, v_I x3] [] M Q := by
  obtain ⟨σ, hw, hw2, hC, hM, hO, hB⟩ := hI
  exact wp_L_law_645 hxs hL2 ⟨⟨by omega, by omega⟩, ⟨by omega, by omega⟩, ⟨by omega, by omega⟩, ⟨by omega, by omega⟩, _, kc_price hw hC, fun r M9 _ _ e => ⟨⟨by omega, by omega⟩, ⟨by omega, by omega⟩, ⟨by omega, by omega⟩, ⟨by omega, by omega⟩, _, km_price hw (MR_of hM e.2.2.1), fun r2 M22 _ _ e2 => lw_join (z := sp_price σ (xs (x3 + 1).toNat) (xs (x3 + 2).toNat)) (wf_price hw) (v2_price hw2) e.1 e.2.1 (KK_fr nz_price e.2.2.2 hO hB) e2 (h M22)⟩⟩
theorem lc_678 {x3 : Int} {L : Nat} {xs : Nat → Int} {M : mM} {Q : Int → mM → Prop} (hxs : ∀ j, m_ir (xs j)) (hL2 : L ≤ 2048) (hx : 0 ≤ x3 ∧ x3 + 3 < L) (hI : IN M) (h : ∀ M', IN M' → X_ (kk_L_law L xs) 951 [v_S, v_P 0, v_P 79, v_I x3] [] M' Q) : X_ (kk_L_law L xs) 678 [v_S, v_P 0, v_P 79, v_I x3] [] M Q := by
  obtain ⟨σ, hw, hw2, hC, hM, hO, hB⟩ := hI
  exact wp_L_law_678 hxs hL2 ⟨⟨by omega, by omega⟩, ⟨by omega, by omega⟩, ⟨by omega, by omega⟩, ⟨by omega, by omega⟩, _, kc_likes hw hw2 hC, fun r M9 _ _ e => ⟨⟨by omega, by omega⟩, ⟨by omega, by omega⟩, ⟨by omega, by omega⟩, ⟨by omega, by omega⟩, _, km_likes hw (MR_of hM e.2.2.1), fun r2 M22 _ _ e2 => lw_join (z := sp_likes σ (xs (x3 + 1).toNat) (xs (x3 + 2).toNat)) hw hw2 e.1 e.2.1 (KK_fr rfl e.2.2.2 hO hB) e2 (h M22)⟩⟩
theorem lc_711 {x3 : Int} {L : Nat} {xs : Nat → Int} {M : mM} {Q : Int → mM → Prop} (hxs : ∀ j, m_ir (xs j)) (hL2 : L ≤ 2048) (hx : 0 ≤ x3 ∧ x3 + 3 < L) (hI : IN M) (h : ∀ M', IN M' → X_ (kk_L_law L xs) 951 [v_S, v_P 0, v_P 79, v_I x3] [] M' Q) : X_ (kk_L_law L xs) 711 [v_S, v_P 0, v_P 79, v_I x3] [] M Q := by
  obtain ⟨σ, hw, hw2, hC, hM, hO, hB⟩ := hI
  exact wp_L_law_711 hxs hL2 ⟨_, kc_missing hw hw2 hC, fun r M9 _ _ e => ⟨_, km_missing hw (MR_of hM e.2.2.1), fun r2 M22 _ _ e2 => lw_join (z := sp_missing σ ) hw hw2 e.1 e.2.1 (KK_fr rfl e.2.2.2 hO hB) e2 (h M22)⟩⟩
theorem lc_724 {x3 : Int} {L : Nat} {xs : Nat → Int} {M : mM} {Q : Int → mM → Prop} (hxs : ∀ j, m_ir (xs j)) (hL2 : L ≤ 2048) (hx : 0 ≤ x3 ∧ x3 + 3 < L) (hI : IN M) (h : ∀ M', IN M' → X_ (kk_L_law L xs) 951 [v_S, v_P 0, v_P 79, v_I x3] [] M' Q) : X_ (kk_L_law L xs) 724 [v_S, v_P 0, v_P 79, v_I x3] [] M Q := by
  obtain ⟨σ, hw, hw2, hC, hM, hO, hB⟩ := hI
  exact wp_L_law_724 hxs hL2 ⟨⟨by omega, by omega⟩, ⟨by omega, by omega⟩, _, kc_raised hw hw2 hC, fun r M9 _ _ e => ⟨⟨by omega, by omega⟩, ⟨by omega, by omega⟩, _, km_raised hw (MR_of hM e.2.2.1), fun r2 M22 _ _ e2 => lw_join (z := sp_raised σ (xs (x3 + 1).toNat)) hw hw2 e.1 e.2.1 (KK_fr rfl e.2.2.2 hO hB) e2 (h M22)⟩⟩
theorem lc_747 {x3 : Int} {L : Nat} {xs : Nat → Int} {M : mM} {Q : Int → mM → Prop} (hxs : ∀ j, m_ir (xs j)) (hL2 : L ≤ 2048) (hx : 0 ≤ x3 ∧ x3 + 3 < L) (hI : IN M) (h : ∀ M', IN M' → X_ (kk_L_law L xs) 951 [v_S, v_P 0, v_P 79, v_I x3] [] M' Q) : X_ (kk_L_law L xs) 747 [v_S, v_P 0, v_P 79, v_I x3] [] M Q := by
  obtain ⟨σ, hw, hw2, hC, hM, hO, hB⟩ := hI
  exact wp_L_law_747 hxs hL2 ⟨⟨by omega, by omega⟩, ⟨by omega, by omega⟩, _, kc_orders hw hw2 hC hO, fun r M9 _ _ e => ⟨⟨by omega, by omega⟩, ⟨by omega, by omega⟩, _, km_orders hw (MR_of hM e.2.2.1), fun r2 M22 _ _ e2 => lw_join (z := sp_orders σ (xs (x3 + 1).toNat)) hw hw2 e.1 e.2.1 ⟨e.2.2.2.1, KB_of rfl e.2.2.2.2 hB⟩ e2 (h M22)⟩⟩
theorem lc_770 {x3 : Int} {L : Nat} {xs : Nat → Int} {M : mM} {Q : Int → mM → Prop} (hxs : ∀ j, m_ir (xs j)) (hL2 : L ≤ 2048) (hx : 0 ≤ x3 ∧ x3 + 3 < L) (hI : IN M) (h : ∀ M', IN M' → X_ (kk_L_law L xs) 951 [v_S, v_P 0, v_P 79, v_I x3] [] M' Q) : X_ (kk_L_law L xs) 770 [v_S, v_P 0, v_P 79, v_I x3] [] M Q := by
  obtain ⟨σ, hw, hw2, hC, hM, hO, hB⟩ := hI
  exact wp_L_law_770 hxs hL2 ⟨⟨by omega, by omega⟩, ⟨by omega, by omega⟩, _, kc_gain hw hw2 hC, fun r M9 _ _ e => ⟨⟨by omega, by omega⟩, ⟨by omega, by omega⟩, _, km_gain hw (MR_of hM e.2.2.1), fun r2 M22 _ _ e2 => lw_join (z := sp_gain σ (xs (x3 + 1).toNat)) hw hw2 e.1 e.2.1 (KK_fr rfl e.2.2.2 hO hB) e2 (h M22)⟩⟩
theorem lc_793 {x3 : Int} {L : Nat} {xs : Nat → Int} {M : mM} {Q : Int → mM → Prop} (hxs : ∀ j, m_ir (xs j)) (hL2 : L ≤ 2048) (hx : 0 ≤ x3 ∧ x3 + 3 < L) (hI : IN M) (h : ∀ M', IN M' → X_ (kk_L_law L xs) 951 [v_S, v_P 0, v_P 79, v_I x3] [] M' Q) : X_ (kk_L_law L xs) 793 [v_S, v_P 0, v_P 79, v_I x3] [] M Q := by
  obtain ⟨σ, hw, hw2, hC, hM, hO, hB⟩ := hI
  exact wp_L_law_793 hxs hL2 ⟨⟨by omega, by omega⟩, ⟨by omega, by omega⟩, ⟨by omega, by omega⟩, ⟨by omega, by omega⟩, _, kc_cut hw hw2 hC, fun r M9 _ _ e => ⟨⟨by omega, by omega⟩, ⟨by omega, by omega⟩, ⟨by omega, by omega⟩, ⟨by omega, by omega⟩, _, km_cut hw (MR_of hM e.2.2.1), fun r2 M22 _ _ e2 => lw_join (z := sp_cut σ (xs (x3 + 1).toNat) (xs (x3 + 2).toNat)) hw hw2 e.1 e.2.1 (KK_fr rfl e.2.2.2 hO hB) e2 (h M22)⟩⟩
theorem lc_826 {x3 : Int} {L : Nat} {xs : Nat → Int} {M : mM} {Q : Int → mM → Prop} (hxs : ∀ j, m_ir (xs j)) (hL2 : L ≤ 2048) (hx : 0 ≤ x3 ∧ x3 + 3 < L) (hI : IN M) (h : ∀ M', IN M' → X_ (kk_L_law L xs) 951 [v_S, v_P 0, v_P 79, v_I x3] [] M' Q) : X_ (kk_L_law L xs) 826 [v_S, v_P 0, v_P 79, v_I x3] [] M Q := by
  obtain ⟨σ, hw, hw2, hC, hM, hO, hB⟩ := hI
  exact wp_L_law_826 hxs hL2 ⟨⟨by omega, by omega⟩, ⟨by omega, by omega⟩, _, kc_broken hw hw2 hC hB, fun r M9 _ _ e => ⟨⟨by omega, by omega⟩, ⟨by omega, by omega⟩, _, km_broken hw (MR_of hM e.2.2.1), fun r2 M22 _ _ e2 => lw_join (z := sp_broken σ (xs (x3 + 1).toNat)) hw hw2 e.1 e.2.1 ⟨KO_of rfl e.2.2.2.2 hO, e.2.2.2.1⟩ e2 (h M22)⟩⟩
theorem lc_849 {x3 : Int} {L : Nat} {xs : Nat → Int} {M : mM} {Q : Int → mM → Prop} (hxs : ∀ j, m_ir (xs j)) (hL2 : L ≤ 2048) (hx : 0 ≤ x3 ∧ x3 + 3 < L) (hI : IN M) (h : ∀ M', IN M' → X_ (kk_L_law L xs) 951 [v_S, v_P 0, v_P 79, v_I x3] [] M' Q) : X_ (kk_L_law L xs) 849 [v_S, v_P 0, v_P 79, v_I x3] [] M Q := by
  obtain ⟨σ, hw, hw2, hC, hM, hO, hB⟩ := hI
  exact wp_L_law_849 hxs hL2 ⟨⟨by omega, by omega⟩, ⟨by omega, by omega⟩, _, kc_lesson hC, fun r M9 _ _ e => ⟨⟨by omega, by omega⟩, ⟨by omega, by omega⟩, _, km_lesson hw (MR_of hM e.2.2.1), fun r2 M22 _ _ e2 => lw_join (z := sp_lesson σ (xs (x3 + 1).toNat)) (wf_lesson hw) (v2_lesson hw2) e.1 e.2.1 (KK_fr nz_lesson e.2.2.2 hO hB) e2 (h M22)⟩⟩
theorem lc_872 {x3 : Int} {L : Nat} {xs : Nat → Int} {M : mM} {Q : Int → mM → Prop} (hxs : ∀ j, m_ir (xs j)) (hL2 : L ≤ 2048) (hx : 0 ≤ x3 ∧ x3 + 3 < L) (hI : IN M) (h : ∀ M', IN M' → X_ (kk_L_law L xs) 951 [v_S, v_P 0, v_P 79, v_I x3] [] M' Q) : X_ (kk_L_law L xs) 872 [v_S, v_P 0, v_P 79, v_I x3] [] M Q := by
  obtain ⟨σ, hw, hw2, hC, hM, hO, hB⟩ := hI
  exact wp_L_law_872 hxs hL2 ⟨_, kc_unlearn hC, fun r M9 _ _ e => ⟨_, km_unlearn (MR_of hM e.2.2.1), fun r2 M22 _ _ e2 => lw_join (z := sp_unlearn σ ) (wf_unlearn hw) (v2_unlearn hw2) e.1 e.2.1 (KK_fr nz_unlearn e.2.2.2 hO hB) e2 (h M22)⟩⟩
theorem lc_885 {x3 : Int} {L : Nat} {xs : Nat → Int} {M : mM} {Q : Int → mM → Prop} (hxs : ∀ j, m_ir (xs j)) (hL2 : L ≤ 2048) (hx : 0 ≤ x3 ∧ x3 + 3 < L) (hI : IN M) (h : ∀ M', IN M' → X_ (kk_L_law L xs) 951 [v_S, v_P 0, v_P 79, v_I x3] [] M' Q) : X_ (kk_L_law L xs) 885 [v_S, v_P 0, v_P 79, v_I x3] [] M Q := by
  obtain ⟨σ, hw, hw2, hC, hM, hO, hB⟩ := hI
  exact wp_L_law_885 hxs hL2 ⟨⟨by omega, by omega⟩, ⟨by omega, by omega⟩, ⟨by omega, by omega⟩, ⟨by omega, by omega⟩, ⟨by omega, by omega⟩, ⟨by omega, by omega⟩, _, kc_learn hw hw2 hC, fun r M9 _ _ e => ⟨⟨by omega, by omega⟩, ⟨by omega, by omega⟩, ⟨by omega, by omega⟩, ⟨by omega, by omega⟩, ⟨by omega, by omega⟩, ⟨by omega, by omega⟩, _, km_learn hw (MR_of hM e.2.2.1), fun r2 M22 _ _ e2 => lw_join (z := sp_learn σ (xs (x3 + 1).toNat) (xs (x3 + 2).toNat) (xs (x3 + 3).toNat)) hw hw2 e.1 e.2.1 (KK_fr rfl e.2.2.2 hO hB) e2 (h M22)⟩⟩
theorem lc_928 {x3 : Int} {L : Nat} {xs : Nat → Int} {M : mM} {Q : Int → mM → Prop} (hxs : ∀ j, m_ir (xs j)) (hL2 : L ≤ 2048) (hx : 0 ≤ x3 ∧ x3 + 3 < L) (hI : IN M) (h : ∀ M', IN M' → X_ (kk_L_law L xs) 951 [v_S, v_P 0, v_P 79, v_I x3] [] M' Q) : X_ (kk_L_law L xs) 928 [v_S, v_P 0, v_P 79, v_I x3] [] M Q := by
  obtain ⟨σ, hw, hw2, hC, hM, hO, hB⟩ := hI
  exact wp_L_law_928 hxs hL2 ⟨⟨by omega, by omega⟩, ⟨by omega, by omega⟩, _, kc_told hC, fun r M9 _ _ e => ⟨⟨by omega, by omega⟩, ⟨by omega, by omega⟩, _, km_told hw (MR_of hM e.2.2.1), fun r2 M22 _ _ e2 => lw_join (z := sp_told σ (xs (x3 + 1).toNat)) hw hw2 e.1 e.2.1 (KK_fr rfl e.2.2.2 hO hB) e2 (h M22)⟩⟩
theorem lc_loop {L : Nat} {xs : Nat → Int} (hxs : ∀ j, m_ir (xs j)) (hL2 : L ≤ 2048) : ∀ (f : Nat) (x3 : Nat) (M : mM), L < x3 + 4 * f + 4 → IN M → X_ (kk_L_law L xs) 18 [v_S, v_P 0, v_P 79, v_I (x3 : Int)] [] M (fun r _ => r = 1) := by
  intro f
  induction f with
  | zero =>
    intro x3 M hf hI
    exact wp_L_law_18 hxs hL2 ⟨⟨by omega, by omega⟩, fun _ => rfl, fun y => absurd y (by omega)⟩
  | succ f ih =>
    intro x3 M hf hI
    refine wp_L_law_18 hxs hL2 ⟨⟨by omega, by omega⟩, fun _ => rfl, fun y => ⟨⟨by omega, by omega⟩, ?_⟩⟩
    have hx : (0 : Int) ≤ (x3 : Int) ∧ (x3 : Int) + 3 < L := ⟨by omega, by omega⟩
    have nx : ∀ M', IN M' → X_ (kk_L_law L xs) 951 [v_S, v_P 0, v_P 79, v_I (x3 : Int)] [] M' (fun r _ => r = 1) := fun M' hI' => wp_L_law_951 hxs hL2 ⟨⟨by omega, by omega⟩, by
      have := ih (x3 + 4) M' (by omega) hI'
      rw [show ((x3 + 4 : Nat) : Int) = (x3 : Int) + 4 by omega] at this
      exact this⟩
    exact ⟨fun _ => lc_164 hxs hL2 hx hI nx, fun _ => lc_207 hxs hL2 hx hI nx, fun _ => lc_220 hxs hL2 hx hI nx, fun _ => lc_263 hxs hL2 hx hI nx, fun _ => lc_286 hxs hL2 hx hI nx, fun _ => lc_299 hxs hL2 hx hI nx, fun _ => lc_312 hxs hL2 hx hI nx, fun _ => lc_335 hxs hL2 hx hI nx, fun _ => lc_378 hxs hL2 hx hI nx, fun _ => lc_411 hxs hL2 hx hI nx, fun _ => lc_444 hxs hL2 hx hI nx, fun _ => lc_477 hxs hL2 hx hI nx, fun _ => lc_500 hxs hL2 hx hI nx, fun _ => lc_533 hxs hL2 hx hI nx, fun _ => lc_556 hxs hL2 hx hI nx, fun _ => lc_589 hxs hL2 hx hI nx, fun _ => lc_622 hxs hL2 hx hI nx, fun _ => lc_645 hxs hL2 hx hI nx, fun _ => lc_678 hxs hL2 hx hI nx, fun _ => lc_711 hxs hL2 hx hI nx, fun _ => lc_724 hxs hL2 hx hI nx, fun _ => lc_747 hxs hL2 hx hI nx, fun _ => lc_770 hxs hL2 hx hI nx, fun _ => lc_793 hxs hL2 hx hI nx, fun _ => lc_826 hxs hL2 hx hI nx, fun _ => lc_849 hxs hL2 hx hI nx, fun _ => lc_872 hxs hL2 hx hI nx, fun _ => lc_885 hxs hL2 hx hI nx, fun _ => lc_928 hxs hL2 hx hI nx, fun _ => nx M hI⟩
