/-! both sides say the same -/
def PO (σ : Sg) (M : Nat) : Prop := ∀ t, t < M → ∀ z i : Nat, σ.2 7 t = nI z → z ≤ 24 → i < z → isPr σ t i = true → ∃ m : Nat, m ≤ 60 ∧ σ.2 11 (4 * (24 * t + cP σ t i) + 3) = nI m
theorem Mid.po {S : MS} {l1 l2 l3 l4 : Nat} {loc ow : Nat → Nat} {σ σ1 : Sg} {M C N : Nat} (h : Mid S l1 l2 l3 l4 loc ow σ σ1 M C N) : PO σ1 M := fun t ht z i hz h24 hi hp => by
  have o := h.op ht hz h24 hi
  obtain ⟨m, hm, em⟩ : ∃ c : Nat, c ≤ 60 ∧ sI S (loc (1000 + (24 * t + i))) 4 = nI c := o.2.2.2.2.2.2.2.2.2.2.2.2.2
  exact ⟨m, hm, op_mad o hp em⟩
section EQ2
variable {σ' σ : Sg}
theorem isPr_2 (h : σ'.2 = σ.2) (t i : Nat) : isPr σ' t i = isPr σ t i := by unfold isPr; rw [h]
theorem PO_2 (h : σ'.2 = σ.2) {M : Nat} (hp : PO σ M) : PO σ' M := by
  intro t ht z i hz h24 hi hp'
  rw [h] at hz ⊢
  rw [cP_2 h]
  rw [isPr_2 h] at hp'
  exact hp t ht z i hz h24 hi hp'
theorem stf_2 (h : σ'.2 = σ.2) (c : Nat) : stf σ' c = stf σ c := by unfold stf; rw [h]
theorem cm_2 (h : σ'.2 = σ.2) (c : Nat) : cm σ' c = cm σ c := by unfold cm; rw [h]
theorem TB_2 (h : σ'.2 = σ.2) (t i w : Nat) (bf : Nat → Int32) : TB σ' t i w bf = TB σ t i w bf := by
  simp only [TB, Tc, Wk, isPr, h, cP_2 h]
theorem Hit_2 (h : σ'.2 = σ.2) (t w : Nat) (bf : Nat → Int32) : Hit σ' t w bf = Hit σ t w bf := by
  simp only [Hit, TB_2 h, Wk, Rk, h]
theorem Riv_2 (h : σ'.2 = σ.2) (C t o : Nat) : Riv σ' C t o = Riv σ C t o := by
  simp only [Riv, Hit_2 h, stf_2 h, h]
theorem LW_2 (h : σ'.2 = σ.2) (k : Nat) : ∀ c, LW σ' k c = LW σ k c
  | 0 => rfl
  | c + 1 => by rw [LW, LW, LW_2 h k c, cm_2 h, h]
theorem KS_2 (h : σ'.2 = σ.2) (C t : Nat) : KS σ' C t = KS σ C t := by
  funext k
  simp only [KS, Rk, LW_2 h, h]
theorem TS_2 (h : σ'.2 = σ.2) (C t : Nat) : TS σ' C t = TS σ C t := by
  funext i
  simp only [TS, TB_2 h, cm_2 h, stf_2 h, cP_2 h, h]
theorem lkV_2 (h : σ'.2 = σ.2) (e l : Nat) : lkV σ' e l = lkV σ e l := by
  unfold lkV RF WW Rk Wk
  rw [Hit_2 h, stf_2 h]
  simp only [cm_2 h, h]
end EQ2
section EQV
variable {σ : Sg} {M C N : Nat}
theorem cf_hit (po : PO σ M) {t w z : Nat} (ht : t < M) (hz : σ.2 7 t = nI z) (h24 : z ≤ 24) {bf af : Nat → Int32} (haf : ∀ k, k < 32 → Wk σ w k → af k = σ.2 10 (32 * w + k)) : exq (Cf σ w t (cP σ t z) bf af) 32 ↔ Hit σ t w bf := by
  have ez : ix (σ.2 7 t) = z := by rw [hz, ix_nI (by omega)]
  unfold Hit
  rw [ez]
  constructor
  · rintro ⟨k, hk, r1, r2 | r2⟩
    · exact Or.inl ⟨k, hk, r2, r1⟩
    · obtain ⟨i, hi, hp, -, r3⟩ := cP_ex.mp r2
      rw [haf k hk r1] at r3
      exact Or.inr ⟨i, hi, hp, k, hk, r1, r3⟩
  · rintro (⟨k, hk, r1, r2⟩ | ⟨i, hi, hp, k, hk, r1, r2⟩)
    · exact ⟨k, hk, r2, Or.inl r1⟩
    · obtain ⟨m, hm, em⟩ := po t ht z i hz h24 hi hp
      refine ⟨k, hk, r1, Or.inr (cP_ex.mpr ⟨i, hi, hp, ?_, ?_⟩)⟩
      · rw [em]
        exact show nI m < nI 61 from nI_lt (by omega) (by omega)
      · rw [haf k hk r1]; exact r2
theorem rf_isRival (hw : WF σ M C N) (po : PO σ M) {t o : Nat} (ht : t < M) (ho : o < M) {P : Int32 → Sg → Prop} (h : P (bI (Riv σ C t o)) σ) : v_X6_isRival σ (nI t) (nI o) P := by
  have hM := hw.2.1
  obtain ⟨z, h24, hz, hz2⟩ := hw.sz ho
  unfold v_X6_isRival bv_X6_isRival_27 bv_X6_isRival_28
  rw [ix_nI (by omega), nI_eq (by omega) (by omega)]
  refine ⟨fun q => ⟨zb0, pb0 h (fun r => r.1 q)⟩, fun q => ⟨vp_in_nI (by omega) (by omega), fun q2 => ⟨zb0, pb0 h (fun r => q2 r.2.1)⟩, fun q2 => rf_conflicts hw ht ho (Nat.le_trans (cP_le σ o z) h24) hz2 ?_⟩⟩
  rw [bI_c (cf_hit po ho hz h24 (fun _ _ _ => rfl))]
  exact ⟨fun q3 => ⟨zb0, pb0 h (fun r => bI_z.mp q3 r.2.2)⟩, fun q3 => ⟨zb1, pb1 h ⟨q, q2, bI_nz.mp q3⟩⟩⟩
theorem rf_cr_loop (hw : WF σ M C N) (po : PO σ M) {t : Nat} (ht : t < M) {P : Int32 → Sg → Prop} (h : P (isum (fun o => bI (Riv σ C t o)) M) σ) : ∀ n i, i + n = M → bv_X6_countRivals_4 P (n + 1) σ (nI t) (isum (fun o => bI (Riv σ C t o)) i) (nI i) := by
  have hM := hw.2.1
  intro n
  induction n with
  | zero =>
    intro i hi
    have e : i = M := by omega
    subst e
    rw [bv_X6_countRivals_4]
    dsimp only
    rw [hw.1]
    exact ⟨fun _ => h, fun q => absurd (Int32.le_refl _) q⟩
  | succ n ih =>
    intro i hi
    rw [bv_X6_countRivals_4]
    dsimp only
    rw [hw.1]
    simp only [bv_X6_countRivals_27]
    have hs := ih (i + 1) (by omega)
    rw [isum] at hs
    refine ⟨fun q => absurd q (nI_ge (by omega) (by omega)), fun _ => rf_isRival hw po ht (show i < M by omega) ⟨fun g v hv v2 hv2 => ?_, fun g v hv v2 hv2 => ?_⟩⟩
    · rw [hv, hv2, nI_1]
      rw [g] at hs; exact hs
    · rw [hv, hv2, nI_1]
      rw [bI_1 (bI_nz.mp g)] at hs; exact hs
theorem rf_countRivals (hw : WF σ M C N) (po : PO σ M) {t : Nat} (ht : t < M) {P : Int32 → Sg → Prop} (h : P (isum (fun o => bI (Riv σ C t o)) M) σ) : v_X6_countRivals σ (nI t) P := ⟨M + 1, rf_cr_loop hw po ht h M 0 (by omega)⟩
theorem ks_eq (hw : WF σ M C N) {t : Nat} (ht : t < M) : exq (fr1 (Wq σ t)) (C + 1) ↔ exq (KS σ C t) 32 := by
  have hC := hw.2.2.2.1
  have rcd : ∀ k, k < 32 → Rk σ t k → ∃ r : Nat, r ≤ 60 ∧ σ.2 9 (32 * t + k) = nI r := fun k hk hr => by
    rcases (hw.2.2.2.2.2.2.2.1 t ht k hk).1 with q | q
    · exact absurd q hr
    · exact q
  constructor
  · rintro ⟨c, hc, h1, k, hk, r1, r2, r3⟩
    obtain ⟨r, hr, er⟩ := rcd k hk r2
    refine ⟨k, hk, r2, ?_⟩
    rw [er] at r3 ⊢
    have := LW_le σ k C
    rw [nI_ltI (by omega) (by omega)] at r3 ⊢
    exact LW_lt.mpr ⟨c, h1, by omega, r1, r3⟩
  · rintro ⟨k, hk, r2, r3⟩
    obtain ⟨r, hr, er⟩ := rcd k hk r2
    have := LW_le σ k C
    rw [er, nI_ltI (by omega) (by omega)] at r3
    obtain ⟨c, h1, hc, r1, r4⟩ := LW_lt.mp r3
    exact ⟨c, by omega, h1, k, hk, r1, r2, by rw [er]; exact nI_lt r4 (by omega)⟩
theorem ts_eq (hw : WF σ M C N) (po : PO σ M) {t z : Nat} (ht : t < M) (hz : σ.2 7 t = nI z) (h24 : z ≤ 24) : exq (fr1 (Tq σ t (cP σ t z))) (C + 1) ↔ exq (TS σ C t) z := by
  have hC := hw.2.2.2.1
  constructor
  · rintro ⟨c, hc, h1, k, hk, r1, r2⟩
    obtain ⟨i, hi, hp, r3, r4⟩ := cP_ex.mp r2
    rw [(hw.com h1 (by omega)).2.2.2.2 k hk r1] at r4
    exact ⟨i, hi, c, hc, r3, hp, k, hk, r1, r4⟩
  · rintro ⟨i, hi, c, hc, r3, hp, k, hk, r1, r4⟩
    obtain ⟨m, hm, em⟩ := po t ht z i hz h24 hi hp
    have h1 : 1 ≤ c := by
      rw [em, nI_ltI (by omega) (by omega)] at r3
      omega
    refine ⟨c, hc, h1, k, hk, r1, cP_ex.mpr ⟨i, hi, hp, r3, ?_⟩⟩
    rw [(hw.com h1 (by omega)).2.2.2.2 k hk r1]
    exact r4
theorem rf_stale (hw : WF σ M C N) (po : PO σ M) {t z : Nat} (ht : t < M) (hz : σ.2 7 t = nI z) (h24 : z ≤ 24) {P : Int32 → Sg → Prop} (h1 : exq (KS σ C t) 32 → P 1 σ) (h2 : ¬ exq (KS σ C t) 32 → exq (TS σ C t) z → P 2 σ) (h0 : ¬ exq (KS σ C t) 32 → ¬ exq (TS σ C t) z → P 0 σ) : v_X6_staleness σ (nI t) P := by
  obtain ⟨z', h24', hz', hz2⟩ := hw.sz ht
  have ez : z' = z := by rw [hz] at hz'; exact ((nI_eq (by omega) (by omega)).mp hz').symm
  subst ez
  refine rf_staleness hw ht (Nat.le_trans (cP_le σ t z') h24) hz2 ?_ ?_ ?_ <;> rw [ks_eq hw ht]
  · exact h1
  · rw [ts_eq hw po ht hz h24]; exact h2
  · rw [ts_eq hw po ht hz h24]; exact h0
theorem rf_activeP (hw : WF σ M C N) {a : Int32} {P : Int32 → Sg → Prop} (h0 : ∀ t, t < M → a = nI t → σ.2 2 t = 0 → P 0 σ) (h2 : ∀ t, t < M → a = nI t → ¬ σ.2 2 t = 0 → P 2 σ) (h1 : (a < 0 ∨ nI M ≤ a) → P 1 σ) : v_X6_activeProblem σ a P := by
  have hM := hw.2.1
  unfold v_X6_activeProblem bv_X6_activeProblem_26
  refine rf_isTx hw (fun t ht e => ⟨fun _ => ?_, fun q => absurd q ne10⟩) (fun q => ⟨fun r => absurd rfl r, fun _ => h1 q⟩)
  rw [e, ix_nI (by omega)]
  exact ⟨vp_in_nI (by omega) (by omega), fun q => h0 t ht e q, fun q => h2 t ht e q⟩
end EQV
theorem ne20 : ¬ (2 : Int32) = 0 := by decide
theorem sp_rivals : Sp_rivals := by
  intro S l1 l2 l3 l4 loc ow σ M C N x0 post h hp
  have h : Mid S l1 l2 l3 l4 loc ow σ σ M C N := h
  have hM := h.M80
  have tI : ∀ {t u : Nat}, t < M → u < M → nI t = nI u → t = u := fun ht hu e => (nI_eq (by omega) (by omega)).mp e
  unfold w_L_rivals w_X5_rivals
  refine ⟨h.k1, h.k1, cl_findA h (fun t ht e hst => ⟨h.k1, cl_countRivals h ht (wr_ret h (fun S6 h6 hs6 => hp 0 S6 σ _ ?_ ⟨loc, ow, M, C, N, h6⟩ (fun _ => hs6)))⟩) (fun hx => Or.inl ⟨rfl, hp 1 S σ 0 ?_ ⟨loc, ow, M, C, N, h⟩ (fun q => absurd q ne10)⟩) (fun t ht e hst => Or.inr ⟨rfl, hp 2 S σ 0 ?_ ⟨loc, ow, M, C, N, h⟩ (fun q => absurd q ne20)⟩)⟩
  · unfold v_X6_rivals bv_X6_rivals_25
    refine rf_activeP h.wf (fun u hu eu _ σ2 e2 => ?_) (fun u hu eu r => ?_) (fun q => absurd e (neg_nI (by omega) q ht))
    · rw [e2, e]
      refine ⟨fun q => absurd rfl q, fun _ => rf_countRivals (wf_eqv (eqv.th σ 0) h.wf) (PO_2 (σ' := sF σ 0 0) (σ := σ) rfl h.po) ht ⟨eqv.th σ 0, rfl, fun _ => ?_⟩⟩
      exact isum_congr (fun o _ => by rw [Riv_2 (σ' := sF σ 0 0) (σ := σ) rfl])
    · have := tI ht hu (e ▸ eu)
      subst this
      exact absurd hst r
  · unfold v_X6_rivals bv_X6_rivals_25
    refine rf_activeP h.wf (fun u hu eu _ => absurd eu (neg_nI (by omega) hx hu)) (fun u hu eu _ => absurd eu (neg_nI (by omega) hx hu)) (fun q σ2 e2 => ?_)
    rw [e2]
    exact ⟨fun _ => ⟨eqv.th σ 1, rfl, fun q => absurd q ne10⟩, fun q => absurd q ne10⟩
  · unfold v_X6_rivals bv_X6_rivals_25
    refine rf_activeP h.wf (fun u hu eu r => ?_) (fun u hu eu _ σ2 e2 => ?_) (fun q => absurd e (neg_nI (by omega) q ht))
    · have := tI ht hu (e ▸ eu)
      subst this
      exact absurd r hst
    · rw [e2]
      exact ⟨fun _ => ⟨eqv.th σ 2, rfl, fun q => absurd q ne20⟩, fun q => absurd q ne20⟩
theorem sp_isStale : Sp_isStale := by
  intro S l1 l2 l3 l4 loc ow σ M C N x0 post h hp
  have h : Mid S l1 l2 l3 l4 loc ow σ σ M C N := h
  have hM := h.M80
  have tI : ∀ {t u : Nat}, t < M → u < M → nI t = nI u → t = u := fun ht hu e => (nI_eq (by omega) (by omega)).mp e
  obtain ⟨a1, a2, a3⟩ := h.his
  unfold w_L_isStale w_X5_isStale b_X5_isStale_20 b_L_isStale_15
  rw [a1]
  refine ⟨h.k1, h.k1, cl_findA h (fun t ht e hst => ⟨a2, ?_⟩) (fun hx => Or.inl ⟨rfl, hp 1 S σ 0 ?_ ⟨loc, ow, M, C, N, h⟩ (fun q => absurd q ne10)⟩) (fun t ht e hst => Or.inr ⟨rfl, hp 2 S σ 0 ?_ ⟨loc, ow, M, C, N, h⟩ (fun q => absurd q ne20)⟩)⟩
  · obtain ⟨z, h24, hz, -⟩ := h.sz ht
    have rr : ∀ v : Int32, (exq (KS σ C t) 32 → v = 1) → (¬ exq (KS σ C t) 32 → exq (TS σ C t) z → v = 1) → (¬ exq (KS σ C t) 32 → ¬ exq (TS σ C t) z → v = 0) → v_X6_isStale σ x0 (fun r2 σ2 => eqv σ2 σ ∧ σ2.1 0 = 0 ∧ ((0 : Int32) = 0 → r2 = v)) := fun v h1 h2 h0 => by
      unfold v_X6_isStale bv_X6_isStale_28 bv_X6_isStale_29
      refine rf_activeP h.wf (fun u hu eu _ σ2 e2 => ?_) (fun u hu eu r => ?_) (fun q => absurd e (neg_nI (by omega) q ht))
      · rw [e2, e]
        refine ⟨fun q => absurd rfl q, fun _ => rf_stale (wf_eqv (eqv.th σ 0) h.wf) (PO_2 (σ' := sF σ 0 0) (σ := σ) rfl h.po) ht hz h24 ?_ ?_ ?_⟩ <;> rw [KS_2 (σ' := sF σ 0 0) (σ := σ) rfl] <;> try rw [TS_2 (σ' := sF σ 0 0) (σ := σ) rfl]
        · exact fun q => ⟨fun r => absurd r (by decide), fun _ => ⟨zb1, eqv.th σ 0, rfl, fun _ => (h1 q).symm⟩⟩
        · exact fun q q2 => ⟨fun r => absurd r (by decide), fun _ => ⟨zb1, eqv.th σ 0, rfl, fun _ => (h2 q q2).symm⟩⟩
        · exact fun q q2 => ⟨fun _ => ⟨zb0, eqv.th σ 0, rfl, fun _ => (h0 q q2).symm⟩, fun r => absurd (Int32.le_refl 0) r⟩
      · have := tI ht hu (e ▸ eu)
        subst this
        exact absurd hst r
    refine cl_stalenessOf h ht hz h24 (fun q => ⟨fun r => absurd r ne10, fun _ => ⟨zb1, fun r => absurd r ne10, fun _ => ?_⟩⟩) (fun q q2 => ⟨fun r => absurd r ne20, fun _ => ⟨zb1, fun r => absurd r ne10, fun _ => ?_⟩⟩) (fun q q2 => ⟨fun _ => ⟨zb0, fun _ => ?_, fun r => absurd rfl r⟩, fun r => absurd rfl r⟩)
    · exact wr_ret h (fun S6 h6 hs6 => hp 0 S6 σ 1 (rr 1 (fun _ => rfl) (fun _ _ => rfl) (fun q3 => absurd q q3)) ⟨loc, ow, M, C, N, h6⟩ (fun _ => by rw [hs6, if_neg ne10]))
    · exact wr_ret h (fun S6 h6 hs6 => hp 0 S6 σ 1 (rr 1 (fun _ => rfl) (fun _ _ => rfl) (fun _ q3 => absurd q2 q3)) ⟨loc, ow, M, C, N, h6⟩ (fun _ => by rw [hs6, if_neg ne10]))
    · exact wr_ret h (fun S6 h6 hs6 => hp 0 S6 σ 0 (rr 0 (fun q3 => absurd q3 q) (fun _ q3 => absurd q3 q2) (fun _ _ => rfl)) ⟨loc, ow, M, C, N, h6⟩ (fun _ => by rw [hs6, if_pos rfl]))
  · unfold v_X6_isStale bv_X6_isStale_28 bv_X6_isStale_29
    refine rf_activeP h.wf (fun u hu eu _ => absurd eu (neg_nI (by omega) hx hu)) (fun u hu eu _ => absurd eu (neg_nI (by omega) hx hu)) (fun q σ2 e2 => ?_)
    rw [e2]
    exact ⟨fun _ => ⟨zb0, eqv.th σ 1, rfl, fun q => absurd q ne10⟩, fun q => absurd q ne10⟩
  · unfold v_X6_isStale bv_X6_isStale_28 bv_X6_isStale_29
    refine rf_activeP h.wf (fun u hu eu r => ?_) (fun u hu eu _ σ2 e2 => ?_) (fun q => absurd e (neg_nI (by omega) q ht))
    · have := tI ht hu (e ▸ eu)
      subst this
      exact absurd r hst
    · rw [e2]
      exact ⟨fun _ => ⟨zb0, eqv.th σ 2, rfl, fun q => absurd q ne20⟩, fun q => absurd q ne20⟩
theorem sp_writerOf : Sp_writerOf := by
  intro S l1 l2 l3 l4 loc ow σ M C N x0 post h hp
  have h : Mid S l1 l2 l3 l4 loc ow σ σ M C N := h
  have hM := h.M80
  have hw := wf_eqv (eqv.th σ 0) h.wf
  obtain ⟨a1, a2, a3⟩ := h.his
  unfold w_L_writerOf w_X5_writerOf
  refine ⟨h.k1, cl_requireKey (fun k hk e => ⟨h.k1, by rw [a1]; exact a2, ?_⟩) (fun hx => ⟨rfl, hp 1 S σ 0 ?_ ⟨loc, ow, M, C, N, h⟩ (fun q => absurd q ne10)⟩)⟩
  · rw [e, a1]
    refine cl_latestWriter h hk (wr_ret h (fun S6 h6 hs6 => hp 0 S6 σ _ ?_ ⟨loc, ow, M, C, N, h6⟩ (fun _ => hs6)))
    unfold v_X6_writerOf bv_X6_writerOf_31
    intro σ1 e1
    rw [e1, e]
    refine rf_isKey (fun k2 hk2 e2 => ⟨fun q => absurd q ne10, fun _ => ?_⟩) (fun q => absurd (key_nI.mpr ⟨k, hk, rfl⟩) q)
    rw [hw.2.2.1, nI_1]
    refine rf_lastWriter hw hk (Nat.le_refl C) ⟨eqv.th σ 0, rfl, fun _ => ?_⟩
    rw [LW_2 (σ' := sF σ 0 0) (σ := σ) rfl]
  · unfold v_X6_writerOf bv_X6_writerOf_31
    intro σ1 e1
    rw [e1]
    refine rf_isKey (fun k2 hk2 e2 => absurd (key_nI.mpr ⟨k2, hk2, e2⟩) hx) (fun q => ⟨fun _ => rf_fail ⟨?_, rfl, fun q => absurd q ne10⟩, fun q => absurd rfl q⟩)
    rw [sF_sF]
    exact eqv.th σ 1
