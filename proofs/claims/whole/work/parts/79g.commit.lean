/-! commit: both sides -/
theorem mid_eqv {S : MS} {l1 l2 l3 l4 : Nat} {loc ow : Nat → Nat} {σ σ1 σ2 : Sg} {M C N : Nat} (h : Mid S l1 l2 l3 l4 loc ow σ σ1 M C N) (he : eqv σ2 σ1) : Mid S l1 l2 l3 l4 loc ow σ σ2 M C N := by
  obtain ⟨m1, m2, m3, m4, m5, m6, m7, m8, m9, m10, m11, m12, m13, m14⟩ := h
  exact ⟨m1, m2, m3, m4, m5, m6, m7, m8, fun r hr => m9 r (us_eqv he hr), m10, wf_eqv he m11, rc_eqv he m12, m13, m14⟩
noncomputable def aP (σ : Sg) (C t M : Nat) : Sg := if σ.1 17 = 1 then aR σ C t M else σ
def CmO (σ : Sg) (M C N t z : Nat) (r : Int32) (σ' : Sg) (C' : Nat) : Prop := (Bk σ C t ∧ r = -1 ∧ σ' = σ ∧ C' = C) ∨ (¬ Bk σ C t ∧ (∃ q, Rs σ M C N t z q ∧ ¬ q = 0 ∧ σ' = eW σ t q) ∧ r = -2 ∧ C' = C) ∨ (¬ Bk σ C t ∧ Rs σ M C N t z 0 ∧ σ' = cG (aP σ C t M) C t ∧ r = nI (C + 1) ∧ C' = C + 1)
theorem aP_row (σ : Sg) (C t M : Nat) : (∀ j, j ≠ 13 → (aP σ C t M).1 j = σ.1 j) ∧ (aP σ C t M).2 2 t = σ.2 2 t ∧ (aP σ C t M).2 7 = σ.2 7 := by
  unfold aP
  by_cases q : σ.1 17 = 1
  · rw [if_pos q]
    obtain ⟨a1, a2, a3⟩ := aR_row σ C t M
    exact ⟨a1, a3 t (Or.inr rfl), a2 7 (by decide) (by decide)⟩
  · rw [if_neg q]
    exact ⟨fun _ _ => rfl, rfl, rfl⟩
theorem CmO.th {σ σ' : Sg} {M C N t z C' : Nat} {r : Int32} (h : CmO σ M C N t z r σ' C') : σ'.1 0 = σ.1 0 := by
  rcases h with ⟨_, _, e, _⟩ | ⟨_, ⟨q, _, _, e⟩, _, _⟩ | ⟨_, _, e, _, _⟩
  · rw [e]
  · rw [e]; exact (eW_row σ t q).1 0 (by decide)
  · rw [e]
    show (cA (aP σ C t M) C t).1 0 = _
    rw [(cA_row _ C t).1 0 (by decide), (aP_row σ C t M).1 0 (by decide)]
section CMC
variable {S : MS} {l1 l2 l3 l4 : Nat} {loc ow : Nat → Nat} {σ σ1 : Sg} {M C N : Nat}
theorem cl_ctail (h : Mid S l1 l2 l3 l4 loc ow σ σ1 M C N) (hC : C < 60) {t : Nat} (ht : t < M) (hst : σ1.2 2 t = 0) {q : Int32} {post : Int32 → MS → Prop} (hp : ∀ S', Mid S' l1 l2 l3 l4 loc ow σ (cG σ1 C t) M (C + 1) N → post (nI (C + 1)) S') : b_X5_tryToCommit_42 post S l1 (loc (200 + t)) q := by
  obtain ⟨a1, a2, a3⟩ := h.his
  unfold b_X5_tryToCommit_42
  rw [a1]
  refine ⟨h.k1, a2, cl_append h hC ht (fun S3 h3 => ⟨h3.k1, cl_releaseTicket h3 ht (fun S6 h6 => ?_)⟩)⟩
  rw [(cA_row σ1 C t).1 13 (by decide)] at h6
  have tx := h6.tx ht
  rw [tx.2.2.2.2.2.2.2.2.2.2.2.2.2.2.2.2.1]
  have e5 : (sF (cA σ1 C t) 13 (if σ1.1 13 = nI t then -1 else σ1.1 13)).2 5 t = nI (C + 1) := by
    show (cA σ1 C t).2 5 t = _
    rw [(cA_row σ1 C t).2.2.2.2.1, if_pos rfl]
  rw [e5]
  exact ⟨tx.1, hp S6 (h6.mid (wf_cG h.wf hC ht hst))⟩
theorem cl_tryToCommit (h : Mid S l1 l2 l3 l4 loc ow σ σ1 M C N) (hC : C < 60) {t z : Nat} (ht : t < M) (hst : σ1.2 2 t = 0) (hz : σ1.2 7 t = nI z) (h24 : z ≤ 24) {post : Int32 → MS → Prop} (hp : ∀ r S' σ' C', CmO σ1 M C N t z r σ' C' → Mid S' l1 l2 l3 l4 loc ow σ σ' M C' N → post r S') : w_X5_tryToCommit S l1 (loc (200 + t)) post := by
  have hM := h.M80
  unfold w_X5_tryToCommit
  refine ⟨h.k1, cl_isBlocked h ht ⟨fun g => ⟨h.k1, cl_reason h ht hz h24 (fun q S' hr h' => ⟨fun e0 => ?_, fun e0 => ⟨h'.k1, cl_endInAbort h'.mr ht (fun S12 h12 => hp (-2) S12 (eW σ1 t q) C (Or.inr (Or.inl ⟨bI_z.mp g, ⟨q, hr, e0, rfl⟩, rfl, rfl⟩)) (h12.mid (wf_eW h.wf ht (fun c h1 hc e => ?_) q)))⟩⟩)⟩, fun g => hp (-1) S σ1 C (Or.inl ⟨bI_nz.mp g, rfl, rfl, rfl⟩) h⟩⟩
  · rw [e0] at hr ⊢
    rw [h'.mr.scal.2.2.1]
    refine ⟨h'.k1, fun q1 => cl_ctail h' hC ht hst (fun S6 h6 => hp _ S6 _ (C + 1) (Or.inr (Or.inr ⟨bI_z.mp g, hr, ?_, rfl, rfl⟩)) h6), fun q1 => ⟨M + 1, cl_ar_loop (C := C) (t := t) h'.wf ht (fun S8 h8 => cl_ctail h8 hC ht (((aR_row σ1 C t M).2.2 t (Or.inr rfl)).trans hst) (fun S6 h6 => hp _ S6 _ (C + 1) (Or.inr (Or.inr ⟨bI_z.mp g, hr, ?_, rfl, rfl⟩)) h6)) M 0 S' (by omega) h'⟩⟩
    · unfold aP; rw [if_neg q1]
    · unfold aP; rw [if_pos q1]
  · have := (h.wf.com h1 hc).2.2.1
    rw [e, hst] at this
    exact absurd this (by decide)
end CMC
section CMR
variable {σ : Sg} {M C N : Nat}
def Lo (σ : Sg) (C t o : Nat) : Prop := σ.1 18 = 2 ∧ Riv σ C t o ∧ ¬ σ.2 7 o ≤ σ.2 7 t
theorem rf_lo_loop (hw : WF σ M C N) (po : PO σ M) {t : Nat} (ht : t < M) {P : Int32 → Sg → Prop} (h : P (bI (σ.1 18 = 0 ∨ exq (Lo σ C t) M)) σ) : ∀ n i, i + n = M → bv_X6_loses_15 P (n + 1) σ (nI t) (bI (σ.1 18 = 0 ∨ exq (Lo σ C t) i)) (nI i) := by
  have hM := hw.2.1
  intro n
  induction n with
  | zero =>
    intro i hi
    have e : i = M := by omega
    subst e
    rw [bv_X6_loses_15]
    dsimp only
    rw [hw.1]
    exact ⟨fun _ => ⟨bI_n _, h⟩, fun q => absurd (Int32.le_refl _) q⟩
  | succ n ih =>
    intro i hi
    have hi' : i < M := by omega
    have hs := ih (i + 1) (by omega)
    rw [bv_X6_loses_15]
    dsimp only
    simp only [bv_X6_loses_59, bv_X6_loses_63, bv_X6_loses_64]
    rw [hw.1, ix_nI (by omega), ix_nI (by omega)]
    refine ⟨fun q => absurd q (nI_ge hi' (by omega)), fun _ => ⟨fun g v hv => ?_, fun g => ⟨fun g1 v hv => ?_, fun g1 => rf_isRival hw po ht hi' ⟨fun g2 v hv => ?_, fun g2 => ⟨vp_in_nI (by omega) (by omega), vp_in_nI (by omega) (by omega), fun g3 v hv => ?_, fun g3 v hv => ?_⟩⟩⟩⟩⟩
    · rw [eo1 g] at hs
      rw [hv, nI_1]; exact hs
    · rw [eo3 g (fun r => g1 r.1)] at hs
      rw [hv, nI_1]; exact hs
    · rw [eo3 g (fun r => bI_z.mp g2 r.2.1)] at hs
      rw [hv, nI_1]; exact hs
    · rw [eo3 g (fun r => r.2.2 g3)] at hs
      rw [hv, nI_1]; exact hs
    · rw [eo2 (P := Lo σ C t) ⟨g1, bI_nz.mp g2, g3⟩] at hs
      rw [hv, nI_1]; exact hs
theorem rf_loses (hw : WF σ M C N) (po : PO σ M) {t : Nat} (ht : t < M) {P : Int32 → Sg → Prop} (h : P (bI (σ.1 18 = 0 ∨ exq (Lo σ C t) M)) σ) : v_X6_loses σ (nI t) P := by
  have l := rf_lo_loop hw po ht h M 0 (by omega)
  unfold v_X6_loses bv_X6_loses_12
  refine ⟨fun q => ⟨M + 1, ?_⟩, fun q => ⟨M + 1, ?_⟩⟩
  · rw [bI_0 (fun r => r.elim q exq_0)] at l
    exact l
  · rw [bI_1 (Or.inl q)] at l
    exact l
theorem rf_84 (hw : WF σ M C N) {t : Nat} (ht : t < M) {P : Int32 → Sg → Prop} {l2 : Int32} (hl : l2 ≤ 0) (h4 : exq (Vi σ (vwd σ C t)) N → ∀ l3, bv_X6_doCommit_114 P σ (nI t) l2 l3 4) (h0 : ¬ exq (Vi σ (vwd σ C t)) N → ∀ l3, bv_X6_doCommit_114 P σ (nI t) l2 l3 0) : bv_X6_doCommit_84 P σ (nI t) l2 0 := by
  have hM := hw.2.1
  unfold bv_X6_doCommit_84
  refine ⟨fun _ => ⟨fun _ => rf_violates (f := vwd σ C t) hw (fun k hk => (hw.vrg ht k hk).1) (fun k hk Q hQ => ⟨fun _ => rf_viewed (by omega) hk hw.2.2.2.1 hw.2.2.1 hQ, fun q => absurd q (nIm1 (show t < 2 ^ 31 by omega))⟩) ⟨fun g => h0 (bI_z.mp g) 0, fun g => h4 (bI_nz.mp g) 0⟩, fun q => absurd rfl q⟩, fun q => absurd hl q⟩
theorem le00 : (0 : Int32) ≤ 0 := Int32.le_refl _
theorem nle10 : ¬ (1 : Int32) ≤ 0 := by decide
theorem nle20 : ¬ (2 : Int32) ≤ 0 := by decide
theorem ne01 : ¬ (0 : Int32) = 1 := by decide
theorem rf_30 (hw : WF σ M C N) (po : PO σ M) {t z : Nat} (ht : t < M) (hz : σ.2 7 t = nI z) (h24 : z ≤ 24) {r : Int32} (hr : Rs σ M C N t z r) {P : Int32 → Sg → Prop} (h : ∀ l2 l3, bv_X6_doCommit_114 P σ (nI t) l2 l3 r) : bv_X6_doCommit_30 P σ (nI t) := by
  have hM := hw.2.1
  unfold bv_X6_doCommit_30 bv_X6_doCommit_46 bv_X6_doCommit_83
  rcases hr with ⟨p0, hr⟩ | ⟨p1, hr⟩
  · rw [p0]
    refine ⟨fun q => absurd rfl q, fun _ => rf_stale hw po ht hz h24 (fun g1 => ?_) (fun g1 g2 => ?_) (fun g1 g2 => ?_)⟩
    · rw [p0]
      refine ⟨fun _ => ⟨fun q => absurd q nle10, fun _ => ?_⟩, fun q => absurd q ne01⟩
      rcases hr with ⟨_, e⟩ | ⟨x, _⟩ | ⟨x, _⟩ | ⟨x, _⟩
      · rw [e] at h; exact h _ _
      · exact absurd g1 x
      · exact absurd g1 x
      · exact absurd g1 x
    · rw [p0]
      refine ⟨fun _ => ⟨fun q => absurd q nle20, fun _ => ?_⟩, fun q => absurd q ne01⟩
      rcases hr with ⟨x, _⟩ | ⟨_, _, e⟩ | ⟨_, x, _⟩ | ⟨_, x, _⟩
      · exact absurd x g1
      · rw [e] at h; exact h _ _
      · exact absurd g2 x
      · exact absurd g2 x
    · rw [p0]
      refine ⟨fun _ => rf_84 hw ht le00 (fun v l3 => ?_) (fun v l3 => ?_), fun q => absurd q ne01⟩
      · rcases hr with ⟨x, _⟩ | ⟨_, x, _⟩ | ⟨_, _, _, e⟩ | ⟨_, _, x, _⟩
        · exact absurd x g1
        · exact absurd x g2
        · rw [e] at h; exact h _ _
        · exact absurd v x
      · rcases hr with ⟨x, _⟩ | ⟨_, x, _⟩ | ⟨_, _, x, e⟩ | ⟨_, _, _, e⟩
        · exact absurd x g1
        · exact absurd x g2
        · exact absurd x v
        · rw [e] at h; exact h _ _
  · rw [p1]
    have pass : ¬ Ls σ M C t → bv_X6_doCommit_84 P σ (nI t) 0 0 := fun hl => by
      refine rf_84 hw ht le00 (fun v l3 => ?_) (fun v l3 => ?_)
      · rcases hr with ⟨x, _⟩ | ⟨_, _, e⟩ | ⟨_, x, _⟩
        · exact absurd x hl
        · rw [e] at h; exact h _ _
        · exact absurd v x
      · rcases hr with ⟨x, _⟩ | ⟨_, x, _⟩ | ⟨_, _, e⟩
        · exact absurd x hl
        · exact absurd x v
        · rw [e] at h; exact h _ _
    refine ⟨fun _ => ⟨fun q => absurd rfl q, fun _ => ⟨fun q => pass (fun r => r.1 q), fun q => rf_countRivals hw po ht ?_⟩⟩, fun q => absurd q ne10⟩
    obtain ⟨m, hm, em, e0⟩ := isum_nI (P := Riv σ C t) M (by omega)
    rw [em]
    refine ⟨fun g => pass (fun r => ?_), fun g => rf_loses hw po ht ⟨fun g2 => pass (fun r => bI_z.mp g2 ?_), fun g2 => ?_⟩⟩
    · have : m = 0 := Nat.eq_zero_of_not_pos (fun x => nI_ge (a := 0) (b := m) x (by omega) g)
      obtain ⟨o, ho, ro, _⟩ := r.2.2
      exact e0.mp this ⟨o, ho, ro⟩
    · rcases hw.2.2.2.2.2.2.2.2.2.2.2.2.1 with v | v | v
      · exact Or.inl v
      · exact absurd v r.2.1
      · obtain ⟨o, ho, ro, r2⟩ := r.2.2
        exact Or.inr ⟨o, ho, v, ro, r2 v⟩
    · have hl : Ls σ M C t := by
        refine ⟨q, ?_⟩
        rcases bI_nz.mp g2 with v | ⟨o, ho, v, ro, r2⟩
        · refine ⟨by rw [v]; exact ne01, ?_⟩
          have : ¬ m = 0 := fun x => g (by rw [x]; exact le00)
          have : exq (Riv σ C t) M := Classical.byContradiction (fun x => this (e0.mpr x))
          obtain ⟨o, ho, ro⟩ := this
          exact ⟨o, ho, ro, fun x => absurd (v.symm.trans x) (by decide)⟩
        · exact ⟨by rw [v]; decide, o, ho, ro, fun _ => r2⟩
      unfold bv_X6_doCommit_84
      refine ⟨fun _ => ⟨fun x => absurd x ne10, fun _ => ?_⟩, fun x => absurd le00 x⟩
      rcases hr with ⟨_, e⟩ | ⟨x, _⟩ | ⟨x, _⟩
      · rw [e] at h; exact h _ _
      · exact absurd hl x
      · exact absurd hl x
theorem rf_177 {t : Nat} (ht : t < 80) (hC : C < 60) (h14 : σ.1 14 = nI C) {l2 l3 l4 : Int32} {P : Int32 → Sg → Prop} (h : P (nI (C + 1)) (cG σ C t)) : ∀ n k, k + n = 32 → bv_X6_doCommit_177 P (n + 1) (vf σ C t k) (nI t) l2 l3 l4 (nI k) := by
  intro n
  induction n with
  | zero =>
    intro k hk
    have e : k = 32 := by omega
    subst e
    rw [bv_X6_doCommit_177]
    dsimp only
    simp only [bv_X6_doCommit_268]
    rw [(vf_row σ C t 32).1, h14, nI_1, ix_nI (show t < 2 ^ 31 by omega)]
    refine ⟨fun _ σ1 e1 => ?_, fun q => absurd (Int32.le_refl _) q⟩
    have e14 : σ1.1 14 = nI (C + 1) := by rw [e1]; rfl
    rw [e14, ix_nI (by omega)]
    refine ⟨vp_in_nI (by omega) (by omega), fun σ3 e3 => ⟨vp_in_nI (by omega) (by omega), fun σ5 e5 => ⟨vp_in_nI (by omega) (by omega), fun σ7 e7 => ?_⟩⟩⟩
    have e14' : σ3.1 14 = nI (C + 1) := by rw [e3, e1]; rfl
    rw [e14'] at e5
    have e7' : σ7 = cA σ C t := by rw [e7, e5, e3, e1]; rfl
    have e13 : σ7.1 13 = σ.1 13 := by rw [e7']; exact (cA_row σ C t).1 13 (by decide)
    rw [e13]
    unfold cG at h
    refine ⟨fun q σ8 e8 => ?_, fun q σ8 e8 => ?_⟩
    · rw [if_neg q] at h
      have x : σ8.1 14 = nI (C + 1) := by rw [e8, e7']; rfl
      rw [x, e8, e7']; exact h
    · rw [if_pos q] at h
      have x : σ8.1 14 = nI (C + 1) := by rw [e8, e7']; rfl
      rw [x, e8, e7']; exact h
  | succ n ih =>
    intro k hk
    rw [bv_X6_doCommit_177]
    dsimp only
    rw [(vf_row σ C t k).1, h14, nI_1, mul32, ix_nI (show 32 * (C + 1) + k < 2 ^ 31 by omega)]
    refine ⟨fun q => absurd q (i32_lt32 (by omega)), fun _ => rf_viewed (σ := vf σ C t k) (k := k) (C := C) ht (by omega) (by omega) h14 ⟨vp_in_nI (by omega) (by omega), fun σ11 e11 v hv => ?_⟩⟩
    rw [hv, nI_1, e11, vf_v _ _ _ _ _ (by omega), vf_s]
    exact ih (k + 1) (by omega)
theorem rf_134 (hw : WF σ M C N) (po : PO σ M) (hC : C < 60) {t : Nat} (ht : t < M) {l2 l3 l4 : Int32} (hp1 : σ.1 17 = 1) {P : Int32 → Sg → Prop} (h : P (nI (C + 1)) (cG (aR σ C t M) C t)) : ∀ n i, i + n = M → bv_X6_doCommit_134 P (n + 1) (aR σ C t i) (nI t) l2 l3 l4 (nI i) := by
  have hM := hw.2.1
  intro n
  induction n with
  | zero =>
    intro i hi
    have e : i = M := by omega
    subst e
    rw [bv_X6_doCommit_134]
    dsimp only
    rw [(aR_row σ C t i).1 1 (by decide), hw.1]
    refine ⟨fun _ => ⟨33, ?_⟩, fun q => absurd (Int32.le_refl _) q⟩
    have := rf_177 (σ := aR σ C t i) (C := C) (t := t) (l2 := l2) (l3 := l3) (l4 := l4) (by omega) hC (by rw [(aR_row σ C t i).1 14 (by decide)]; exact hw.2.2.1) h 32 0 (by omega)
    rw [vf_0] at this
    exact this
  | succ n ih =>
    intro i hi
    have hi' : i < M := by omega
    have wi := wf_aR hw (t := t) i (by omega)
    have pi := PO_5 (aR_row σ C t i).2.1 po
    have hs := ih (i + 1) (by omega)
    rw [bv_X6_doCommit_134]
    dsimp only
    simp only [bv_X6_doCommit_168]
    rw [(aR_row σ C t i).1 1 (by decide), hw.1, (aR_row σ C t i).1 17 (by decide), hp1]
    refine ⟨fun q => absurd q (nI_ge hi' (by omega)), fun _ => ⟨fun q => absurd rfl q, fun _ => rf_isRival wi pi ht hi' ⟨fun g v hv => ?_, fun g => rf_endWith (by omega) (fun v hv => ?_)⟩⟩⟩
    · rw [aR, @if_neg _ (Classical.propDecidable _) (fun x => bI_z.mp g (aR_riv.mpr x))] at hs
      rw [hv, nI_1]; exact hs
    · rw [aR, @if_pos _ (Classical.propDecidable _) (aR_riv.mp (bI_nz.mp g))] at hs
      rw [hv, nI_1]; exact hs
theorem rf_doCommit (hw : WF σ M C N) (po : PO σ M) (hC : C < 60) {t z : Nat} (ht : t < M) (hz : σ.2 7 t = nI z) (h24 : z ≤ 24) {r : Int32} {σ' : Sg} {C' : Nat} (ho : CmO σ M C N t z r σ' C') {P : Int32 → Sg → Prop} (h : P r σ') : v_X6_doCommit σ (nI t) P := by
  have hM := hw.2.1
  have r30 : ¬ Bk σ C t → bv_X6_doCommit_30 P σ (nI t) := fun hb => by
    rcases ho with ⟨x, _⟩ | ⟨_, ⟨q, hq, q0, e⟩, er, _⟩ | ⟨_, hq, e, er, _⟩
    · exact absurd x hb
    · refine rf_30 hw po ht hz h24 hq (fun l2 l3 => ?_)
      unfold bv_X6_doCommit_114
      have qp : ¬ q ≤ 0 := by
        rcases hq with ⟨_, ⟨_, x⟩ | ⟨_, _, x⟩ | ⟨_, _, _, x⟩ | ⟨_, _, _, x⟩⟩ | ⟨_, ⟨_, x⟩ | ⟨_, _, x⟩ | ⟨_, _, x⟩⟩
        all_goals first | exact absurd x q0 | (rw [x]; decide)
      rw [er, e] at h
      exact ⟨fun x => absurd x qp, fun _ => rf_endWith (by omega) h⟩
    · refine rf_30 hw po ht hz h24 hq (fun l2 l3 => ?_)
      unfold bv_X6_doCommit_114
      rw [er, e] at h
      refine ⟨fun _ => ⟨M + 1, ?_⟩, fun x => absurd le00 x⟩
      by_cases p1 : σ.1 17 = 1
      · unfold aP at h
        rw [if_pos p1] at h
        exact rf_134 hw po hC ht p1 h M 0 (by omega)
      · unfold aP at h
        rw [if_neg p1] at h
        rw [bv_X6_doCommit_134]
        dsimp only
        have t174 : ∀ l5, bv_X6_doCommit_174 P σ (nI t) l2 l3 0 l5 := fun l5 => by
          have := rf_177 (σ := σ) (C := C) (t := t) (l2 := l2) (l3 := l3) (l4 := 0) (by omega) hC hw.2.2.1 h 32 0 (by omega)
          rw [vf_0] at this
          exact ⟨33, this⟩
        exact ⟨fun _ => t174 _, fun _ => ⟨fun _ => t174 _, fun q => absurd q p1⟩⟩
  have rb : Bk σ C t → P (-1) σ := fun hb => by
    rcases ho with ⟨_, er, e, _⟩ | ⟨x, _⟩ | ⟨x, _⟩
    · rw [er, e] at h; exact h
    · exact absurd hb x
    · exact absurd hb x
  unfold v_X6_doCommit
  rcases hw.2.2.2.2.2.2.2.2.2.2.1 with q | ⟨u, hu, q1, q2⟩
  · refine ⟨fun _ => r30 ?_, fun x => absurd q x⟩
    rintro ⟨u, hu, e, -⟩
    rw [q] at e
    exact nIm1 (show u < 2 ^ 31 by omega) e.symm
  · rw [q1]
    obtain ⟨zu, hzu, ezu, epu⟩ := hw.sz hu
    have bk : Bk σ C t ↔ Riv σ C t u := by
      refine ⟨fun ⟨u2, hu2, e, r⟩ => ?_, fun r => ⟨u, by omega, q1, r⟩⟩
      rw [q1, nI_eq (by omega) (by omega)] at e
      rw [e]; exact r
    refine ⟨fun x => absurd x (nIm1 (show u < 2 ^ 31 by omega)), fun _ => ⟨fun x => r30 (fun y => ?_), fun x => rf_conflicts hw ht hu (Nat.le_trans (cP_le σ u zu) hzu) epu ?_⟩⟩
    · exact (bk.mp y).1 ((nI_eq (by omega) (by omega)).mp x)
    · have ch := cf_hit po (t := u) (w := t) hu ezu hzu (bf := stf σ C) (af := fun k => σ.2 10 (32 * t + k)) (fun k _ _ => rfl)
      refine ⟨fun g => r30 (fun y => bI_z.mp g (ch.mpr (bk.mp y).2.2)), fun g => rb (bk.mpr ⟨fun e => x (by rw [e]), q2, ch.mp (bI_nz.mp g)⟩)⟩
end CMR
theorem sp_commit : Sp_commit := by
  intro S l1 l2 l3 l4 loc ow σ M C N x0 post h hp
  have h : Mid S l1 l2 l3 l4 loc ow σ σ M C N := h
  have hM := h.M80
  have hw := h.wf
  have hC := hw.2.2.2.1
  have h0 : Mid S l1 l2 l3 l4 loc ow σ (sF σ 0 0) M C N := mid_eqv h (eqv.th σ 0)
  have bad : ∀ k : Int32, ¬ k = 0 → v_X6_commit σ x0 (fun r2 σ2 => eqv σ2 σ ∧ σ2.1 0 = k ∧ (k = 0 → r2 = 0)) → post k S := fun k hk hv => hp k S σ 0 hv ⟨loc, ow, M, C, N, h⟩ (fun q => absurd q hk)
  unfold w_L_commit w_X5_commit b_X5_commit_23
  refine ⟨h.k1, h.k1, cl_find h (fun t ht e => ?_) (fun hx => Or.inl ⟨rfl, bad 1 ne10 ?_⟩)⟩
  · obtain ⟨b1, b2, b3, b4, b5, b6, b7, b8, b9, b10, b11, b12, b13, b14, b15, b16, b17, b18⟩ := h.tx ht
    obtain ⟨a1, a2, a3⟩ := h.his
    obtain ⟨z, h24, hz, -⟩ := hw.sz ht
    rw [b15, a1]
    refine ⟨b1, fun q => Or.inr ⟨rfl, bad 2 ne20 ?_⟩, fun q => ⟨h.k1, a2, ?_⟩⟩
    · unfold v_X6_commit bv_X6_commit_31 bv_X6_commit_36 bv_X6_commit_55
      refine rf_isTx hw (fun _ _ _ => ⟨fun _ => ?_, fun r => absurd r ne10⟩) (fun r => absurd e (neg_nI (by omega) r ht))
      rw [e, ix_nI (by omega)]
      refine ⟨vp_in_nI (by omega) (by omega), fun _ σ1 e1 => ?_, fun r => absurd r q⟩
      rw [e1]
      exact ⟨fun _ => ⟨eqv.th σ 2, rfl, fun r => absurd r ne20⟩, fun r => absurd r ne20⟩
    · unfold w_X1_isFull b_X1_isFull_14
      rw [a3]
      refine ⟨a2, fun g => ⟨zb0, fun _ => ⟨h.k1, ?_⟩, fun r => absurd rfl r⟩, fun g => ⟨zb1, fun r => absurd r ne10, fun _ => Or.inr ⟨rfl, bad 2 ne20 ?_⟩⟩⟩
      · have hC60 : C < 60 := Classical.byContradiction (fun x => nI_nl (a := 60) (b := C) (by omega) (by omega) g)
        refine cl_tryToCommit h0 hC60 ht q hz h24 (fun r S' σ' C' ho h' => wr_ret h' (fun S6 h6 hs6 => hp 0 S6 σ' r ?_ ⟨loc, ow, M, C', N, h6⟩ (fun _ => hs6)))
        unfold v_X6_commit bv_X6_commit_31 bv_X6_commit_36 bv_X6_commit_55
        refine rf_isTx hw (fun _ _ _ => ⟨fun _ => ?_, fun r => absurd r ne10⟩) (fun r => absurd e (neg_nI (by omega) r ht))
        rw [e, ix_nI (by omega), hw.2.2.1]
        refine ⟨vp_in_nI (by omega) (by omega), fun x => absurd q x, fun _ => ⟨fun _ σ1 e1 => ?_, fun x => ?_⟩⟩
        · rw [e1]
          exact ⟨fun x => absurd rfl x, fun _ => rf_doCommit h0.wf h0.po hC60 ht hz h24 ho ⟨eqv.rf σ', ho.th, fun _ => rfl⟩⟩
        · have : C = 60 := (nI_eq (b := 60) (by omega) (by omega)).mp x
          omega
      · have hC60 : C = 60 := by
          refine Nat.le_antisymm hC (Classical.byContradiction (fun x => g (nI_lt (a := C) (b := 60) (by omega) (by omega))))
        unfold v_X6_commit bv_X6_commit_31 bv_X6_commit_36 bv_X6_commit_55
        refine rf_isTx hw (fun _ _ _ => ⟨fun _ => ?_, fun r => absurd r ne10⟩) (fun r => absurd e (neg_nI (by omega) r ht))
        rw [e, ix_nI (by omega), hw.2.2.1, hC60]
        refine ⟨vp_in_nI (by omega) (by omega), fun x => absurd q x, fun _ => ⟨fun x => absurd rfl x, fun _ σ1 e1 => ?_⟩⟩
        rw [e1]
        exact ⟨fun _ => ⟨eqv.th σ 2, rfl, fun r => absurd r ne20⟩, fun r => absurd r ne20⟩
  · unfold v_X6_commit bv_X6_commit_31 bv_X6_commit_36 bv_X6_commit_55
    refine rf_isTx hw (fun u hu eu => absurd eu (neg_nI (by omega) hx hu)) (fun r => ⟨fun r => absurd rfl r, fun _ σ1 e1 => ?_⟩)
    rw [e1]
    exact ⟨fun _ => ⟨eqv.th σ 1, rfl, fun r => absurd r ne10⟩, fun r => absurd r ne10⟩
