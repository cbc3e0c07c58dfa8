/-! rewind -/
def eWs (σ : Sg) (c0 : Nat) : Nat → Sg
  | 0 => σ
  | n + 1 => sA (sA (eWs σ c0 n) 2 (cm σ (c0 + 1 + n)) 2) 4 (cm σ (c0 + 1 + n)) 6
theorem eWs_row (σ : Sg) (c0 : Nat) : ∀ n, (eWs σ c0 n).1 = σ.1 ∧ ∀ j, j ≠ 2 → j ≠ 4 → (eWs σ c0 n).2 j = σ.2 j
  | 0 => ⟨rfl, fun _ _ _ => rfl⟩
  | n + 1 => by
    obtain ⟨i1, i2⟩ := eWs_row σ c0 n
    refine ⟨i1, fun j h2 h4 => ?_⟩
    rw [eWs, sA_ne _ h4, sA_ne _ h2]
    exact i2 j h2 h4
theorem eWs_eqv {a b : Sg} (h : eqv a b) (c0 : Nat) : ∀ n, eqv (eWs a c0 n) (eWs b c0 n)
  | 0 => h
  | n + 1 => by
    rw [eWs, eWs, cm_e h]
    exact eqv_sA (eqv_sA (eWs_eqv h c0 n) 2 _ 2) 4 _ 6
section RWD
variable {S : MS} {l1 l2 l3 l4 : Nat} {loc ow : Nat → Nat} {σ σ1 σ2 : Sg} {M C N M2 C2 N2 : Nat}
theorem cl_tb_loop2 (hw : WF σ1 M C N) {c0 : Nat} (hc0 : c0 ≤ C) {v : Int32} {post : Int32 → MS → Prop} (hp : ∀ S', MR S' l1 l2 l3 l4 loc ow σ (sF (eWs σ1 c0 (C - c0)) 14 (nI c0)) M c0 N → post v S') : ∀ n j (S : MS), j + n = C - c0 → MR S l1 l2 l3 l4 loc ow σ (eWs σ1 c0 j) M C N → b_X1_takeBackAfter_11 post (n + 1) S (loc 2) (nI c0) v (nI (c0 + 1 + j)) := by
  have hC := hw.2.2.2.1
  intro n
  induction n with
  | zero =>
    intro j S hj h
    have e : j = C - c0 := by omega
    subst e
    rw [b_X1_takeBackAfter_11]
    dsimp only
    rw [h.scal.2.2.2.2.2.2.1, (eWs_row σ1 c0 _).1, hw.2.2.1]
    refine ⟨h.scal.2.2.2.2.2.2.2.2, fun _ S2 e2 => ?_, fun q => absurd (nI_lt (by omega) (by omega)) q⟩
    rw [e2]
    exact hp _ (mr_clock h hc0)
  | succ n ih =>
    intro j S hj h
    obtain ⟨e1, e2, -⟩ := hw.com (c := c0 + 1 + j) (by omega) (by omega)
    have hau : sR S (loc 9) (c0 + 1 + j) = loc (200 + cm σ1 (c0 + 1 + j)) := h.rc.2.2.2.2.2.2.1 (c0 + 1 + j) (by omega) (by omega) _ e1 (by rw [(eWs_row σ1 c0 j).2 16 (by decide) (by decide)]; exact e2)
    obtain ⟨-, -, -, -, -, -, -, -, -, -, -, -, -, d5, d6, -, -, -, -, -, -, -, -, -, -, -, d4, -⟩ := h.st
    rw [b_X1_takeBackAfter_11]
    dsimp only
    simp only [b_X1_takeBackAfter_39]
    rw [h.scal.2.2.2.2.2.2.1, (eWs_row σ1 c0 _).1, hw.2.2.1, d4, d6, ix_nI (by omega), hau]
    refine ⟨h.scal.2.2.2.2.2.2.2.2, fun q => absurd q (nI_nl (by omega) (by omega)), fun _ => ⟨d5, vp_in_nI (by omega) (by omega), fun r6 hr6 => ?_⟩⟩
    rw [hr6]
    refine ⟨fun q => absurd q (h.nz (us_t e1).1), fun _ => ⟨(h.tx e1).1, cl_becomeAborted h e1 (fun S' h' v1 hv1 => ?_)⟩⟩
    rw [hv1, nI_1]
    exact ih (j + 1) S' (by omega) h'
theorem wf_eWs (hw : WF σ1 M C N) {c0 : Nat} (hc0 : c0 ≤ C) : ∀ n, n ≤ C - c0 → WF (sF (eWs σ1 c0 n) 14 (nI c0)) M c0 N
  | 0, _ => by
    obtain ⟨w1, w2, w3, w4, w5, w6, w7, w8, w9, w10, w11, w12, w13, w14, w15, w16, w17⟩ := hw
    have hcP := cP_8 (σ' := sF (eWs σ1 c0 0) 14 (nI c0)) (σ := σ1) rfl
    refine ⟨w1, w2, rfl, by omega, w5, w6, ?_, w8, fun c hc => w9 c (by omega), fun c h1 hc => w10 c h1 (by omega), w11, w12, w13, w14, w15, w16, w17⟩
    simp only [hcP]
    exact w7
  | n + 1, hn => by
    have ih := wf_eWs hw hc0 n (by omega)
    obtain ⟨e1, e2, e3, e4, -⟩ := hw.com (c := c0 + 1 + n) (by omega) (by omega)
    have hM := hw.2.1
    have hC := hw.2.2.2.1
    have r := eWs_row σ1 c0 n
    have hcm : ∀ c, cm (sF (eWs σ1 c0 n) 14 (nI c0)) c = cm σ1 c := fun c => by
      show ix ((eWs σ1 c0 n).2 16 c) = _
      rw [r.2 16 (by decide) (by decide)]; rfl
    have := wf_eW ih e1 (fun c h1 hc q => ?_) 6
    · unfold eW at this
      have ht : ¬ (sF (eWs σ1 c0 n) 14 (nI c0)).1 13 = nI (cm σ1 (c0 + 1 + n)) := by
        show ¬ (eWs σ1 c0 n).1 13 = _
        rw [r.1]
        intro q
        rcases hw.2.2.2.2.2.2.2.2.2.2.1 with z | ⟨u, hu, z1, z2⟩
        · rw [z] at q
          exact nI_pos (n := cm σ1 (c0 + 1 + n)) (by omega) (by rw [← q]; decide)
        · rw [z1, nI_eq (by omega) (by omega)] at q
          rw [q, e3] at z2
          exact absurd z2 (by decide)
      rw [if_neg ht] at this
      have e : sF (sA (sA (sF (eWs σ1 c0 n) 14 (nI c0)) 2 (cm σ1 (c0 + 1 + n)) 2) 4 (cm σ1 (c0 + 1 + n)) 6) 13 ((sF (eWs σ1 c0 n) 14 (nI c0)).1 13) = sF (eWs σ1 c0 (n + 1)) 14 (nI c0) := sF_same (sF (eWs σ1 c0 (n + 1)) 14 (nI c0)) 13
      rw [e] at this
      exact this
    · rw [hcm] at q
      have q4 := (hw.com h1 (show c ≤ C by omega)).2.2.2.1
      rw [q, e4, nI_eq (by omega) (by omega)] at q4
      omega
end RWD
theorem rf_rw_loop {σ0 : Sg} {M C N : Nat} (hw : WF σ0 M C N) {c0 : Nat} (hc0 : c0 ≤ C) {v : Int32} {P : Int32 → Sg → Prop} (hp : P v (sF (eWs σ0 c0 (C - c0)) 14 (nI c0))) : ∀ n j, j + n = C - c0 → bv_X6_rewind_52 P (n + 1) (eWs σ0 c0 j) (nI c0) v (nI (c0 + 1 + j)) := by
  have hM := hw.2.1
  have hC := hw.2.2.2.1
  intro n
  induction n with
  | zero =>
    intro j hj
    have e : j = C - c0 := by omega
    subst e
    rw [bv_X6_rewind_52]
    dsimp only
    rw [(eWs_row σ0 c0 _).1, hw.2.2.1]
    refine ⟨fun _ σ1 e1 => ?_, fun q => absurd (nI_lt (by omega) (by omega)) q⟩
    rw [e1]; exact hp
  | succ n ih =>
    intro j hj
    obtain ⟨e1, e2, e3, -⟩ := hw.com (c := c0 + 1 + j) (by omega) (by omega)
    rw [bv_X6_rewind_52]
    dsimp only
    rw [(eWs_row σ0 c0 _).1, hw.2.2.1, ix_nI (by omega), (eWs_row σ0 c0 j).2 16 (by decide) (by decide), e2]
    refine ⟨fun q => absurd q (nI_nl (by omega) (by omega)), fun _ => ⟨vp_in_nI (by omega) (by omega), rf_endWith (by omega) (fun v4 hv4 => ?_)⟩⟩
    rw [hv4, nI_1]
    have ht : ¬ (eWs σ0 c0 j).1 13 = nI (cm σ0 (c0 + 1 + j)) := by
      rw [(eWs_row σ0 c0 j).1]
      intro q
      rcases hw.2.2.2.2.2.2.2.2.2.2.1 with z | ⟨u, hu, z1, z2⟩
      · rw [z] at q
        exact nI_pos (n := cm σ0 (c0 + 1 + j)) (by omega) (by rw [← q]; decide)
      · rw [z1, nI_eq (by omega) (by omega)] at q
        rw [q, e3] at z2
        exact absurd z2 (by decide)
    have := ih (j + 1) (by omega)
    have e : eW (eWs σ0 c0 j) (cm σ0 (c0 + 1 + j)) 6 = eWs σ0 c0 (j + 1) := by
      unfold eW
      rw [if_neg ht]
      exact sF_same (eWs σ0 c0 (j + 1)) 13
    rw [e]
    exact this
theorem sp_rewind : Sp_rewind := by
  intro S l1 l2 l3 l4 loc ow σ M C N x0 post h hp
  have h : Mid S l1 l2 l3 l4 loc ow σ σ M C N := h
  have hw := h.wf
  have hC := h.C60
  have no : ∀ {a : Int32}, (¬ (nI 0 ≤ a ∧ a ≤ nI C)) → ∀ {c : Nat}, c ≤ C → ¬ a = nI c := fun {a} q {c} c2 e => q ((com_nI (z := 0) hC (by omega)).mpr ⟨c, by omega, c2, e⟩)
  unfold w_L_rewind w_X5_rewind
  refine ⟨h.k1, h.k1, cl_requireCommit h (z := 0) (by omega) (fun c0 _ hc0 ec => ⟨h.k1, cl_countInState h ⟨fun hn => ⟨h.k1, ?_⟩, fun hn => Or.inr ⟨rfl, hp 2 S σ 0 ?_ ⟨loc, ow, M, C, N, h⟩ (fun q => absurd q ne20)⟩⟩⟩) (fun hx => Or.inl ⟨rfl, hp 1 S σ 0 ?_ ⟨loc, ow, M, C, N, h⟩ (fun q => absurd q ne10)⟩)⟩
  · obtain ⟨a1, a2, a3⟩ := h.his
    rw [a1]
    refine ⟨a2, a2, fun v2 hv2 v3 hv3 => ⟨C - c0 + 1, ?_⟩⟩
    rw [hv3, ec, nI_1]
    refine cl_tb_loop2 hw hc0 (fun S' h' => ?_) (C - c0) 0 S (by omega) h.mr
    have hm := h'.mid (wf_eWs hw hc0 (C - c0) (Nat.le_refl _))
    refine wr_ret hm (fun S6 h6 hs6 => hp 0 S6 (sF (eWs σ c0 (C - c0)) 14 (nI c0)) _ ?_ ⟨loc, ow, M, c0, N, h6⟩ (fun _ => hs6))
    unfold v_X6_rewind bv_X6_rewind_29
    rw [hw.2.2.1, ec]
    refine rf_isIn (fun _ => ⟨fun _ => rf_activeNow hw ⟨fun _ σ1 e1 => ?_, fun q => absurd hn q⟩, fun q => absurd q ne10⟩) (fun q => absurd rfl (no q hc0))
    rw [e1]
    refine ⟨fun _ w2 hw2 w3 hw3 => ⟨C - c0 + 1, ?_⟩, fun q => absurd rfl q⟩
    rw [hw3, nI_1]
    refine rf_rw_loop (wf_eqv (eqv.th σ 0) hw) hc0 ⟨eqv_sF (eWs_eqv (eqv.th σ 0) c0 _) 14 _, ?_, fun _ => ?_⟩ (C - c0) 0 (by omega)
    · show (eWs (sF σ 0 0) c0 (C - c0)).1 0 = 0
      rw [(eWs_row (sF σ 0 0) c0 _).1]; rfl
    · rw [hw2, hv2, a3, ec]
      show σ.1 14 - nI c0 = _
      rw [hw.2.2.1]
  · unfold v_X6_rewind bv_X6_rewind_29
    rw [hw.2.2.1]
    refine rf_isIn (fun _ => ⟨fun _ => rf_activeNow hw ⟨fun q => absurd q hn, fun _ σ1 e1 => ?_⟩, fun q => absurd q ne10⟩) (fun q => absurd ec (no q hc0))
    rw [e1]
    exact ⟨fun q => absurd q ne20, fun _ => ⟨eqv.th σ 2, rfl, fun q => absurd q ne20⟩⟩
  · unfold v_X6_rewind bv_X6_rewind_29
    rw [hw.2.2.1]
    refine rf_isIn (fun q => absurd q hx) (fun _ => ⟨fun q => absurd rfl q, fun _ σ1 e1 => ?_⟩)
    rw [e1]
    exact ⟨fun q => absurd q ne10, fun _ => ⟨eqv.th σ 1, rfl, fun q => absurd q ne10⟩⟩
/-! new cells -/
theorem sm_pI {S : MS} {a k : Nat} {v : Int32} {b : Nat} (h : b ≠ a) : Sm S (pI S a k v) b := ⟨rfl, u2_ne _ _ _ h, rfl⟩
theorem sm_pR {S : MS} {a k v : Nat} {b : Nat} (h : b ≠ a) : Sm S (pR S a k v) b := ⟨rfl, rfl, u2_ne _ _ _ h⟩
theorem sm_nw {S : MS} {q t n : Nat} {b : Nat} (h : b ≠ q) : Sm S (nw S q t n) b := by
  refine ⟨?_, ?_, ?_⟩
  · simp [nw, h]
  · funext j; simp [sI, nw, h]
  · funext j; simp [sR, nw, h]
theorem sI_nw (S : MS) (q t n j : Nat) : sI (nw S q t n) q j = 0 := by simp [sI, nw]
theorem sR_nw (S : MS) (q t n j : Nat) : sR (nw S q t n) q j = 0 := by simp [sR, nw]
theorem mr_mk {S S' : MS} {l1 l2 l3 l4 : Nat} {loc ow loc' ow' : Nat → Nat} {σ σ1 σ2 : Sg} {M C N M2 C2 N2 : Nat} (h : MR S l1 l2 l3 l4 loc ow σ σ1 M C N) (hl : ∀ r, 5000 ≤ r → loc' r = loc r) (hl1 : loc' 1 = loc 1) (hs0 : Sm S S' 0) (hsm : ∀ r, Us σ1 M N r → 5000 ≤ r → Sm S S' (loc r)) (hus : ∀ r, Us σ2 M2 N2 r → ow' (loc' r) = r ∧ kT S' (loc' r) ≠ 0) (hnz : ∀ a, kT S' a ≠ 0 → a ≠ 0) (hb : M2 ≤ 80 ∧ C2 ≤ 60 ∧ N2 ≤ 3) (hc : RC S' loc' σ2 M2 C2 N2) : MR S' l1 l2 l3 l4 loc' ow' σ σ2 M2 C2 N2 := by
  obtain ⟨m1, m2, m3, m4, m5, m6, m7, m8, m9, m10, m11, m12, m13, m14⟩ := h
  have s2 : Sm S S' l2 := by rw [← m2]; exact hsm _ us_m.1 (by omega)
  have s3 : Sm S S' l3 := by rw [← m3]; exact hsm _ us_m.2.1 (by omega)
  have s4 : Sm S S' l4 := by rw [← m4]; exact hsm _ us_m.2.2 (by omega)
  refine ⟨hl1.trans m1, (hl _ (by omega)).trans m2, (hl _ (by omega)).trans m3, (hl _ (by omega)).trans m4, by rw [s3.T]; exact m5, by rw [s3.L]; exact m6, by rw [s4.T]; exact m7, by rw [s4.L]; exact m8, hus, hnz, hb, hc, rm_same m13 (fun k => ?_) s2, fun k => ?_⟩
  · by_cases hk : lenA k = 0
    · rw [(m14 k).2 hk]; exact hs0
    · rw [(m14 k).1 hk]; exact hsm _ (us_k hk) (by omega)
  · rw [s2.2.2, hl _ (by omega)]; exact m14 k
/-- what a new transaction's cells hold -/
def NT (S S' : MS) (q1 q6 q13 q22 : Nat) (a1 a2 : Int32) : Prop := (∀ a, a ≠ q1 → a ≠ q6 → a ≠ q13 → a ≠ q22 → Sm S S' a) ∧ (q1 ≠ q6 ∧ q1 ≠ q13 ∧ q1 ≠ q22 ∧ q6 ≠ q13 ∧ q6 ≠ q22 ∧ q13 ≠ q22) ∧ (kT S q1 = 0 ∧ kT S q6 = 0 ∧ kT S q13 = 0 ∧ kT S q22 = 0) ∧ (q1 ≠ 0 ∧ q6 ≠ 0 ∧ q13 ≠ 0 ∧ q22 ≠ 0) ∧ kT S' q1 = 5 ∧ kT S' q6 = 12 ∧ kL S' q6 = 24 ∧ kT S' q13 = 9 ∧ kL S' q13 = 32 ∧ kT S' q22 = 9 ∧ kL S' q22 = 32 ∧ sR S' q1 2 = q6 ∧ sR S' q1 3 = q13 ∧ sR S' q1 4 = q22 ∧ sI S' q1 0 = a1 ∧ sI S' q1 1 = a2 ∧ ∀ j, 2 ≤ j → sI S' q1 j = 0
set_option maxHeartbeats 1000000 in
theorem cl_txInit {S : MS} {q1 : Nat} (hq : kT S q1 = 0) (hz : ¬ q1 = 0) {a1 a2 : Int32} {post : MS → Prop} (hp : ∀ S' q6 q13 q22, NT S S' q1 q6 q13 q22 a1 a2 → post S') : w_X4_init (nw S q1 5 0) q1 a1 a2 post := by
  unfold w_X4_init
  refine ⟨kT_nw _ _ _ _, fun S2 e2 S4 e4 q6 k6 z6 S7 e7 S10 e10 q13 k13 z13 S14 e14 S18 e18 q22 k22 z22 S23 e23 S28 e28 S33 e33 => ?_⟩
  have kt4 : ∀ a, kT S4 a = kT (nw S q1 5 0) a := fun a => by rw [e4, e2]; rfl
  have n6 : q6 ≠ q1 := fun e => by rw [e, kt4, kT_nw] at k6; exact absurd k6 (by decide)
  have o6 : kT S q6 = 0 := by rw [kt4] at k6; rw [← (sm_nw (S := S) (t := 5) (n := 0) n6).T]; exact k6
  have kt10 : ∀ a, kT S10 a = kT (nw S4 q6 12 24) a := fun a => by rw [e10, e7]; rfl
  have n13 : q13 ≠ q6 := fun e => by rw [e, kt10, kT_nw] at k13; exact absurd k13 (by decide)
  have k13' : kT S4 q13 = 0 := by rw [kt10] at k13; rw [← (sm_nw (S := S4) (t := 12) (n := 24) n13).T]; exact k13
  have n131 : q13 ≠ q1 := fun e => by rw [e, kt4, kT_nw] at k13'; exact absurd k13' (by decide)
  have o13 : kT S q13 = 0 := by rw [kt4] at k13'; rw [← (sm_nw (S := S) (t := 5) (n := 0) n131).T]; exact k13'
  have kt18 : ∀ a, kT S18 a = kT (nw S10 q13 9 32) a := fun a => by rw [e18, e14]; rfl
  have n22 : q22 ≠ q13 := fun e => by rw [e, kt18, kT_nw] at k22; exact absurd k22 (by decide)
  have k22' : kT S10 q22 = 0 := by rw [kt18] at k22; rw [← (sm_nw (S := S10) (t := 9) (n := 32) n22).T]; exact k22
  have n226 : q22 ≠ q6 := fun e => by rw [e, kt10, kT_nw] at k22'; exact absurd k22' (by decide)
  have k22'' : kT S4 q22 = 0 := by rw [kt10] at k22'; rw [← (sm_nw (S := S4) (t := 12) (n := 24) n226).T]; exact k22'
  have n221 : q22 ≠ q1 := fun e => by rw [e, kt4, kT_nw] at k22''; exact absurd k22'' (by decide)
  have o22 : kT S q22 = 0 := by rw [kt4] at k22''; rw [← (sm_nw (S := S) (t := 5) (n := 0) n221).T]; exact k22''
  have eq : S33 = pI (pR (nw (pR (nw (pR (nw (pI (pI (nw S q1 5 0) q1 0 a1) q1 1 a2) q6 12 24) q1 2 q6) q13 9 32) q1 3 q13) q22 9 32) q1 4 q22) q1 8 0 := by rw [e33, e28, e23, e18, e14, e10, e7, e4, e2]
  clear e33 e28 e23 e18 e14 e10 e7 e4 e2
  subst eq
  refine hp _ q6 q13 q22 ⟨fun a h1 h6 h13 h22 => ?_, ⟨Ne.symm n6, Ne.symm n131, Ne.symm n221, Ne.symm n13, Ne.symm n226, Ne.symm n22⟩, ⟨hq, o6, o13, o22⟩, ⟨hz, z6, z13, z22⟩, ?_⟩
  · exact (sm_nw h1).tr ((sm_pI h1).tr ((sm_pI h1).tr ((sm_nw h6).tr ((sm_pR h1).tr ((sm_nw h13).tr ((sm_pR h1).tr ((sm_nw h22).tr ((sm_pR h1).tr (sm_pI h1)))))))))
  · refine ⟨?_, ?_, ?_, ?_, ?_, ?_, ?_, ?_, ?_, ?_, ?_, ?_, fun j hj => ?_⟩
    all_goals first
      | (have h0 : j ≠ 0 := by omega
         have h1 : j ≠ 1 := by omega
         simp [kT, kL, sI, sR, nw, pI, pR, u2, n6, n13, n131, n22, n226, n221, Ne.symm n6, Ne.symm n13, Ne.symm n131, Ne.symm n22, Ne.symm n226, Ne.symm n221, h0, h1])
      | simp [kT, kL, sI, sR, nw, pI, pR, u2, n6, n13, n131, n22, n226, n221, Ne.symm n6, Ne.symm n13, Ne.symm n131, Ne.symm n22, Ne.symm n226, Ne.symm n221]
