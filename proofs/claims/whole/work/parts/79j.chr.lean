/-! a character more -/
theorem nar_ch : ∀ k, k < 127 → vp_nar .char (((nI k).toUInt32 % 65536).toInt32) = nI k := by decide +kernel
section EXT
variable {S : MS} {l1 l2 l3 l4 : Nat} {loc ow : Nat → Nat} {σ σ1 : Sg} {M C N : Nat}
def cE (σ : Sg) (y : Nat) (v : Int32) : Sg := sF (sA σ 24 y v) 25 (nI (y + 1))
theorem cE_eqv {σ' σ : Sg} (h : eqv σ' σ) (y : Nat) (v : Int32) : eqv (cE σ' y v) (cE σ y v) := eqv_sF (eqv_sA h _ _ _) _ _
theorem wf_cE (hw : WF σ1 M C N) {y : Nat} (hy : y < 60) (ey : σ1.1 25 = nI y) {v : Int32} (h1 : 33 ≤ v.toInt) (h2 : v.toInt ≤ 126) : WF (cE σ1 y v) M C N := by
  have hcP := cP_8 (σ' := cE σ1 y v) (σ := σ1) rfl
  obtain ⟨w1, w2, w3, w4, w5, w6, w7, w8, w9, w10, w11, w12, w13, w14, w15, ⟨y', hy', ey', hc⟩, w17⟩ := hw
  have : y' = y := (nI_eq (by omega) (by omega)).mp (ey'.symm.trans ey)
  subst this
  refine ⟨w1, w2, w3, w4, w5, w6, ?_, w8, w9, w10, w11, w12, w13, w14, w15, ⟨y' + 1, by omega, rfl, fun i hi => ?_⟩, w17⟩
  · simp only [hcP]; exact w7
  · have e : (cE σ1 y' v).2 24 i = if i = y' then v else σ1.2 24 i := sA_at σ1 24 y' v i
    rw [e]
    by_cases q : i = y'
    · rw [if_pos q]; exact ⟨h1, h2⟩
    · rw [if_neg q]; exact hc i (by omega)
theorem mr_ext (h : MR S l1 l2 l3 l4 loc ow σ σ1 M C N) {y : Nat} (hy : y < 60) (ey : σ1.1 25 = nI y) {v : Int32} : MR (pI (pI S (loc 10) y v) (loc 5) 3 (nI (y + 1))) l1 l2 l3 l4 loc ow σ (cE σ1 y v) M C N := by
  obtain ⟨hM, hC, hN⟩ := h.bd
  have u5 : Us σ1 M N 5 := us_s (by omega) (by omega)
  have u10 : Us σ1 M N 10 := us_s (by omega) (by omega)
  have ne : ∀ {q}, Us σ1 M N q → q ≠ 5 → q ≠ 10 → Sm S (pI (pI S (loc 10) y v) (loc 5) 3 (nI (y + 1))) (loc q) := fun hq h5 h10 => (sm_pI (h.ne hq u10 h10)).tr (sm_pI (h.ne hq u5 h5))
  have e5 : ∀ j, sI (pI (pI S (loc 10) y v) (loc 5) 3 (nI (y + 1))) (loc 5) j = if j = 3 then nI (y + 1) else sI S (loc 5) j := fun j => by
    rw [sI_pI, if_pos rfl, (sm_pI (S := S) (k := y) (v := v) (h.ne u5 u10 (by omega))).2.1]
  have e10 : ∀ j, sI (pI (pI S (loc 10) y v) (loc 5) 3 (nI (y + 1))) (loc 10) j = if j = y then v else sI S (loc 10) j := fun j => by
    rw [(sm_pI (k := 3) (h.ne u10 u5 (by omega))).2.1, sI_pI, if_pos rfl]
  refine mr_mk h (fun _ _ => rfl) rfl ((sm_pI (Ne.symm (h.nz u10))).tr (sm_pI (Ne.symm (h.nz u5)))) (fun r hr h5 => ne hr (by omega) (by omega)) (fun r hr => h.owr r hr) (fun a ha => h.2.2.2.2.2.2.2.2.2.1 a ha) ⟨hM, hC, hN⟩ ?_
  have hcP := cP_8 (σ' := cE σ1 y v) (σ := σ1) rfl
  obtain ⟨r1, r2, r3, r4, r5, r6, r7, r8, r9⟩ := h.rc
  refine ⟨?_, r2, fun t ht => ?_, fun t ht j hj => ?_, fun t ht i z hz h24 hi => ?_, fun c hc j hj => ?_, r7, fun i hi => ?_, fun y' i hy' h60 hi => ?_⟩
  · obtain ⟨a1, a2, a3, a4, a5, a6, a7, a8, a9, a10, a11, a12, a13, a14, a15, a16, a17, a18, a19, p1, p2, p3, p4, p5, p6, p7, p8, p9, p10, s1, s2, s3, s4, s5, s6, s7, s8, s9⟩ := r1
    refine ⟨a1, a2, a3, a4, a5, a6, a7, a8, a9, a10, a11, a12, a13, a14, a15, a16, a17, a18, a19, p1, p2, p3, p4, p5, p6, p7, p8, p9, p10, ?_⟩
    rw [(ne (us_s (r := 1) (by omega) (by omega)) (by omega) (by omega)).2.1, (ne (us_s (r := 2) (by omega) (by omega)) (by omega) (by omega)).2.1, e5, e5]
    exact ⟨s1, s2, s3, s4, s5, s6, s7, rfl, s9⟩
  · have := r3 t ht
    unfold TxR at this ⊢
    rw [(ne (us_t (σ := σ1) (N := N) ht).1 (by omega) (by omega)).2.1]
    exact this
  · have := r4 t ht j hj
    unfold KyR at this ⊢
    rw [(ne (us_t (σ := σ1) (N := N) ht).1 (by omega) (by omega)).2.1, (ne (us_t (σ := σ1) (N := N) ht).2.2.1 (by omega) (by omega)).2.1, (ne (us_t (σ := σ1) (N := N) ht).2.2.2 (by omega) (by omega)).2.1]
    exact this
  · have := r5 t ht i z hz h24 hi
    unfold OpR at this ⊢
    rw [(ne (us_z ht hz h24 hi) (by omega) (by omega)).2.1, hcP]
    exact this
  · rw [(ne (us_r (by omega)) (by omega) (by omega)).2.1]
    exact r6 c hc j hj
  · have := r8 i hi
    unfold CnR at this ⊢
    rw [(ne (us_c hi) (by omega) (by omega)).2.1]
    exact this
  · have hy'' : nI (y + 1) = nI y' := hy'
    have : y + 1 = y' := (nI_eq (by omega) (by omega)).mp hy''
    have e : (cE σ1 y v).2 24 i = if i = y then v else σ1.2 24 i := sA_at σ1 24 y v i
    rw [e10, e]
    by_cases q : i = y
    · rw [if_pos q, if_pos q]
    · rw [if_neg q, if_neg q]; exact r9 y i ey (by omega) (by omega)
end EXT
theorem ch_nI {a : Int32} (h : 33 ≤ a ∧ a ≤ 126) : ∃ k : Nat, 33 ≤ k ∧ k ≤ 126 ∧ a = nI k ∧ a.toInt = (k : Int) := by
  obtain ⟨h1, h2⟩ := h
  rw [fa_le] at h1 h2
  have e1 : (33 : Int32).toInt = 33 := by decide
  have e2 : (126 : Int32).toInt = 126 := by decide
  obtain ⟨k, hk⟩ : ∃ k : Nat, a.toInt = (k : Int) := ⟨a.toInt.toNat, by omega⟩
  refine ⟨k, by omega, by omega, Int32.toInt_inj.mp ?_, hk⟩
  rw [hk, nI_toInt (by omega)]
theorem sp_appendCharacter : Sp_appendCharacter := by
  intro S l1 l2 l3 l4 loc ow σ M C N x0 post h hp
  have h : Mid S l1 l2 l3 l4 loc ow σ σ M C N := h
  have hw := h.wf
  obtain ⟨y, hy60, ey, hch⟩ := hw.2.2.2.2.2.2.2.2.2.2.2.2.2.2.2.1
  obtain ⟨a1, a2, a3, a4, a5, a6, a7, a8, a9, a10, a11, a12, a13, a14, a15, a16, a17, a18, a19, p1, p2, p3, p4, p5, p6, p7, p8, p9, p10, s1, s2, s3, s4, s5, s6, s7, s8, s9⟩ := h.mr.st
  have p4' : sR S l1 3 = loc 5 := by rw [← h.1]; exact p4
  unfold w_L_appendCharacter w_X5_appendCharacter w_X3_extend b_X3_extend_29
  refine ⟨h.k1, cl_isBetween (fun g => ⟨fun _ => ?_, fun q => absurd q ne10⟩) (fun g => ⟨fun q => absurd rfl q, fun _ => Or.inl ⟨rfl, hp 1 S σ 0 ?_ ⟨loc, ow, M, C, N, h⟩ (fun r => absurd r ne10)⟩⟩)⟩
  dsimp only
  rw [p4', s8, ey, p9, a17, ix_nI (by omega)]
  refine ⟨h.k1, a7, fun q => ⟨a7, fun q2 => absurd q2 (nI_ge (a := y) (b := 60) (Classical.byContradiction (fun x => nI_nl (a := 60) (b := y) (by omega) (by omega) q)) (by omega)), fun q2 => ⟨a16, vp_in_nI (Classical.byContradiction (fun x => nI_nl (a := 60) (b := y) (by omega) (by omega) q)) (by omega), fun S4 e4 S7 e7 => ?_⟩⟩, fun q => Or.inr ⟨rfl, hp 2 S σ 0 ?_ ⟨loc, ow, M, C, N, h⟩ (fun r => absurd r ne20)⟩⟩
  · have hy : y < 60 := Classical.byContradiction (fun x => nI_nl (a := 60) (b := y) (by omega) (by omega) q)
    obtain ⟨k, hk1, hk2, ek, ei⟩ := ch_nI g
    have v4 : sI S4 (loc 5) 3 + 1 = nI (y + 1) := by
      rw [e4, (sm_pI (h.ne (us_s (r := 5) (by omega) (by omega)) (us_s (r := 10) (by omega) (by omega)) (by omega))).2.1, s8, ey, nI_1]
    rw [v4, e4] at e7
    rw [ek, nar_ch k (by omega)] at e7
    have hm := (mr_ext (v := nI k) h.mr hy ey).mid (wf_cE hw hy ey (by rw [← ek]; omega) (by rw [← ek]; omega))
    rw [← e7] at hm
    have v7 : sI S7 (loc 5) 3 = nI (y + 1) := by rw [e7, sI_pI, if_pos rfl, if_pos rfl]
    rw [v7]
    refine ⟨by rw [e7]; exact a7, wr_ret hm (fun S6 h6 hs6 => hp 0 S6 (cE σ y (nI k)) _ ?_ ⟨loc, ow, M, C, N, h6⟩ (fun _ => hs6))⟩
    unfold v_X6_appendCharacter
    intro σ1 e1
    rw [e1]
    have e25 : (sF σ 0 0).1 25 = nI y := ey
    refine rf_isIn (fun _ => ⟨fun _ => ?_, fun r => absurd r ne10⟩) (fun r => absurd g r)
    rw [e25, ix_nI (by omega), ek]
    refine ⟨fun _ => ⟨vp_in_nI (by omega) (by omega), fun σ4 e4' σ5 e5' => ?_⟩, fun r => absurd ((nI_eq (b := 60) (by omega) (by omega)).mp r) (by omega)⟩
    have e25' : σ4.1 25 + 1 = nI (y + 1) := by rw [e4']; show σ.1 25 + 1 = _; rw [ey, nI_1]
    rw [e25', e4'] at e5'
    rw [e5']
    exact ⟨cE_eqv (eqv.th σ 0) y (nI k), rfl, fun _ => rfl⟩
  · have hy : y = 60 := Nat.le_antisymm hy60 (Classical.byContradiction (fun x => q (nI_lt (a := y) (b := 60) (by omega) (by omega))))
    unfold v_X6_appendCharacter
    intro σ1 e1
    rw [e1]
    have e25 : (sF σ 0 0).1 25 = nI y := ey
    refine rf_isIn (fun _ => ⟨fun _ => ?_, fun r => absurd r ne10⟩) (fun r => absurd g r)
    rw [e25, hy]
    refine ⟨fun r => absurd rfl r, fun _ => rf_fail ⟨?_, rfl, fun r => absurd r ne20⟩⟩
    rw [sF_sF]
    exact eqv.th σ 2
  · unfold v_X6_appendCharacter
    intro σ1 e1
    rw [e1]
    refine rf_isIn (fun r => absurd r g) (fun _ => ⟨fun r => absurd rfl r, fun _ => rf_fail ⟨?_, rfl, fun r => absurd r ne10⟩⟩)
    rw [sF_sF]
    exact eqv.th σ 1
