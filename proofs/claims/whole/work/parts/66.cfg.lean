theorem cP_2 {σ σ' : Sg} (h : σ'.2 = σ.2) (t : Nat) : ∀ i, cP σ' t i = cP σ t i
  | 0 => rfl
  | i + 1 => by rw [cP, cP, cP_2 h t i]; unfold isPr; rw [h]
/-- scalars changed -/
theorem wf_F {σ σ' : Sg} {M C N N' : Nat} (hw : WF σ M C N) (h2 : σ'.2 = σ.2) (h1 : σ'.1 1 = σ.1 1) (h14 : σ'.1 14 = σ.1 14) (h21 : σ'.1 21 = nI N') (hN : N' ≤ N) (h25 : σ'.1 25 = σ.1 25)
    (h13 : σ'.1 13 = -1 ∨ ∃ t : Nat, t < M ∧ σ'.1 13 = nI t ∧ σ.2 2 t = 0) (h17 : σ'.1 17 = 0 ∨ σ'.1 17 = 1) (h18 : σ'.1 18 = 0 ∨ σ'.1 18 = 1 ∨ σ'.1 18 = 2) (h19 : ∃ z : Nat, 1 ≤ z ∧ z ≤ 5 ∧ σ'.1 19 = nI z) : WF σ' M C N' := by
  obtain ⟨w1, w2, w3, w4, w5, w6, w7, w8, w9, w10, w11, w12, w13, w14, w15, w16, w17⟩ := hw
  have hc := cP_2 h2
  refine ⟨h1.trans w1, w2, h14.trans w3, w4, h21, by omega, ?_, ?_, ?_, ?_, ?_, h17, h18, h19, ?_, ?_, ?_⟩
  · simp only [h2, hc]; exact w7
  · rw [h2]; exact w8
  · rw [h2]; exact w9
  · rw [h2]; exact w10
  · rw [h2]; exact h13
  · rw [h2]; exact fun i hi => w15 i (by omega)
  · rw [h2, h25]; exact w16
  · rw [h2]; exact w17
theorem us_F {σ σ' : Sg} {M N N' : Nat} (h2 : σ'.2 = σ.2) (hN : N' ≤ N) {r : Nat} (h : Us σ' M N' r) : Us σ M N r := by
  unfold Us at h ⊢
  rw [h2] at h
  rcases h with h | h | h | h | h | h | h | h | h | h | h
  · exact Or.inl h
  · exact Or.inr (Or.inl (by omega))
  · exact Or.inr (Or.inr (Or.inl h))
  · exact Or.inr (Or.inr (Or.inr (Or.inl h)))
  · exact Or.inr (Or.inr (Or.inr (Or.inr (Or.inl h))))
  · exact Or.inr (Or.inr (Or.inr (Or.inr (Or.inr (Or.inl h)))))
  · exact Or.inr (Or.inr (Or.inr (Or.inr (Or.inr (Or.inr (Or.inl h))))))
  · exact Or.inr (Or.inr (Or.inr (Or.inr (Or.inr (Or.inr (Or.inr (Or.inl h)))))))
  · exact Or.inr (Or.inr (Or.inr (Or.inr (Or.inr (Or.inr (Or.inr (Or.inr (Or.inl h))))))))
  · exact Or.inr (Or.inr (Or.inr (Or.inr (Or.inr (Or.inr (Or.inr (Or.inr (Or.inr (Or.inl h)))))))))
  · exact Or.inr (Or.inr (Or.inr (Or.inr (Or.inr (Or.inr (Or.inr (Or.inr (Or.inr (Or.inr h)))))))))
theorem rc_N {S : MS} {loc : Nat → Nat} {σ : Sg} {M C N N' : Nat} (h : RC S loc σ M C N) (hN : N' ≤ N) : RC S loc σ M C N' := by
  obtain ⟨r1, r2, r3, r4, r5, r6, r7, r8, r9⟩ := h
  exact ⟨r1, r2, r3, r4, r5, r6, r7, fun i hi => r8 i (by omega), r9⟩
theorem str_putX {S : MS} {loc : Nat → Nat} {σ σ2 : Sg} {k : Nat} {v : Int32} (h : StR S loc σ) (n2 : loc 2 ≠ loc 1) (n5 : loc 5 ≠ loc 1) (e6 : (if 6 = k then v else σ.1 1) = σ2.1 1) (e7 : (if 7 = k then v else σ.1 21) = σ2.1 21) (e8 : (if 8 = k then v else σ.1 17) = σ2.1 17) (e9 : (if 9 = k then v else σ.1 18) = σ2.1 18) (e10 : (if 10 = k then v else σ.1 19) = σ2.1 19) (e11 : (if 11 = k then v else σ.1 13) = σ2.1 13) (ec : σ2.1 14 = σ.1 14) (et : σ2.1 25 = σ.1 25) (ef : σ2.1 28 = σ.1 28) : StR (pI S (loc 1) k v) loc σ2 := by
  obtain ⟨a1, a2, a3, a4, a5, a6, a7, a8, a9, a10, a11, a12, a13, a14, a15, a16, a17, a18, a19, p1, p2, p3, p4, p5, p6, p7, p8, p9, p10, s1, s2, s3, s4, s5, s6, s7, s8, s9⟩ := h
  have x : ∀ j, sI (pI S (loc 1) k v) (loc 1) j = if j = k then v else sI S (loc 1) j := fun j => by rw [sI_pI, if_pos rfl]
  have y2 : sI (pI S (loc 1) k v) (loc 2) = sI S (loc 2) := u2_ne _ _ _ n2
  have y5 : sI (pI S (loc 1) k v) (loc 5) = sI S (loc 5) := u2_ne _ _ _ n5
  refine ⟨a1, a2, a3, a4, a5, a6, a7, a8, a9, a10, a11, a12, a13, a14, a15, a16, a17, a18, a19, p1, p2, p3, p4, p5, p6, p7, p8, p9, p10, ?_, ?_, ?_, ?_, ?_, ?_, ?_, ?_, ?_⟩
  · rw [x, s1]; exact e6
  · rw [x, s2]; exact e7
  · rw [x, s3]; exact e8
  · rw [x, s4]; exact e9
  · rw [x, s5]; exact e10
  · rw [x, s6]; exact e11
  · rw [y2, s7, ec]
  · rw [y5, s8, et]
  · rw [y5, s9, ef]
theorem mid_x {S : MS} {l1 l2 l3 l4 : Nat} {loc ow : Nat → Nat} {σ σ1 σ2 : Sg} {M C N N' : Nat} (h : Mid S l1 l2 l3 l4 loc ow σ σ1 M C N) {k : Nat} {v : Int32} (h2 : σ2.2 = σ1.2) (hN : N' ≤ N) (hw : WF σ2 M C N') (e6 : (if 6 = k then v else σ1.1 1) = σ2.1 1) (e7 : (if 7 = k then v else σ1.1 21) = σ2.1 21) (e8 : (if 8 = k then v else σ1.1 17) = σ2.1 17) (e9 : (if 9 = k then v else σ1.1 18) = σ2.1 18) (e10 : (if 10 = k then v else σ1.1 19) = σ2.1 19) (e11 : (if 11 = k then v else σ1.1 13) = σ2.1 13) (ec : σ2.1 14 = σ1.1 14) (et : σ2.1 25 = σ1.1 25) (ef : σ2.1 28 = σ1.1 28) : Mid (pI S l1 k v) l1 l2 l3 l4 loc ow σ σ2 M C N' := by
  have u1 : Us σ1 M N 1 := us_s (by omega) (by omega)
  have hs := h.st
  rw [← h.1]
  refine mid_putI h u1 (by omega) hw (fun q hq => us_F h2 hN hq) (rc_N (rc_st h.M80 h.C60 h.wf.2.2.2.2.2.1 h.rc (fun r hr hlt hne _ _ => sm_putI h u1 r hr hne) (str_putX hs (h.ne (us_s (by omega) (by omega)) u1 (by omega)) (h.ne (us_s (by omega) (by omega)) u1 (by omega)) e6 e7 e8 e9 e10 e11 ec et ef) h2 et) hN) |> fun z => by rw [h.1]; rw [h.1] at z; exact z
theorem sp_clearConstraints : Sp_clearConstraints := by
  intro S l1 l2 l3 l4 loc ow σ M C N post h hp
  have h : Mid S l1 l2 l3 l4 loc ow σ σ M C N := h
  obtain ⟨w1, w2, w3, w4, w5, w6, w7, w8, w9, w10, w11, w12, w13, w14, w15, w16⟩ := h.wf
  have hs := h.st
  obtain ⟨-, -, -, -, -, -, -, -, -, -, -, -, -, -, -, -, -, -, -, -, -, -, -, -, -, -, -, -, -, -, e7, -⟩ := hs
  rw [h.1] at e7
  unfold w_X5_clearConstraints
  refine ⟨h.k1, fun v2 hv2 S3 hS3 => ?_⟩
  rw [hS3]
  refine hp v2 _ (sF σ 21 0) ?_ ⟨loc, ow, M, C, 0, mid_x h rfl (Nat.zero_le N) (wf_F h.wf rfl rfl rfl rfl (Nat.zero_le N) rfl w11 w12 w13 w14) rfl rfl rfl rfl rfl rfl rfl rfl rfl⟩
  unfold v_X6_clearConstraints
  intro σ1 e1 v e2 σ3 e3
  refine ⟨?_, ?_⟩
  · rw [e3, e1]
    exact ⟨⟨rfl, rfl, rfl, rfl, rfl, rfl, rfl, rfl, rfl⟩, rfl, rfl, rfl, rfl, rfl, rfl, rfl, rfl, rfl, rfl, rfl, rfl, rfl, rfl, rfl⟩
  · rw [hv2, e2, e1, e7]; rfl
theorem cfg_p {a : Int32} : ((0 : Int32) ≤ a ∧ a ≤ 1) → (a = 0 ∨ a = 1) := fun h => by
  obtain ⟨t, ht, e⟩ := (in_nI (a := a) (M := 2) (by decide)).mp h
  rcases (show t = 0 ∨ t = 1 by omega) with q | q <;> subst q
  · exact Or.inl e
  · exact Or.inr e
theorem cfg_r {a : Int32} : ((0 : Int32) ≤ a ∧ a ≤ 2) → (a = 0 ∨ a = 1 ∨ a = 2) := fun h => by
  obtain ⟨t, ht, e⟩ := (in_nI (a := a) (M := 3) (by decide)).mp h
  rcases (show t = 0 ∨ t = 1 ∨ t = 2 by omega) with q | q | q <;> subst q
  · exact Or.inl e
  · exact Or.inr (Or.inl e)
  · exact Or.inr (Or.inr e)
theorem cfg_z {a : Int32} : ((1 : Int32) ≤ a ∧ a ≤ 5) → ∃ z : Nat, 1 ≤ z ∧ z ≤ 5 ∧ a = nI z := fun h => (com_nI (C := 5) (z := 1) (by omega) (by omega)).mp h
theorem sp_configure : Sp_configure := by
  intro S l1 l2 l3 l4 loc ow σ M C N x0 x1 x2 post h hp
  have h : Mid S l1 l2 l3 l4 loc ow σ σ M C N := h
  obtain ⟨w1, w2, w3, w4, w5, w6, w7, w8, w9, w10, w11, w12, w13, w14, w15, w16⟩ := id h.wf
  have bad : v_X6_configure σ x0 x1 x2 (fun σ2 => eqv σ2 σ ∧ σ2.1 0 = 1) → post 1 S := fun hv => hp 1 S σ hv ⟨loc, ow, M, C, N, h⟩
  have fin1 : bv_X6_configure_44 (fun σ2 => eqv σ2 σ ∧ σ2.1 0 = 1) σ x0 x1 x2 1 := by
    unfold bv_X6_configure_44 bv_X6_configure_69
    intro σ1 e1
    rw [e1]
    exact ⟨fun _ => ⟨eqv.th σ 1, rfl⟩, fun q => absurd q ne10⟩
  unfold w_L_configure w_X5_configure b_X5_configure_27
  refine ⟨h.k1, cl_isBetween (fun c0 => ⟨fun q => absurd q ne10, fun _ => cl_isBetween (fun c1 => ⟨fun q => absurd q ne10, fun _ => cl_isBetween (fun c2 => ⟨fun _ => ⟨h.k1, cl_countInState h ⟨fun hn => ⟨h.k1, fun S11 e11 S13 e13 S15 e15 => ?_⟩, fun hn => Or.inr ⟨rfl, hp 2 S σ ?_ ⟨loc, ow, M, C, N, h⟩⟩⟩⟩, fun q => absurd q ne10⟩) (fun c2 => ⟨fun q => absurd rfl q, fun _ => Or.inl ⟨rfl, bad ?_⟩⟩)⟩) (fun c1 => ⟨fun _ => Or.inl ⟨rfl, bad ?_⟩, fun q => absurd rfl q⟩)⟩) (fun c0 => ⟨fun _ => Or.inl ⟨rfl, bad ?_⟩, fun q => absurd rfl q⟩)⟩
  · rw [e15, e13, e11]
    have f1 := wf_F (σ' := sF σ 17 x0) h.wf rfl rfl rfl w5 (Nat.le_refl N) rfl w11 (cfg_p c0) w13 w14
    have m1 := mid_x (σ2 := sF σ 17 x0) (k := 8) (v := x0) h rfl (Nat.le_refl N) f1 rfl rfl rfl rfl rfl rfl rfl rfl rfl
    have f2 := wf_F (σ' := sF (sF σ 17 x0) 18 x1) f1 rfl rfl rfl w5 (Nat.le_refl N) rfl w11 (cfg_p c0) (cfg_r c1) w14
    have m2 := mid_x (σ2 := sF (sF σ 17 x0) 18 x1) (k := 9) (v := x1) m1 rfl (Nat.le_refl N) f2 rfl rfl rfl rfl rfl rfl rfl rfl rfl
    have f3 := wf_F (σ' := sF (sF (sF σ 17 x0) 18 x1) 19 x2) f2 rfl rfl rfl w5 (Nat.le_refl N) rfl w11 (cfg_p c0) (cfg_r c1) (cfg_z c2)
    have m3 := mid_x (σ2 := sF (sF (sF σ 17 x0) 18 x1) 19 x2) (k := 10) (v := x2) m2 rfl (Nat.le_refl N) f3 rfl rfl rfl rfl rfl rfl rfl rfl rfl
    refine hp 0 _ (sF (sF (sF σ 17 x0) 18 x1) 19 x2) ?_ ⟨loc, ow, M, C, N, m3⟩
    unfold v_X6_configure bv_X6_configure_44 bv_X6_configure_69
    refine rf_isIn (fun _ => ⟨fun q => absurd q ne10, fun _ => rf_isIn (fun _ => ⟨fun q => absurd q ne10, fun _ => rf_isIn (fun _ => ⟨fun _ => rf_activeNow h.wf ⟨fun _ σ1 e1 => ?_, fun q => absurd hn q⟩, fun q => absurd q ne10⟩) (fun q => absurd c2 q)⟩) (fun q => absurd c1 q)⟩) (fun q => absurd c0 q)
    rw [e1]
    refine ⟨fun q => absurd rfl q, fun _ σ2 e2 σ3 e3 σ4 e4 => ?_⟩
    rw [e4, e3, e2]
    exact ⟨⟨⟨rfl, rfl, rfl, rfl, rfl, rfl, rfl, rfl, rfl⟩, rfl, rfl, rfl, rfl, rfl, rfl, rfl, rfl, rfl, rfl, rfl, rfl, rfl, rfl, rfl⟩, rfl⟩
  · unfold v_X6_configure bv_X6_configure_44 bv_X6_configure_69
    refine rf_isIn (fun _ => ⟨fun q => absurd q ne10, fun _ => rf_isIn (fun _ => ⟨fun q => absurd q ne10, fun _ => rf_isIn (fun _ => ⟨fun _ => rf_activeNow h.wf ⟨fun q => absurd q hn, fun _ σ1 e1 => ?_⟩, fun q => absurd q ne10⟩) (fun q => absurd c2 q)⟩) (fun q => absurd c1 q)⟩) (fun q => absurd c0 q)
    rw [e1]
    exact ⟨fun _ => ⟨eqv.th σ 2, rfl⟩, fun q => absurd q (show ¬ (2 : Int32) = 0 by decide)⟩
  · unfold v_X6_configure bv_X6_configure_28
    exact rf_isIn (fun _ => ⟨fun q => absurd q ne10, fun _ => rf_isIn (fun _ => ⟨fun q => absurd q ne10, fun _ => rf_isIn (fun q => absurd q c2) (fun _ => ⟨fun q => absurd rfl q, fun _ => fin1⟩)⟩) (fun q => absurd c1 q)⟩) (fun q => absurd c0 q)
  · unfold v_X6_configure bv_X6_configure_28
    exact rf_isIn (fun _ => ⟨fun q => absurd q ne10, fun _ => rf_isIn (fun q => absurd q c1) (fun _ => ⟨fun _ => fin1, fun q => absurd rfl q⟩)⟩) (fun q => absurd c0 q)
  · unfold v_X6_configure bv_X6_configure_28
    exact rf_isIn (fun q => absurd q c0) (fun _ => ⟨fun _ => fin1, fun q => absurd rfl q⟩)
