/-! a constraint is added -/
def Ad (σ : Sg) (N : Nat) (a b c d : Int32) : Sg := sA (sA (sA (sA σ 20 (4 * N) a) 20 (4 * N + 1) b) 20 (4 * N + 2) c) 20 (4 * N + 3) d
theorem Ad_row (σ : Sg) (N : Nat) (a b c d : Int32) : (Ad σ N a b c d).1 = σ.1 ∧ (∀ j, j ≠ 20 → (Ad σ N a b c d).2 j = σ.2 j) ∧ (∀ i, i < 4 * N → (Ad σ N a b c d).2 20 i = σ.2 20 i) ∧ (Ad σ N a b c d).2 20 (4 * N) = a ∧ (Ad σ N a b c d).2 20 (4 * N + 1) = b ∧ (Ad σ N a b c d).2 20 (4 * N + 2) = c ∧ (Ad σ N a b c d).2 20 (4 * N + 3) = d := by
  unfold Ad
  refine ⟨rfl, fun j h => ?_, fun i h => ?_, ?_, ?_, ?_, ?_⟩
  · rw [sA_ne _ h, sA_ne _ h, sA_ne _ h, sA_ne _ h]
  · rw [sA_at, if_neg (by omega), sA_at, if_neg (by omega), sA_at, if_neg (by omega), sA_at, if_neg (by omega)]
  · rw [sA_at, if_neg (by omega), sA_at, if_neg (by omega), sA_at, if_neg (by omega), sA_at, if_pos rfl]
  · rw [sA_at, if_neg (by omega), sA_at, if_neg (by omega), sA_at, if_pos rfl]
  · rw [sA_at, if_neg (by omega), sA_at, if_pos rfl]
  · rw [sA_at, if_pos rfl]
theorem Ad_eqv {σ' σ : Sg} (h : eqv σ' σ) (N : Nat) (a b c d : Int32) : eqv (Ad σ' N a b c d) (Ad σ N a b c d) := eqv_sA (eqv_sA (eqv_sA (eqv_sA h _ _ _) _ _ _) _ _ _) _ _ _
section CON
variable {S : MS} {l1 l2 l3 l4 : Nat} {loc ow : Nat → Nat} {σ σ1 : Sg} {M C N : Nat}
theorem wf_Ad (hw : WF σ1 M C N) (a b c d : Int32) : WF (Ad σ1 N a b c d) M C N := by
  obtain ⟨d1, d2, d3, -⟩ := Ad_row σ1 N a b c d
  have hcP := cP_8 (σ' := Ad σ1 N a b c d) (d2 8 (by decide))
  obtain ⟨w1, w2, w3, w4, w5, w6, w7, w8, w9, w10, w11, w12, w13, w14, w15, w16, w17⟩ := hw
  refine ⟨w1, w2, w3, w4, w5, w6, ?_, ?_, ?_, ?_, ?_, w12, w13, w14, fun i hi => ?_, ?_, ?_⟩
  · simp only [hcP, d2 2 (by decide), d2 7 (by decide), d2 12 (by decide), d2 3 (by decide)]; exact w7
  · simp only [d2 9 (by decide), d2 10 (by decide)]; exact w8
  · simp only [d2 15 (by decide)]; exact w9
  · simp only [d2 16 (by decide), d2 2 (by decide), d2 5 (by decide), d2 10 (by decide), d2 15 (by decide)]; exact w10
  · simp only [d1, d2 2 (by decide)]; exact w11
  · rw [d3 _ (by omega), d3 _ (by omega), d3 _ (by omega)]; exact w15 i hi
  · simp only [d1, d2 24 (by decide)]; exact w16
  · simp only [d2 4 (by decide), d2 5 (by decide), d2 6 (by decide)]; exact w17
theorem mid_Ad (h : Mid S l1 l2 l3 l4 loc ow σ σ1 M C N) (a b c d : Int32) : Mid S l1 l2 l3 l4 loc ow σ (Ad σ1 N a b c d) M C N := by
  obtain ⟨d1, d2, d3, -⟩ := Ad_row σ1 N a b c d
  have hcP := cP_8 (σ' := Ad σ1 N a b c d) (d2 8 (by decide))
  obtain ⟨m1, m2, m3, m4, m5, m6, m7, m8, m9, m10, m11, m12, m13, m14⟩ := h
  refine ⟨m1, m2, m3, m4, m5, m6, m7, m8, fun r hr => m9 r (us_r7 (d2 7 (by decide)) hr), m10, wf_Ad m11 a b c d, ?_, m13, m14⟩
  obtain ⟨r1, r2, r3, r4, r5, r6, r7, r8, r9⟩ := m12
  refine ⟨r1, r2, ?_, ?_, ?_, ?_, ?_, fun i hi => ?_, ?_⟩
  · simp only [TxR, d2 3 (by decide), d2 7 (by decide), d2 2 (by decide), d2 4 (by decide), d2 5 (by decide), d2 6 (by decide)] at r3 ⊢; exact r3
  · simp only [KyR, d2 9 (by decide), d2 10 (by decide)] at r4 ⊢; exact r4
  · simp only [OpR, d2 7 (by decide), d2 8 (by decide), d2 11 (by decide), hcP] at r5 ⊢; exact r5
  · simp only [d2 15 (by decide)]; exact r6
  · simp only [d2 16 (by decide)]; exact r7
  · unfold CnR
    rw [d3 _ (by omega), d3 _ (by omega), d3 _ (by omega), d3 _ (by omega)]; exact r8 i hi
  · simp only [d1, d2 24 (by decide)]; exact r9
theorem mr_con (h : MR S l1 l2 l3 l4 loc ow σ σ1 M C N) (hN3 : N < 3) {q : Nat} (hz : q ≠ 0) (hq : ∀ r, Us σ1 M N r → loc r ≠ q) (kq : kT S q = 1) {a b c d : Int32} (i0 : sI S q 0 = a) (i1 : sI S q 1 = b) (i2 : sI S q 2 = c) (i3 : sI S q 3 = d) : MR (pI (pR S (loc 4) N q) l1 7 (nI (N + 1))) l1 l2 l3 l4 (locO loc (12 + N) q) (owO ow (12 + N) q) σ (sF (Ad σ1 N a b c d) 21 (nI (N + 1))) M C (N + 1) := by
  obtain ⟨hM, hC, hN⟩ := h.bd
  obtain ⟨d1, d2, d3, d4, d5, d6, d7⟩ := Ad_row σ1 N a b c d
  have u1 : Us σ1 M N 1 := us_s (by omega) (by omega)
  have u4 : Us σ1 M N 4 := us_s (by omega) (by omega)
  have hl1 : l1 = loc 1 := h.1.symm
  rw [hl1]
  generalize eS : pI (pR S (loc 4) N q) (loc 1) 7 (nI (N + 1)) = S'
  have hk : S'.1 = S.1 := by rw [← eS]; rfl
  have kt : ∀ x, kT S' x = kT S x := fun x => by unfold kT; rw [hk]
  have kl : ∀ x, kL S' x = kL S x := fun x => by unfold kL; rw [hk]
  have si : ∀ x, x ≠ loc 1 → sI S' x = sI S x := fun x hx => by rw [← eS]; exact u2_ne _ _ _ hx
  have si1 : ∀ j, sI S' (loc 1) j = if j = 7 then nI (N + 1) else sI S (loc 1) j := fun j => by
    rw [← eS, sI_pI, if_pos rfl]; rfl
  have sr : ∀ x, x ≠ loc 4 → sR S' x = sR S x := fun x hx => by rw [← eS]; exact u2_ne _ _ _ hx
  have sr4 : ∀ j, sR S' (loc 4) j = if j = N then q else sR S (loc 4) j := fun j => by
    rw [← eS]
    show sR (pR S (loc 4) N q) (loc 4) j = _
    rw [sR_pR, if_pos rfl]
  have el : ∀ x, x ≠ 12 + N → locO loc (12 + N) q x = loc x := fun x hx => if_neg hx
  have Ln : locO loc (12 + N) q (12 + N) = q := if_pos rfl
  have un : ∀ {r}, Us σ1 M N r → r ≠ 12 + N := fun {r} hr => by
    unfold Us at hr
    rcases hr with x | x | x | x | x | x | x | ⟨t, i, z, _, _, _, _, x⟩ | x | ⟨k, _, x⟩ | x | x <;> omega
  have u' : ∀ {r}, Us (sF (Ad σ1 N a b c d) 21 (nI (N + 1))) M (N + 1) r → r = 12 + N ∨ Us σ1 M N r := fun {r} hr => by
    unfold Us at hr ⊢
    rw [show (sF (Ad σ1 N a b c d) 21 (nI (N + 1))).2 7 = σ1.2 7 from d2 7 (by decide)] at hr
    rcases hr with x | x | x | x | x | x | x | x | x | x | x | x
    · exact Or.inr (Or.inl x)
    · by_cases e : r = 12 + N
      · exact Or.inl e
      · exact Or.inr (Or.inr (Or.inl (by omega)))
    · exact Or.inr (Or.inr (Or.inr (Or.inl x)))
    · exact Or.inr (Or.inr (Or.inr (Or.inr (Or.inl x))))
    · exact Or.inr (Or.inr (Or.inr (Or.inr (Or.inr (Or.inl x)))))
    · exact Or.inr (Or.inr (Or.inr (Or.inr (Or.inr (Or.inr (Or.inl x))))))
    · exact Or.inr (Or.inr (Or.inr (Or.inr (Or.inr (Or.inr (Or.inr (Or.inl x)))))))
    · exact Or.inr (Or.inr (Or.inr (Or.inr (Or.inr (Or.inr (Or.inr (Or.inr (Or.inl x))))))))
    · exact Or.inr (Or.inr (Or.inr (Or.inr (Or.inr (Or.inr (Or.inr (Or.inr (Or.inr (Or.inl x)))))))))
    · exact Or.inr (Or.inr (Or.inr (Or.inr (Or.inr (Or.inr (Or.inr (Or.inr (Or.inr (Or.inr (Or.inl x))))))))))
    · exact Or.inr (Or.inr (Or.inr (Or.inr (Or.inr (Or.inr (Or.inr (Or.inr (Or.inr (Or.inr (Or.inr (Or.inl x)))))))))))
    · exact Or.inr (Or.inr (Or.inr (Or.inr (Or.inr (Or.inr (Or.inr (Or.inr (Or.inr (Or.inr (Or.inr (Or.inr x)))))))))))
  have sm : ∀ {r}, Us σ1 M N r → r ≠ 1 → r ≠ 4 → Sm S S' (loc r) := fun hr h1 h4 => ⟨by rw [hk], si _ (h.ne hr u1 h1), sr _ (h.ne hr u4 h4)⟩
  rw [← hl1]
  refine mr_mk h (fun r hr => el r (by omega)) (el 1 (by omega)) ⟨by rw [hk], si 0 (Ne.symm (h.nz u1)), sr 0 (Ne.symm (h.nz u4))⟩ (fun r hr h5 => sm hr (by omega) (by omega)) (fun r hr => ?_) (fun x hx => h.2.2.2.2.2.2.2.2.2.1 x (by rw [← kt]; exact hx)) ⟨hM, hC, by omega⟩ ?_
  · rw [kt]
    rcases u' hr with e | hr
    · rw [e, Ln]
      refine ⟨if_pos rfl, by rw [kq]; decide⟩
    · rw [el r (un hr)]
      refine ⟨?_, (h.owr r hr).2⟩
      unfold owO
      rw [if_neg (hq r hr)]
      exact (h.owr r hr).1
  have R : ∀ j, j ≠ 20 → (sF (Ad σ1 N a b c d) 21 (nI (N + 1))).2 j = σ1.2 j := fun j hj => d2 j hj
  have F : ∀ j, j ≠ 21 → (sF (Ad σ1 N a b c d) 21 (nI (N + 1))).1 j = σ1.1 j := fun j hj => by
    show (if j = 21 then _ else (Ad σ1 N a b c d).1 j) = _
    rw [if_neg hj, d1]
  have hcP := cP_8 (σ' := sF (Ad σ1 N a b c d) 21 (nI (N + 1))) (R 8 (by decide))
  obtain ⟨r1, r2, r3, r4, r5, r6, r7, r8, r9⟩ := h.rc
  refine ⟨?_, fun c' hc' => ?_, fun t ht => ?_, fun t ht k hk' => ?_, fun t ht i z hz' h24 hi => ?_, fun c' hc' k hk' => ?_, fun c' h1 hc' t ht hq' => ?_, fun i hi => ?_, fun y i hy h60 hi => ?_⟩
  · unfold StR at r1 ⊢
    rw [el 1 (by omega), el 2 (by omega), el 3 (by omega), el 4 (by omega), el 5 (by omega), el 6 (by omega), el 7 (by omega), el 8 (by omega), el 9 (by omega), el 10 (by omega), el 11 (by omega)]
    rw [sr _ (h.ne u1 u4 (by omega)), sr _ (h.ne (us_s (r := 2) (by omega) (by omega)) u4 (by omega)), sr _ (h.ne (us_s (r := 5) (by omega) (by omega)) u4 (by omega)), si _ (h.ne (us_s (r := 2) (by omega) (by omega)) u1 (by omega)), si _ (h.ne (us_s (r := 5) (by omega) (by omega)) u1 (by omega))]
    simp only [kt, kl, si1]
    rw [F 1 (by decide), F 17 (by decide), F 18 (by decide), F 19 (by decide), F 13 (by decide), F 14 (by decide), F 25 (by decide), F 28 (by decide)]
    obtain ⟨a1, a2, a3, a4, a5, a6, a7, a8, a9, a10, a11, a12, a13, a14, a15, a16, a17, a18, a19, p1, p2, p3, p4, p5, p6, p7, p8, p9, p10, s1, s2, s3, s4, s5, s6, s7, s8, s9⟩ := r1
    exact ⟨a1, a2, a3, a4, a5, a6, a7, a8, a9, a10, a11, a12, a13, a14, a15, a16, a17, a18, a19, p1, p2, p3, p4, p5, p6, p7, p8, p9, p10, s1, rfl, s3, s4, s5, s6, s7, s8, s9⟩
  · have := r2 c' hc'
    unfold RwR at this ⊢
    rw [el _ (by omega), el _ (by omega), kt, kl, sr _ (h.ne (us_s (r := 8) (by omega) (by omega)) u4 (by omega))]; exact this
  · have := r3 t ht
    have p1 := sm (us_t (σ := σ1) (N := N) ht).1 (by omega) (by omega)
    unfold TxR at this ⊢
    rw [el _ (by omega), el _ (by omega), el _ (by omega), el _ (by omega), el _ (by omega), kt, kt, kl, kt, kl, kt, kl, p1.2.2, p1.2.1, sr _ (h.ne (us_s (r := 3) (by omega) (by omega)) u4 (by omega)), R 3 (by decide), R 7 (by decide), R 2 (by decide), R 4 (by decide), R 5 (by decide), R 6 (by decide)]
    exact this
  · have := r4 t ht k hk'
    have p1 := sm (us_t (σ := σ1) (N := N) ht).1 (by omega) (by omega)
    have p3 := sm (us_t (σ := σ1) (N := N) ht).2.2.1 (by omega) (by omega)
    have p4 := sm (us_t (σ := σ1) (N := N) ht).2.2.2 (by omega) (by omega)
    unfold KyR at this ⊢
    rw [el _ (by omega), el _ (by omega), el _ (by omega), p1.2.1, p3.2.1, p4.2.1, R 9 (by decide), R 10 (by decide)]
    exact this
  · rw [R 7 (by decide)] at hz'
    have := r5 t ht i z hz' h24 hi
    have p2 := sm (us_t (σ := σ1) (N := N) ht).2.1 (by omega) (by omega)
    have p := sm (us_z ht hz' h24 hi) (by omega) (by omega)
    unfold OpR at this ⊢
    rw [el _ (by omega), el _ (by omega), p2.2.2, p.T, p.2.1, R 8 (by decide), R 11 (by decide), hcP]
    exact this
  · rw [el _ (by omega), (sm (r := 100 + c') (us_r (by omega)) (by omega) (by omega)).2.1, R 15 (by decide)]
    exact r6 c' hc' k hk'
  · rw [R 16 (by decide)] at hq'
    rw [el _ (by omega), el _ (by omega), sr _ (h.ne (us_s (r := 9) (by omega) (by omega)) u4 (by omega))]
    exact r7 c' h1 hc' t ht hq'
  · have R20 : ∀ j, (sF (Ad σ1 N a b c d) 21 (nI (N + 1))).2 20 j = (Ad σ1 N a b c d).2 20 j := fun _ => rfl
    unfold CnR
    rw [R20, R20, R20, R20, el 4 (by omega), sr4]
    by_cases e : i = N
    · rw [e, Ln, if_pos rfl, kt, si q (Ne.symm (hq 1 u1)), d4, d5, d6, d7]
      exact ⟨rfl, kq, i0, i1, i2, i3⟩
    · have hi' : i < N := by omega
      have p := sm (us_c (σ := σ1) (M := M) hi') (by omega) (by omega)
      rw [el _ (by omega), if_neg e, p.T, p.2.1, d3 _ (by omega), d3 _ (by omega), d3 _ (by omega), d3 _ (by omega)]
      exact r8 i hi'
  · rw [F 25 (by decide)] at hy
    rw [el _ (by omega), si _ (h.ne (us_s (r := 10) (by omega) (by omega)) u1 (by omega)), R 24 (by decide)]
    exact r9 y i hy h60 hi
theorem wf_con (hw : WF σ1 M C N) (hN3 : N < 3) {a d : Int32} {lo hi : Nat} (ha : a = 0 ∨ a = 1 ∨ a = 2) (h1 : lo ≤ hi) (h2 : hi < 32) : WF (sF (Ad σ1 N a (nI lo) (nI hi) d) 21 (nI (N + 1))) M C (N + 1) := by
  obtain ⟨d1, d2, d3, d4, d5, d6, d7⟩ := Ad_row σ1 N a (nI lo) (nI hi) d
  have hcP := cP_8 (σ' := sF (Ad σ1 N a (nI lo) (nI hi) d) 21 (nI (N + 1))) (σ := Ad σ1 N a (nI lo) (nI hi) d) rfl
  have old := hw.2.2.2.2.2.2.2.2.2.2.2.2.2.2.1
  obtain ⟨w1, w2, w3, w4, w5, w6, w7, w8, w9, w10, w11, w12, w13, w14, w15, w16, w17⟩ := wf_Ad hw a (nI lo) (nI hi) d
  refine ⟨w1, w2, w3, w4, rfl, by omega, ?_, w8, w9, w10, w11, w12, w13, w14, fun i hi' => ?_, w16, w17⟩
  · simp only [hcP]; exact w7
  · have R20 : ∀ j, (sF (Ad σ1 N a (nI lo) (nI hi) d) 21 (nI (N + 1))).2 20 j = (Ad σ1 N a (nI lo) (nI hi) d).2 20 j := fun _ => rfl
    rw [R20, R20, R20]
    by_cases e : i = N
    · rw [e, d4, d5, d6]
      exact ⟨ha, lo, hi, h1, h2, rfl, rfl⟩
    · exact w15 i (by omega)
end CON
theorem sub_1 (n : Nat) : nI (n + 1) - 1 = nI n := nI_m1 (Nat.succ_pos n)
theorem kd_3 {a : Int32} (h : 0 ≤ a ∧ a ≤ 2) : a = 0 ∨ a = 1 ∨ a = 2 := by
  obtain ⟨h1, h2⟩ := h
  rw [fa_le] at h1 h2
  have e0 : (0 : Int32).toInt = 0 := by decide
  have e1 : (1 : Int32).toInt = 1 := by decide
  have e2 : (2 : Int32).toInt = 2 := by decide
  rcases (by omega : a.toInt = 0 ∨ a.toInt = 1 ∨ a.toInt = 2) with q | q | q
  · exact Or.inl (Int32.toInt_inj.mp (q.trans e0.symm))
  · exact Or.inr (Or.inl (Int32.toInt_inj.mp (q.trans e1.symm)))
  · exact Or.inr (Or.inr (Int32.toInt_inj.mp (q.trans e2.symm)))
theorem sp_addConstraint : Sp_addConstraint := by
  intro S l1 l2 l3 l4 loc ow σ M C N x0 x1 x2 x3 post h hp
  have h : Mid S l1 l2 l3 l4 loc ow σ σ M C N := h
  have hw := h.wf
  have hN := hw.2.2.2.2.2.1
  unfold w_L_addConstraint w_X5_addConstraint b_X5_addConstraint_17 b_X5_addConstraint_64
  have bad1 : ¬ ((0 ≤ x0 ∧ x0 ≤ 2) ∧ (0 ≤ x1 ∧ x1 ≤ x2 ∧ x2 ≤ 31)) → post 1 S := fun q => by
    refine hp 1 S σ 0 ?_ ⟨loc, ow, M, C, N, h⟩ (fun q => absurd q ne10)
    have f1 : ∀ {σ' : Sg}, σ' = sF σ 0 0 → bv_X6_addConstraint_22 (fun r2 σ2 => eqv σ2 σ ∧ σ2.1 0 = 1 ∧ ((1 : Int32) = 0 → r2 = 0)) σ' x0 x1 x2 x3 := fun {σ'} e => by
      unfold bv_X6_addConstraint_22
      rw [e]
      refine rf_fail ⟨?_, rfl, fun q => absurd q ne10⟩
      rw [sF_sF]
      exact eqv.th σ 1
    unfold v_X6_addConstraint
    intro σ1 e1
    rw [e1]
    exact rf_isIn (fun g1 => ⟨fun r => absurd r ne10, fun _ => rf_isRange (fun g2 => absurd ⟨g1, g2⟩ q) (fun _ => ⟨fun r => absurd rfl r, fun _ => f1 rfl⟩)⟩) (fun _ => ⟨fun _ => f1 rfl, fun r => absurd rfl r⟩)
  refine ⟨h.k1, cl_isBetween (fun g1 => ⟨fun r => absurd r ne10, fun _ => cl_isRange (fun g2 => ⟨fun _ q5 k5 z5 S6 e6 => ?_, fun r => absurd r ne10⟩) (fun g2 => ⟨fun r => absurd rfl r, fun _ => Or.inl ⟨rfl, bad1 (fun r => g2 r.2)⟩⟩)⟩) (fun g1 => ⟨fun _ => Or.inl ⟨rfl, bad1 (fun r => g1 r.1)⟩, fun r => absurd rfl r⟩)⟩
  rw [e6]
  refine ⟨kT_nw _ _ _ _, fun S2 e2 S4 e4 S7 e7 S8 e8 => ?_⟩
  have hs : ∀ x, x ≠ q5 → Sm S S8 x := fun x hx => by
    rw [e8, e7, e4, e2]
    exact (sm_nw hx).tr ((sm_pI hx).tr ((sm_pI hx).tr ((sm_pI hx).tr (sm_pI hx))))
  have h8 : Mid S8 l1 l2 l3 l4 loc ow σ σ M C N := h.free hs (h.fresh k5) z5
  have kq : kT S8 q5 = 1 := by rw [e8, e7, e4, e2]; exact kT_nw _ _ _ _
  have i0 : sI S8 q5 0 = x0 := by rw [e8, e7, e4, e2]; simp [sI, pI, u2]
  have i1 : sI S8 q5 1 = x1 := by rw [e8, e7, e4, e2]; simp [sI, pI, u2]
  have i2 : sI S8 q5 2 = x2 := by rw [e8, e7, e4, e2]; simp [sI, pI, u2]
  have i3 : sI S8 q5 3 = x3 := by rw [e8, e7, e4, e2]; simp [sI, pI, u2]
  clear e8 e7 e4 e2 e6
  obtain ⟨n1, n2, n3, n4⟩ := h8.cns
  obtain ⟨a1, a2, a3⟩ := h8.his
  dsimp only
  rw [n4, a1]
  have ref : ∀ {P : Int32 → Sg → Prop}, (N < 3 → v_X6_isViolated (Ad (sF σ 0 0) N x0 x1 x2 x3) (nI N) (-1) (fun r13 σ13 => ((r13 = 0 → ∀ σ14 : Sg, σ14 = sF σ13 21 ((σ13.1 21) + 1) → P ((σ14.1 21) - 1) σ14) ∧ (¬ r13 = 0 → v_X6_fail σ13 2 (fun r15 σ15 => P r15 σ15))))) → (N = 3 → P 0 (sF σ 0 2)) → v_X6_addConstraint σ x0 x1 x2 x3 P := fun {P} hA hB => by
    unfold v_X6_addConstraint
    intro σ1 e1
    rw [e1]
    refine rf_isIn (fun _ => ⟨fun r => absurd r ne10, fun _ => rf_isRange (fun _ => ⟨fun _ => ?_, fun r => absurd r ne10⟩) (fun q => absurd g2 q)⟩) (fun q => absurd g1 q)
    have e21 : (sF σ 0 0).1 21 = nI N := hw.2.2.2.2.1
    rw [e21]
    refine ⟨fun q v4 hv4 => ?_, fun q => rf_fail ?_⟩
    · have hN3 : N < 3 := Nat.lt_of_le_of_ne hN (fun x => q (by rw [x]; rfl))
      have e4 : (4 : Int32) * nI N = nI (4 * N) := by rw [show (4 : Int32) = nI 4 from rfl, pk_mul]
      rw [hv4, e4, nI_1, nI_2, nI_3, ix_nI (by omega), ix_nI (by omega), ix_nI (by omega), ix_nI (by omega)]
      refine ⟨vp_in_nI (by omega) (by omega), fun σ6 e6 => ⟨vp_in_nI (by omega) (by omega), fun σ8 e8 => ⟨vp_in_nI (by omega) (by omega), fun σ10 e10 => ⟨vp_in_nI (by omega) (by omega), fun σ12 e12 => ?_⟩⟩⟩⟩
      have e : σ12 = Ad (sF σ 0 0) N x0 x1 x2 x3 := by rw [e12, e10, e8, e6]; rfl
      have e21' : (Ad (sF σ 0 0) N x0 x1 x2 x3).1 21 = nI N := e21
      rw [e, e21']
      exact hA hN3
    · rw [sF_sF]
      exact hB ((nI_eq (b := 3) (by omega) (by omega)).mp q)
  obtain ⟨lo, hi, hlh, h32, elo, ehi⟩ := gd_nI (lo := x1) (hi := x2) (num := 0) ⟨g2, by decide, by decide⟩
  have kd := kd_3 g1
  have vio : ∀ {P : Int32 → Sg → Prop} , N < 3 → P (bI (VioC x0 x3 (stf σ C) lo hi)) (Ad (sF σ 0 0) N x0 x1 x2 x3) → v_X6_isViolated (Ad (sF σ 0 0) N x0 x1 x2 x3) (nI N) (-1) P := fun {P} hN3 hP => by
    obtain ⟨d1, d2, d3, d4, d5, d6, d7⟩ := Ad_row (sF σ 0 0) N x0 x1 x2 x3
    have ev : Vi (Ad (sF σ 0 0) N x0 x1 x2 x3) (stf σ C) N = VioC x0 x3 (stf σ C) lo hi := by
      unfold Vi
      rw [d4, d5, d6, d7, elo, ehi, ix_nI (by omega), ix_nI (by omega)]
    refine rf_isViolated (f := stf σ C) hN3 (by rw [d4]; exact kd) (by rw [d5, elo, ix_nI (by omega)]) (by rw [d5, elo, ix_nI (by omega)]; omega) (by rw [d6, ehi, ix_nI (by omega)]) (by rw [d6, ehi, ix_nI (by omega)]; exact h32) (fun k hk => (hw.2.2.2.2.2.2.2.2.1 C (Nat.le_refl C) k hk).1) (fun k hk Q hQ => ⟨fun x => absurd rfl x, fun _ => ?_⟩) (by rw [ev]; exact hP)
    have e14 : (Ad (sF σ 0 0) N x0 x1 x2 x3).1 14 = nI C := hw.2.2.1
    rw [e14]
    exact rf_stored hw.2.2.2.1 hk (by rw [d2 15 (by decide)]; exact hQ)
  refine ⟨h8.k1, fun g3 => Or.inr ⟨rfl, ?_⟩, fun g3 => ⟨a2, cl_newest h8 ⟨kq, ?_⟩⟩⟩
  · have hN3 : N = 3 := Nat.le_antisymm hN (Classical.byContradiction (fun x => nI_ge (a := N) (b := 3) (by omega) (by omega) g3))
    exact hp 2 S8 σ 0 (ref (fun x => absurd hN3 (by omega)) (fun _ => ⟨eqv.th σ 2, rfl, fun q => absurd q ne20⟩)) ⟨loc, ow, M, C, N, h8⟩ (fun q => absurd q ne20)
  · have hN3 : N < 3 := Classical.byContradiction (fun x => g3 (show nI 3 ≤ nI N from nI_le (by omega) (by omega)))
    obtain ⟨f1, f2, f3, f4⟩ := h8.row (Nat.le_refl C)
    refine cl_isViolated kq kd i0 (i1.trans elo) (i2.trans ehi) i3 (by omega) h32 f1 f2 f3 ⟨fun g4 => ?_, fun g4 => Or.inr ⟨rfl, hp 2 S8 (Ad σ N x0 x1 x2 x3) 0 (ref (fun _ => vio hN3 ⟨fun x => absurd x g4, fun _ => rf_fail ⟨?_, rfl, fun q => absurd q ne20⟩⟩) (fun x => absurd hN3 (by omega))) ⟨loc, ow, M, C, N, mid_Ad h8 _ _ _ _⟩ (fun q => absurd q ne20)⟩⟩
    · rw [n4, n1, n3, n2, ix_nI (by omega)]
      refine ⟨h8.k1, rfl, kq, vp_in_nI (by omega) (by omega), fun S21 e21 S25 e25 => ?_⟩
      have v21 : sI S21 l1 7 + 1 = nI (N + 1) := by
        rw [e21]
        show sI S8 l1 7 + 1 = _
        rw [n4, nI_1]
      rw [v21, e21] at e25
      have hm := (mr_con h8.mr hN3 z5 (h.fresh k5) kq i0 i1 i2 i3).mid (by rw [elo, ehi]; exact wf_con hw hN3 kd hlh h32)
      rw [← e25] at hm
      have v25 : sI S25 l1 7 - 1 = nI N := by
        rw [hm.cns.2.2.2, sub_1]
      rw [v25]
      refine wr_ret hm (fun S6 h6 hs6 => hp 0 S6 _ _ (ref (fun _ => vio hN3 ⟨fun _ σ14 e14 => ?_, fun x => absurd g4 x⟩) (fun x => absurd hN3 (by omega))) ⟨_, _, M, C, N + 1, h6⟩ (fun _ => hs6))
      have e21' : (Ad (sF σ 0 0) N x0 x1 x2 x3).1 21 = nI N := hw.2.2.2.2.1
      rw [e21', nI_1] at e14
      rw [e14]
      refine ⟨eqv_sF (Ad_eqv (eqv.th σ 0) N _ _ _ _) 21 _, rfl, fun _ => ?_⟩
      show nI (N + 1) - 1 = _
      rw [sub_1]
    · exact (eqv.th _ 2).tr (Ad_eqv (eqv.th σ 0) N _ _ _ _)
