/-! a commit is appended -/
def vf (σ : Sg) (C t n : Nat) : Sg := (σ.1, fun j i => if j = 15 then (if 32 * (C + 1) ≤ i ∧ i < 32 * (C + 1) + n then vwd σ C t (i - 32 * (C + 1)) else σ.2 j i) else σ.2 j i)
theorem vf_row (σ : Sg) (C t n : Nat) : (vf σ C t n).1 = σ.1 ∧ (∀ j, j ≠ 15 → (vf σ C t n).2 j = σ.2 j) ∧ (∀ i, (vf σ C t n).2 15 i = if 32 * (C + 1) ≤ i ∧ i < 32 * (C + 1) + n then vwd σ C t (i - 32 * (C + 1)) else σ.2 15 i) := by
  refine ⟨rfl, fun j h => ?_, fun i => ?_⟩
  · funext i
    simp only [vf, if_neg h]
  · simp only [vf, if_pos]
theorem vf_0 (σ : Sg) (C t : Nat) : vf σ C t 0 = σ := by
  unfold vf
  refine Prod.ext rfl (funext fun j => funext fun i => ?_)
  have : ¬ (32 * (C + 1) ≤ i ∧ i < 32 * (C + 1) + 0) := by omega
  simp only [if_neg this, ite_self]
theorem vf_s (σ : Sg) (C t k : Nat) : sA (vf σ C t k) 15 (32 * (C + 1) + k) (vwd σ C t k) = vf σ C t (k + 1) := by
  refine Prod.ext rfl (funext fun j => funext fun i => ?_)
  by_cases h : j = 15
  · rw [h, sA_at, (vf_row σ C t k).2.2, (vf_row σ C t (k + 1)).2.2]
    by_cases e : i = 32 * (C + 1) + k
    · rw [if_pos e, if_pos (by omega), e, Nat.add_sub_cancel_left]
    · rw [if_neg e]
      by_cases q : 32 * (C + 1) ≤ i ∧ i < 32 * (C + 1) + k
      · rw [if_pos q, if_pos (by omega)]
      · rw [if_neg q, if_neg (by omega)]
  · rw [sA_ne _ h, (vf_row σ C t k).2.1 j h, (vf_row σ C t (k + 1)).2.1 j h]
theorem vf_v (σ : Sg) (C t n k : Nat) (hk : k < 32) : vwd (vf σ C t n) C t k = vwd σ C t k := by
  unfold vwd stf
  rw [(vf_row σ C t n).2.1 10 (by decide), (vf_row σ C t n).2.2, if_neg (by omega : ¬ (32 * (C + 1) ≤ 32 * C + k ∧ 32 * C + k < 32 * (C + 1) + n))]
def cA (σ : Sg) (C t : Nat) : Sg := sA (sA (sA (sF (vf σ C t 32) 14 (nI (C + 1))) 16 (C + 1) (nI t)) 5 t (nI (C + 1))) 2 t 1
def cG (σ : Sg) (C t : Nat) : Sg := sF (cA σ C t) 13 (if σ.1 13 = nI t then -1 else σ.1 13)
theorem cA_row (σ : Sg) (C t : Nat) : (∀ j, j ≠ 14 → (cA σ C t).1 j = σ.1 j) ∧ (cA σ C t).1 14 = nI (C + 1) ∧ (∀ j, j ≠ 2 → j ≠ 5 → j ≠ 15 → j ≠ 16 → (cA σ C t).2 j = σ.2 j) ∧ (∀ u, (cA σ C t).2 2 u = if u = t then 1 else σ.2 2 u) ∧ (∀ u, (cA σ C t).2 5 u = if u = t then nI (C + 1) else σ.2 5 u) ∧ (∀ c, (cA σ C t).2 16 c = if c = C + 1 then nI t else σ.2 16 c) ∧ (∀ i, (cA σ C t).2 15 i = if 32 * (C + 1) ≤ i ∧ i < 32 * (C + 1) + 32 then vwd σ C t (i - 32 * (C + 1)) else σ.2 15 i) := by
  obtain ⟨v1, v2, v3⟩ := vf_row σ C t 32
  have R : ∀ j, (sF (vf σ C t 32) 14 (nI (C + 1))).2 j = (vf σ C t 32).2 j := fun _ => rfl
  refine ⟨fun j h => ?_, rfl, fun j h2 h5 h15 h16 => ?_, fun u => ?_, fun u => ?_, fun c => ?_, fun i => ?_⟩
  · show (if j = 14 then nI (C + 1) else (vf σ C t 32).1 j) = _
    rw [if_neg h, v1]
  · unfold cA
    rw [sA_ne _ h2, sA_ne _ h5, sA_ne _ h16, R, v2 j h15]
  · unfold cA
    rw [sA_at, sA_ne _ (by decide), sA_ne _ (by decide), R, v2 2 (by decide)]
  · unfold cA
    rw [sA_ne _ (by decide), sA_at, sA_ne _ (by decide), R, v2 5 (by decide)]
  · unfold cA
    rw [sA_ne _ (by decide), sA_ne _ (by decide), sA_at, R, v2 16 (by decide)]
  · unfold cA
    rw [sA_ne _ (by decide), sA_ne _ (by decide), sA_ne _ (by decide), R, v3]
section APP
variable {S S' : MS} {l1 l2 l3 l4 : Nat} {loc ow : Nat → Nat} {σ σ1 : Sg} {M C N : Nat}
theorem mr_app (h : MR S l1 l2 l3 l4 loc ow σ σ1 M C N) (hC60 : C < 60) {t : Nat} (ht : t < M) (hk : S'.1 = S.1)
    (hs : ∀ a, a ≠ loc (100 + (C + 1)) → a ≠ loc 2 → a ≠ loc 9 → a ≠ loc (200 + t) → Sm S S' a)
    (e2 : ∀ j, sI S' (loc 2) j = if j = 2 then nI (C + 1) else sI S (loc 2) j) (r2 : sR S' (loc 2) = sR S (loc 2))
    (e9 : ∀ j, sR S' (loc 9) j = if j = C + 1 then loc (200 + t) else sR S (loc 9) j)
    (et : ∀ j, sI S' (loc (200 + t)) j = if j = 8 then 1 else if j = 10 then nI (C + 1) else sI S (loc (200 + t)) j) (rt : sR S' (loc (200 + t)) = sR S (loc (200 + t)))
    (er : ∀ k, k < 32 → sI S' (loc (100 + (C + 1))) k = vwd σ1 C t k) : MR S' l1 l2 l3 l4 loc ow σ (cA σ1 C t) M (C + 1) N := by
  obtain ⟨hM, hC, hN⟩ := h.bd
  obtain ⟨c1, c2, c3, c4, c5, c6, c7⟩ := cA_row σ1 C t
  have c3' : ∀ j, (j ≠ 2 ∧ j ≠ 5 ∧ j ≠ 15 ∧ j ≠ 16) → (cA σ1 C t).2 j = σ1.2 j := fun j q => c3 j q.1 q.2.1 q.2.2.1 q.2.2.2
  have kt : ∀ a, kT S' a = kT S a := fun a => by unfold kT; rw [hk]
  have kl : ∀ a, kL S' a = kL S a := fun a => by unfold kL; rw [hk]
  have ut := (us_t (σ := σ1) (N := N) ht).1
  have ur : Us σ1 M N (100 + (C + 1)) := us_r (by omega)
  have u2 : Us σ1 M N 2 := us_s (by omega) (by omega)
  have u9 : Us σ1 M N 9 := us_s (by omega) (by omega)
  have sm : ∀ {r}, Us σ1 M N r → r ≠ 100 + (C + 1) → r ≠ 2 → r ≠ 9 → r ≠ 200 + t → Sm S S' (loc r) := fun hr h1 h2 h3 h4 => hs _ (h.ne hr ur h1) (h.ne hr u2 h2) (h.ne hr u9 h3) (h.ne hr ut h4)
  have hus : ∀ {r}, Us (cA σ1 C t) M N r → Us σ1 M N r := fun hr => us_r7 (c3' 7 (by omega)) hr
  have hc8 := cP_8 (σ' := cA σ1 C t) (c3' 8 (by omega))
  refine mr_mk h (fun _ _ => rfl) rfl (hs 0 (Ne.symm (h.nz ur)) (Ne.symm (h.nz u2)) (Ne.symm (h.nz u9)) (Ne.symm (h.nz ut))) (fun r hr h5 => sm hr (by omega) (by omega) (by omega) (by omega)) (fun r hr => by rw [kt]; exact h.owr r (hus hr)) (fun a ha => h.2.2.2.2.2.2.2.2.2.1 a (by rw [← kt]; exact ha)) ⟨hM, by omega, hN⟩ ?_
  obtain ⟨r1', r2', r3, r4, r5, r6, r7, r8, r9⟩ := h.rc
  have q1 := sm (r := 1) (us_s (by omega) (by omega)) (by omega) (by omega) (by omega) (by omega)
  have q3 := sm (r := 3) (us_s (by omega) (by omega)) (by omega) (by omega) (by omega) (by omega)
  have q4 := sm (r := 4) (us_s (by omega) (by omega)) (by omega) (by omega) (by omega) (by omega)
  have q5 := sm (r := 5) (us_s (by omega) (by omega)) (by omega) (by omega) (by omega) (by omega)
  have q8 := sm (r := 8) (us_s (by omega) (by omega)) (by omega) (by omega) (by omega) (by omega)
  have q10 := sm (r := 10) (us_s (by omega) (by omega)) (by omega) (by omega) (by omega) (by omega)
  refine ⟨?_, fun c hc => ?_, fun u hu => ?_, fun u hu k hk => ?_, fun u hu i z hz h24 hi => ?_, fun c hc k hk => ?_, fun c h1 hc u hu hq => ?_, fun i hi => ?_, fun y i hy h60 hi => ?_⟩
  · unfold StR at r1' ⊢
    simp only [kt, kl, q1.2.2, r2, q5.2.2, q1.2.1, q5.2.1]
    obtain ⟨a1, a2, a3, a4, a5, a6, a7, a8, a9, a10, a11, a12, a13, a14, a15, a16, a17, a18, a19, p1, p2, p3, p4, p5, p6, p7, p8, p9, p10, s1, s2, s3, s4, s5, s6, s7, s8, s9⟩ := r1'
    refine ⟨a1, a2, a3, a4, a5, a6, a7, a8, a9, a10, a11, a12, a13, a14, a15, a16, a17, a18, a19, p1, p2, p3, p4, p5, p6, p7, p8, p9, p10, ?_⟩
    rw [c1 1 (by decide), c1 21 (by decide), c1 17 (by decide), c1 18 (by decide), c1 19 (by decide), c1 13 (by decide), c1 25 (by decide), c1 28 (by decide), c2, e2, if_pos rfl]
    exact ⟨s1, s2, s3, s4, s5, s6, rfl, s8, s9⟩
  · have := r2' c hc
    unfold RwR at this ⊢
    rw [kt, kl, q8.2.2]; exact this
  · have := r3 u hu
    obtain ⟨u1, u2', u3, u4⟩ := us_t (σ := σ1) (N := N) hu
    by_cases e : u = t
    · subst e
      obtain ⟨b1, b2, b3, b4, b5, b6, b7, b8, b9, b10, b11, b12, b13, b14, b15, b16, b17, b18⟩ := this
      unfold TxR
      simp only [kt, kl, q3.2.2, rt, et, c4, c5, c3' 3 (by omega), c3' 7 (by omega), c3' 4 (by omega), c3' 6 (by omega)]
      exact ⟨b1, b2, b3, b4, b5, b6, b7, b8, b9, b10, b11, b12, b13, b14, by simp, b16, by simp, b18⟩
    · have p := sm u1 (by omega) (by omega) (by omega) (by omega)
      unfold TxR at this ⊢
      simp only [kt, kl, q3.2.2, p.2.2, p.2.1, c4, c5, if_neg e, c3' 3 (by omega), c3' 7 (by omega), c3' 4 (by omega), c3' 6 (by omega)]
      exact this
  · have := r4 u hu k hk
    obtain ⟨u1, u2', u3, u4⟩ := us_t (σ := σ1) (N := N) hu
    have p3 := sm u3 (by omega) (by omega) (by omega) (by omega)
    have p4 := sm u4 (by omega) (by omega) (by omega) (by omega)
    have e6 : sI S' (loc (200 + u)) 6 = sI S (loc (200 + u)) 6 := by
      by_cases e : u = t
      · rw [e, et, if_neg (by decide), if_neg (by decide)]
      · rw [(sm u1 (by omega) (by omega) (by omega) (by omega)).2.1]
    have e7 : sI S' (loc (200 + u)) 7 = sI S (loc (200 + u)) 7 := by
      by_cases e : u = t
      · rw [e, et, if_neg (by decide), if_neg (by decide)]
      · rw [(sm u1 (by omega) (by omega) (by omega) (by omega)).2.1]
    unfold KyR at this ⊢
    rw [e6, e7, p3.2.1, p4.2.1, c3' 9 (by omega), c3' 10 (by omega)]
    exact this
  · rw [c3' 7 (by omega)] at hz
    have := r5 u hu i z hz h24 hi
    have p := sm (us_z hu hz h24 hi) (by omega) (by omega) (by omega) (by omega)
    have p2 := sm (us_t (σ := σ1) (N := N) hu).2.1 (by omega) (by omega) (by omega) (by omega)
    unfold OpR at this ⊢
    rw [p.T, p2.2.2, p.2.1, c3' 8 (by omega), c3' 11 (by omega), hc8]
    exact this
  · rw [c7]
    by_cases e : c = C + 1
    · rw [e, if_pos (by omega), Nat.add_sub_cancel_left]
      exact er k hk
    · rw [if_neg (by omega), (sm (r := 100 + c) (us_r (by omega)) (by omega) (by omega) (by omega) (by omega)).2.1]
      exact r6 c (by omega) k hk
  · rw [c6] at hq
    rw [e9]
    by_cases e : c = C + 1
    · rw [if_pos e] at hq ⊢
      have : t = u := (nI_eq (by omega) (by omega)).mp hq
      rw [this]
    · rw [if_neg e] at hq ⊢
      exact r7 c h1 (by omega) u hu hq
  · have := r8 i hi
    have p := sm (us_c hi) (by omega) (by omega) (by omega) (by omega)
    unfold CnR at this ⊢
    rw [q4.2.2, p.T, p.2.1, c3' 20 (by omega)]
    exact this
  · rw [c1 25 (by decide)] at hy
    rw [q10.2.1, c3' 24 (by omega)]
    exact r9 y i hy h60 hi
theorem cl_append (h : Mid S l1 l2 l3 l4 loc ow σ σ1 M C N) (hC60 : C < 60) {t : Nat} (ht : t < M) {post : MS → Prop} (hp : ∀ S', MR S' l1 l2 l3 l4 loc ow σ (cA σ1 C t) M (C + 1) N → post S') : w_X1_append S (loc 2) (loc (200 + t)) post := by
  have hM := h.M80
  obtain ⟨hi1, hi2, hi3⟩ := h.his
  obtain ⟨a1, a2, a3, a4, a5, a6, a7, a8, a9, a10, a11, a12, a13, a14, a15, a16, a17, a18, a19, p1, p2, p3, p4, p5, p6, p7, p8, p9, p10, s1, s2, s3, s4, s5, s6, s7, s8, s9⟩ := h.mr.st
  have ut := (us_t (σ := σ1) (N := N) ht).1
  have uv := (us_t (σ := σ1) (N := N) ht).2.2.2
  have ur : Us σ1 M N (100 + (C + 1)) := us_r (by omega)
  have uc : Us σ1 M N (100 + C) := us_r (by omega)
  have u2 : Us σ1 M N 2 := us_s (by omega) (by omega)
  have u9 : Us σ1 M N 9 := us_s (by omega) (by omega)
  obtain ⟨b1, b2, b3, b4, b5, b6, b7, b8, b9, b10, b11, b12, b13, b14, b15, b16, b17, b18⟩ := h.tx ht
  obtain ⟨f1, f2, f3, f4⟩ := h.row (Nat.le_refl C)
  obtain ⟨g1, g2, g3⟩ := h.mr.rc.2.1 (C + 1) (by omega)
  have n2r := h.ne u2 ur (by omega)
  have n9r := h.ne u9 ur (by omega)
  have ntr := h.ne ut ur (by omega)
  have nvr := h.ne uv ur (by omega)
  have n92 := h.ne u9 u2 (by omega)
  have nt2 := h.ne ut u2 (by omega)
  have nv2 := h.ne uv u2 (by omega)
  have nt9 := h.ne ut u9 (by omega)
  have ncr := h.ne uc ur (by omega)
  have i32 : ix 32 = 32 := rfl
  unfold w_X1_append w_X1_isFull b_X1_isFull_14
  dsimp only
  rw [hi3, p7, a13, nI_1, ix_nI (by omega), ix_nI (by omega), f4, g3, f1, f2, g1, g2, i32, ix0]
  refine ⟨hi2, hi2, fun _ => ⟨zb0, fun _ => ⟨hi2, a12, vp_in_nI (by omega) (by omega), vp_in_nI (by omega) (by omega), rfl, rfl, by omega, by omega, fun S12 e12 S17 e17 => ?_⟩, fun q => absurd rfl q⟩, fun q => absurd (nI_lt (a := C) (b := 60) (by omega) (by omega)) q⟩
  have s12 : ∀ a, a ≠ loc (100 + (C + 1)) → Sm S S12 a := fun a ha => by
    rw [e12]; exact ⟨rfl, if_neg ha, rfl⟩
  have hc2 : sI S12 (loc 2) 2 + 1 = nI (C + 1) := by rw [(s12 _ n2r).2.1, hi3, nI_1]
  rw [hc2] at e17
  have k17 : S17.1 = S.1 := by rw [e17, e12]; rfl
  have kt : ∀ a, kT S17 a = kT S a := fun a => by unfold kT; rw [k17]
  have kl : ∀ a, kL S17 a = kL S a := fun a => by unfold kL; rw [k17]
  have s17 : ∀ a, a ≠ loc (100 + (C + 1)) → a ≠ loc 2 → Sm S S17 a := fun a h1 h2 => by
    rw [e17]; exact (s12 a h1).tr (sm_pI h2)
  have r17 : ∀ a, sR S17 a = sR S a := fun a => by rw [e17, e12]; rfl
  have i17 : ∀ j, sI S17 (loc 2) j = if j = 2 then nI (C + 1) else sI S (loc 2) j := fun j => by
    rw [e17, sI_pI, if_pos rfl, (s12 _ n2r).2.1]
  have w17 : ∀ k, k < 32 → sI S17 (loc (100 + (C + 1))) k = stf σ1 C k := fun k hk => by
    have : sI S17 (loc (100 + (C + 1))) k = sI S12 (loc (100 + (C + 1))) k := by
      rw [e17, sI_pI, if_neg (Ne.symm n2r)]
    rw [this, e12, sI_cpI hk]
    exact f3 k hk
  rw [r17, p7, kt, kl, a12, a13, i17, if_pos rfl, ix_nI (by omega), r17, g3, kt]
  refine ⟨rfl, vp_in_nI (by omega) (by omega), b1, ⟨33, ?_⟩⟩
  have ky := fun k hk => h.mr.rc.2.2.2.1 t ht k hk
  refine cl_aw2 (σ1 := σ1) (t := t) (T := loc (200 + t)) (V := loc (500 + t)) (f0 := stf σ1 C) ntr nvr S17 (by rw [kt]; exact b1) (by rw [r17]; exact b5) (by rw [kt]; exact b10) (by rw [kl]; exact b11) (fun k hk => ?_) ⟨by rw [kt]; exact g1, by rw [kl]; exact g2⟩ (fun S25 s25 k25 w25 => ?_) 32 0 S17 (by omega) (fun a _ => Sm.rf S17 a) rfl (fun k hk => absurd hk (by omega)) (fun k _ hk => w17 k hk)
  · obtain ⟨y1, y2, y3, y4⟩ := ky k hk
    rw [(s17 _ ntr nt2).2.1, (s17 _ nvr nv2).2.1]
    exact ⟨y3, y4⟩
  · have k25' : S25.1 = S.1 := k25.trans k17
    have kt5 : ∀ a, kT S25 a = kT S a := fun a => by unfold kT; rw [k25']
    have kl5 : ∀ a, kL S25 a = kL S a := fun a => by unfold kL; rw [k25']
    have i25 : ∀ j, sI S25 (loc 2) j = if j = 2 then nI (C + 1) else sI S (loc 2) j := fun j => by
      rw [(s25 _ n2r).2.1]; exact i17 j
    have r25 : ∀ a, a ≠ loc (100 + (C + 1)) → sR S25 a = sR S a := fun a ha => by rw [(s25 a ha).2.2, r17]
    rw [r25 _ n2r, p8, kt5, kt5, kt5, kl5, a14, a15, i25, if_pos rfl, ix_nI (by omega)]
    refine ⟨hi2, rfl, b1, vp_in_nI (by omega) (by omega), fun S31 e31 S35 e35 S39 e39 => ?_⟩
    have v35 : sI S35 (loc 2) 2 = nI (C + 1) := by
      rw [e35, sI_pI, if_neg (Ne.symm nt2), e31]
      show sI S25 (loc 2) 2 = _
      rw [i25, if_pos rfl]
    rw [v35] at e39
    refine hp S39 (mr_app h.mr hC60 ht (by rw [e39, e35, e31]; exact k25') (fun a h1 h2 h3 h4 => ?_) (fun j => ?_) ?_ (fun j => ?_) (fun j => ?_) ?_ (fun k hk => ?_))
    · rw [e39, e35, e31]
      exact (s17 a h1 h2).tr ((s25 a h1).tr ((sm_pR h3).tr ((sm_pI h4).tr (sm_pI h4))))
    · rw [e39, sI_pI, if_neg (Ne.symm nt2), e35, sI_pI, if_neg (Ne.symm nt2), e31]
      exact i25 j
    · rw [e39, e35, e31]
      show sR (pR S25 (loc 9) (C + 1) (loc (200 + t))) (loc 2) = _
      rw [(sm_pR (S := S25) (k := C + 1) (v := loc (200 + t)) (Ne.symm n92)).2.2]
      exact r25 _ n2r
    · rw [e39, e35, e31]
      show sR (pR S25 (loc 9) (C + 1) (loc (200 + t))) (loc 9) j = _
      rw [sR_pR, if_pos rfl, r25 _ n9r]
    · rw [e39, sI_pI, if_pos rfl, e35, sI_pI, if_pos rfl, e31]
      have x : sI (pR S25 (loc 9) (C + 1) (loc (200 + t))) (loc (200 + t)) j = sI S (loc (200 + t)) j := by
        show sI S25 (loc (200 + t)) j = _
        rw [(s25 _ ntr).2.1, (s17 _ ntr nt2).2.1]
      rw [x]
      by_cases q : j = 10
      · rw [if_pos q, if_neg (by omega), if_pos q]
      · rw [if_neg q, if_neg q]
    · rw [e39, e35, e31]
      show sR (pR S25 (loc 9) (C + 1) (loc (200 + t))) (loc (200 + t)) = _
      rw [(sm_pR (S := S25) (k := C + 1) (v := loc (200 + t)) nt9).2.2]
      exact r25 _ ntr
    · have : sI S39 (loc (100 + (C + 1))) k = sI S25 (loc (100 + (C + 1))) k := by
        rw [e39, sI_pI, if_neg (Ne.symm ntr), e35, sI_pI, if_neg (Ne.symm ntr), e31]
        rfl
      rw [this, w25 k hk]
      rfl
theorem wf_cG (hw : WF σ1 M C N) (hC60 : C < 60) {t : Nat} (ht : t < M) (hst : σ1.2 2 t = 0) : WF (cG σ1 C t) M (C + 1) N := by
  have hM := hw.2.1
  have com := fun c h1 hc => hw.com (c := c) h1 hc
  have vrg := hw.vrg ht
  obtain ⟨c1, c2, c3, c4, c5, c6, c7⟩ := cA_row σ1 C t
  obtain ⟨w1, w2, w3, w4, w5, w6, w7, w8, w9, w10, w11, w12, w13, w14, w15, w16, w17⟩ := hw
  have R : ∀ j, (cG σ1 C t).2 j = (cA σ1 C t).2 j := fun _ => rfl
  have c3' : ∀ j, (j ≠ 2 ∧ j ≠ 5 ∧ j ≠ 15 ∧ j ≠ 16) → (cG σ1 C t).2 j = σ1.2 j := fun j q => c3 j q.1 q.2.1 q.2.2.1 q.2.2.2
  have F : ∀ j, j ≠ 14 → j ≠ 13 → (cG σ1 C t).1 j = σ1.1 j := fun j h1 h13 => by
    show (if j = 13 then _ else (cA σ1 C t).1 j) = _
    rw [if_neg h13, c1 j h1]
  have hcP := cP_8 (σ' := cG σ1 C t) (c3' 8 (by omega))
  refine ⟨by rw [F 1 (by decide) (by decide)]; exact w1, w2, rfl, by omega, by rw [F 21 (by decide) (by decide)]; exact w5, w6, fun u hu => ?_, ?_, fun c hc k hk => ?_, fun c h1 hc => ?_, ?_, by rw [F 17 (by decide) (by decide)]; exact w12, by rw [F 18 (by decide) (by decide)]; exact w13, by rw [F 19 (by decide) (by decide)]; exact w14, ?_, ?_, fun u h1 h2 => ?_⟩
  · obtain ⟨q1, q2, q3⟩ := w7 u hu
    rw [c3' 7 (by omega), c3' 12 (by omega), c3' 3 (by omega), R, c4]
    refine ⟨?_, ?_, q3⟩
    · by_cases e : u = t
      · rw [if_pos e]; exact ⟨1, by omega, rfl⟩
      · rw [if_neg e]; exact q1
    · simp only [hcP]; exact q2
  · rw [c3' 9 (by omega), c3' 10 (by omega)]; exact w8
  · rw [R, c7]
    by_cases e : c = C + 1
    · rw [e, if_pos (by omega), Nat.add_sub_cancel_left]; exact vrg k hk
    · rw [if_neg (by omega)]; exact w9 c (by omega) k hk
  · rw [R, c6, c3' 10 (by omega)]
    by_cases e : c = C + 1
    · refine ⟨t, ht, by rw [if_pos e], by rw [R, c4, if_pos rfl], by rw [R, c5, if_pos rfl, e], fun k hk q => ?_⟩
      rw [R, c7, e, if_pos (by omega), Nat.add_sub_cancel_left]
      unfold vwd
      rw [if_neg q]
    · obtain ⟨e1, e2, e3, e4, e5⟩ := com c h1 (by omega)
      have hne : cm σ1 c ≠ t := fun q => by
        rw [q, hst] at e3
        exact absurd e3 (by decide)
      refine ⟨cm σ1 c, e1, by rw [if_neg e]; exact e2, by rw [R, c4, if_neg hne]; exact e3, by rw [R, c5, if_neg hne]; exact e4, fun k hk q => ?_⟩
      rw [R, c7, if_neg (by omega)]
      exact e5 k hk q
  · show (if σ1.1 13 = nI t then (-1 : Int32) else σ1.1 13) = -1 ∨ ∃ u : Nat, u < M ∧ (if σ1.1 13 = nI t then (-1 : Int32) else σ1.1 13) = nI u ∧ (cA σ1 C t).2 2 u = 0
    by_cases e : σ1.1 13 = nI t
    · rw [if_pos e]; exact Or.inl rfl
    · rw [if_neg e]
      rcases w11 with q | ⟨u, hu, q1, q2⟩
      · exact Or.inl q
      · refine Or.inr ⟨u, hu, q1, ?_⟩
        rw [c4, if_neg (fun x => e (by rw [q1, x]))]; exact q2
  · rw [c3' 20 (by omega)]; exact w15
  · rw [F 25 (by decide) (by decide), c3' 24 (by omega)]; exact w16
  · rw [c3' 4 (by omega), c3' 6 (by omega), R, c5, if_neg (by omega)]; exact w17 u h1 h2
end APP
