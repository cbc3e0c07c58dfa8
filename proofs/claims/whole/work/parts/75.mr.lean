/-! the tie without the ranges: what holds between two writes -/
def MR (S : MS) (l1 l2 l3 l4 : Nat) (loc ow : Nat → Nat) (σ σ1 : Sg) (M C N : Nat) : Prop :=
  loc 1 = l1 ∧ loc 5000 = l2 ∧ loc 5100 = l3 ∧ loc 5101 = l4 ∧ kT S l3 = 15 ∧ kL S l3 = 1 ∧ kT S l4 = 16 ∧ kL S l4 = 1 ∧ (∀ r, Us σ1 M N r → ow (loc r) = r ∧ kT S (loc r) ≠ 0) ∧ (∀ a, kT S a ≠ 0 → a ≠ 0) ∧
  (M ≤ 80 ∧ C ≤ 60 ∧ N ≤ 3) ∧ RC S loc σ1 M C N ∧ RM l2 (sR S l2) S σ ∧ (∀ k, (lenA k ≠ 0 → sR S l2 k = loc (5001 + k)) ∧ (lenA k = 0 → sR S l2 k = 0))
theorem eqv_sA {a b : Sg} (h : eqv a b) (k i : Nat) (v : Int32) : eqv (sA a k i v) (sA b k i v) := by
  have e : ∀ j, a.2 j = b.2 j → (sA a k i v).2 j = (sA b k i v).2 j := fun j q => by
    funext x
    simp only [sA, u2, q]
  obtain ⟨h1, b2, b3, b4, b5, b6, b7, b8, b9, b10, b11, b12, b15, b16, b20, b24⟩ := h
  exact ⟨h1, e _ b2, e _ b3, e _ b4, e _ b5, e _ b6, e _ b7, e _ b8, e _ b9, e _ b10, e _ b11, e _ b12, e _ b15, e _ b16, e _ b20, e _ b24⟩
theorem eqv_sF {a b : Sg} (h : eqv a b) (k : Nat) (v : Int32) : eqv (sF a k v) (sF b k v) := by
  have e : ∀ j, a.1 j = b.1 j → (sF a k v).1 j = (sF b k v).1 j := fun j q => by
    simp only [sF, q]
  obtain ⟨⟨a1, a2, a3, a4, a5, a6, a7, a8, a9⟩, h2⟩ := h
  exact ⟨⟨e _ a1, e _ a2, e _ a3, e _ a4, e _ a5, e _ a6, e _ a7, e _ a8, e _ a9⟩, h2⟩
theorem eqv.sy {a b : Sg} (h : eqv a b) : eqv b a := by
  obtain ⟨⟨a1, a2, a3, a4, a5, a6, a7, a8, a9⟩, b1, b2, b3, b4, b5, b6, b7, b8, b9, b10, b11, b12, b13, b14, b15⟩ := h
  exact ⟨⟨a1.symm, a2.symm, a3.symm, a4.symm, a5.symm, a6.symm, a7.symm, a8.symm, a9.symm⟩, b1.symm, b2.symm, b3.symm, b4.symm, b5.symm, b6.symm, b7.symm, b8.symm, b9.symm, b10.symm, b11.symm, b12.symm, b13.symm, b14.symm, b15.symm⟩
theorem cP_8 {σ σ' : Sg} (h : σ'.2 8 = σ.2 8) (t : Nat) : ∀ i, cP σ' t i = cP σ t i
  | 0 => rfl
  | i + 1 => by rw [cP, cP, cP_8 h t i]; unfold isPr; rw [h]
section MRS
variable {S : MS} {l1 l2 l3 l4 : Nat} {loc ow : Nat → Nat} {σ σ1 σ2 : Sg} {M C N M2 C2 N2 : Nat}
theorem Mid.mr (h : Mid S l1 l2 l3 l4 loc ow σ σ1 M C N) : MR S l1 l2 l3 l4 loc ow σ σ1 M C N := by
  obtain ⟨m1, m2, m3, m4, m5, m6, m7, m8, m9, m10, m11, m12, m13, m14⟩ := h
  exact ⟨m1, m2, m3, m4, m5, m6, m7, m8, m9, m10, ⟨m11.2.1, m11.2.2.2.1, m11.2.2.2.2.2.1⟩, m12, m13, m14⟩
theorem MR.mid (h : MR S l1 l2 l3 l4 loc ow σ σ1 M C N) (hw : WF σ1 M C N) : Mid S l1 l2 l3 l4 loc ow σ σ1 M C N := by
  obtain ⟨m1, m2, m3, m4, m5, m6, m7, m8, m9, m10, m11, m12, m13, m14⟩ := h
  exact ⟨m1, m2, m3, m4, m5, m6, m7, m8, m9, m10, hw, m12, m13, m14⟩
theorem MR.owr (h : MR S l1 l2 l3 l4 loc ow σ σ1 M C N) : ∀ r, Us σ1 M N r → ow (loc r) = r ∧ kT S (loc r) ≠ 0 := h.2.2.2.2.2.2.2.2.1
theorem MR.bd (h : MR S l1 l2 l3 l4 loc ow σ σ1 M C N) : M ≤ 80 ∧ C ≤ 60 ∧ N ≤ 3 := h.2.2.2.2.2.2.2.2.2.2.1
theorem MR.rc (h : MR S l1 l2 l3 l4 loc ow σ σ1 M C N) : RC S loc σ1 M C N := h.2.2.2.2.2.2.2.2.2.2.2.1
theorem MR.st (h : MR S l1 l2 l3 l4 loc ow σ σ1 M C N) : StR S loc σ1 := h.rc.1
theorem MR.tx (h : MR S l1 l2 l3 l4 loc ow σ σ1 M C N) {t : Nat} (ht : t < M) : TxR S loc σ1 t := h.rc.2.2.1 t ht
theorem MR.k1 (h : MR S l1 l2 l3 l4 loc ow σ σ1 M C N) : kT S l1 = 6 := by rw [← h.1]; exact h.st.1
theorem MR.nz (h : MR S l1 l2 l3 l4 loc ow σ σ1 M C N) {r : Nat} (hr : Us σ1 M N r) : loc r ≠ 0 := h.2.2.2.2.2.2.2.2.2.1 _ (h.owr r hr).2
theorem MR.ne (h : MR S l1 l2 l3 l4 loc ow σ σ1 M C N) {r q : Nat} (hr : Us σ1 M N r) (hq : Us σ1 M N q) (hne : r ≠ q) : loc r ≠ loc q := ow_ne h.owr hr hq hne
theorem MR.neM (h : MR S l1 l2 l3 l4 loc ow σ σ1 M C N) {r : Nat} (hr : Us σ1 M N r) (hlt : r < 5000) : loc r ≠ l2 ∧ ∀ k, loc r ≠ sR S l2 k := by
  obtain ⟨m1, m2, m3, m4, m5, m6, m7, m8, m9, m10, m11, m12, m13, m14⟩ := id h
  refine ⟨by rw [← m2]; exact h.ne hr us_m.1 (by omega), fun k => ?_⟩
  by_cases hk : lenA k = 0
  · rw [(m14 k).2 hk]; exact h.nz hr
  · rw [(m14 k).1 hk]; exact h.ne hr (us_k hk) (by omega)
theorem MR.scal (h : MR S l1 l2 l3 l4 loc ow σ σ1 M C N) : sI S l1 6 = σ1.1 1 ∧ sI S l1 7 = σ1.1 21 ∧ sI S l1 8 = σ1.1 17 ∧ sI S l1 9 = σ1.1 18 ∧ sI S l1 10 = σ1.1 19 ∧ sI S l1 11 = σ1.1 13 ∧ sI S (loc 2) 2 = σ1.1 14 ∧ sR S l1 0 = loc 2 ∧ kT S (loc 2) = 2 := by
  obtain ⟨a1, a2, a3, a4, a5, a6, a7, a8, a9, a10, a11, a12, a13, a14, a15, a16, a17, a18, a19, p1, p2, p3, p4, p5, p6, p7, p8, p9, p10, s1, s2, s3, s4, s5, s6, s7, s8, s9⟩ := h.st
  rw [← h.1]
  exact ⟨s1, s2, s3, s4, s5, s6, s7, p1, a2⟩
/-- an int of a class's cell is written -/
theorem mr_putI (h : MR S l1 l2 l3 l4 loc ow σ σ1 M C N) {r k : Nat} {v : Int32} (hr : Us σ1 M N r) (hlt : r < 5000) (hu : ∀ q, Us σ2 M2 N2 q → Us σ1 M N q) (hb : M2 ≤ 80 ∧ C2 ≤ 60 ∧ N2 ≤ 3) (hc : RC (pI S (loc r) k v) loc σ2 M2 C2 N2) : MR (pI S (loc r) k v) l1 l2 l3 l4 loc ow σ σ2 M2 C2 N2 := by
  obtain ⟨e1, e2⟩ := h.neM hr hlt
  have hsm : ∀ a, a ≠ loc r → Sm S (pI S (loc r) k v) a := fun a ha => ⟨rfl, u2_ne _ _ _ ha, rfl⟩
  obtain ⟨m1, m2, m3, m4, m5, m6, m7, m8, m9, m10, m11, m12, m13, m14⟩ := h
  exact ⟨m1, m2, m3, m4, m5, m6, m7, m8, fun q hq => m9 q (hu q hq), m10, hb, hc, rm_same m13 (fun j => hsm _ (Ne.symm (e2 j))) (hsm _ (Ne.symm e1)), m14⟩
/-- a reference of a class's cell is written -/
theorem mr_putR (h : MR S l1 l2 l3 l4 loc ow σ σ1 M C N) {r k v : Nat} (hr : Us σ1 M N r) (hlt : r < 5000) (hu : ∀ q, Us σ2 M2 N2 q → Us σ1 M N q) (hb : M2 ≤ 80 ∧ C2 ≤ 60 ∧ N2 ≤ 3) (hc : RC (pR S (loc r) k v) loc σ2 M2 C2 N2) : MR (pR S (loc r) k v) l1 l2 l3 l4 loc ow σ σ2 M2 C2 N2 := by
  obtain ⟨e1, e2⟩ := h.neM hr hlt
  have hsm : ∀ a, a ≠ loc r → Sm S (pR S (loc r) k v) a := fun a ha => ⟨rfl, rfl, u2_ne _ _ _ ha⟩
  obtain ⟨m1, m2, m3, m4, m5, m6, m7, m8, m9, m10, m11, m12, m13, m14⟩ := h
  refine ⟨m1, m2, m3, m4, m5, m6, m7, m8, fun q hq => m9 q (hu q hq), m10, hb, hc, rm_same m13 (fun j => hsm _ (Ne.symm (e2 j))) (hsm _ (Ne.symm e1)), fun j => ?_⟩
  rw [show sR (pR S (loc r) k v) l2 = sR S l2 from u2_ne _ _ _ (Ne.symm e1)]
  exact m14 j
theorem us_r7 (h7 : σ2.2 7 = σ1.2 7) {q : Nat} (h : Us σ2 M N q) : Us σ1 M N q := by
  unfold Us at h ⊢
  rw [h7] at h
  exact h
/-- a transaction's own int: its state, reason, number of commit, whether it was retried -/
theorem mr_txI (h : MR S l1 l2 l3 l4 loc ow σ σ1 M C N) {t k row : Nat} {v : Int32} (ht : t < M) (hk : (k = 8 ∧ row = 2) ∨ (k = 9 ∧ row = 4) ∨ (k = 10 ∧ row = 5) ∨ (k = 11 ∧ row = 6)) : MR (pI S (loc (200 + t)) k v) l1 l2 l3 l4 loc ow σ (sA σ1 row t v) M C N := by
  obtain ⟨hM, hC, hN⟩ := h.bd
  have ut := (us_t (σ := σ1) (N := N) ht).1
  have rne : ∀ j, j ≠ row → (sA σ1 row t v).2 j = σ1.2 j := fun j hj => u2_ne _ _ _ hj
  have ne : ∀ {q}, Us σ1 M N q → q ≠ 200 + t → sI (pI S (loc (200 + t)) k v) (loc q) = sI S (loc q) := fun hq hn => u2_ne _ _ _ (h.ne hq ut hn)
  have at' : ∀ j, sI (pI S (loc (200 + t)) k v) (loc (200 + t)) j = if j = k then v else sI S (loc (200 + t)) j := fun j => by rw [sI_pI, if_pos rfl]
  refine mr_putI h ut (by omega) (fun q hq => us_r7 (rne 7 (by omega)) hq) ⟨hM, hC, hN⟩ ?_
  obtain ⟨r1, r2, r3, r4, r5, r6, r7, r8, r9⟩ := h.rc
  have hc := cP_8 (σ' := sA σ1 row t v) (rne 8 (by omega))
  refine ⟨?_, r2, fun u hu => ?_, fun u hu j hj => ?_, fun u hu i z hz h24 hi => ?_, fun c hc' j hj => ?_, fun c h1 hc' u hu hq => ?_, fun i hi => ?_, fun y i hy h60 hi => ?_⟩
  · unfold StR at r1 ⊢
    rw [ne (us_s (r := 1) (by omega) (by omega)) (by omega), ne (us_s (r := 2) (by omega) (by omega)) (by omega), ne (us_s (r := 5) (by omega) (by omega)) (by omega)]
    exact r1
  · have := r3 u hu
    by_cases e : u = t
    · subst e
      obtain ⟨b1, b2, b3, b4, b5, b6, b7, b8, b9, b10, b11, b12, b13, b14, b15, b16, b17, b18⟩ := this
      have x : ∀ {k' row' : Nat}, k' ∈ [8, 9, 10, 11] → (k' = k ↔ row' = row) → sI S (loc (200 + u)) k' = σ1.2 row' u → sI (pI S (loc (200 + u)) k v) (loc (200 + u)) k' = (sA σ1 row u v).2 row' u := fun {k' row'} _ hi hb => by
        rw [at']
        by_cases q : k' = k
        · rw [if_pos q, hi.mp q, sA_at, if_pos rfl]
        · rw [if_neg q, rne row' (fun w => q (hi.mpr w))]; exact hb
      exact ⟨b1, b2, b3, b4, b5, b6, b7, b8, b9, b10, b11, by rw [at', if_neg (by omega)]; exact b12, by rw [at', if_neg (by omega), rne 3 (by omega)]; exact b13, by rw [at', if_neg (by omega), rne 7 (by omega)]; exact b14, x (by simp) (by omega) b15, x (by simp) (by omega) b16, x (by simp) (by omega) b17, x (by simp) (by omega) b18⟩
    · have f : ∀ row', (sA σ1 row t v).2 row' u = σ1.2 row' u := fun row' => by
        by_cases q : row' = row
        · rw [q, sA_at, if_neg e]
        · rw [rne row' q]
      unfold TxR at this ⊢
      rw [ne (us_t (σ := σ1) (N := N) hu).1 (by omega), f, f, f, f, f, f]
      exact this
  · have := r4 u hu j hj
    unfold KyR at this ⊢
    have e6 : sI (pI S (loc (200 + t)) k v) (loc (200 + u)) 6 = sI S (loc (200 + u)) 6 := by
      by_cases e : u = t
      · rw [e, at', if_neg (by omega)]
      · rw [ne (us_t (σ := σ1) (N := N) hu).1 (by omega)]
    have e7 : sI (pI S (loc (200 + t)) k v) (loc (200 + u)) 7 = sI S (loc (200 + u)) 7 := by
      by_cases e : u = t
      · rw [e, at', if_neg (by omega)]
      · rw [ne (us_t (σ := σ1) (N := N) hu).1 (by omega)]
    rw [e6, e7, ne (us_t (σ := σ1) (N := N) hu).2.2.1 (by omega), ne (us_t (σ := σ1) (N := N) hu).2.2.2 (by omega), rne 9 (by omega), rne 10 (by omega)]
    exact this
  · rw [rne 7 (by omega)] at hz
    have := r5 u hu i z hz h24 hi
    unfold OpR at this ⊢
    rw [ne (us_z hu hz h24 hi) (by omega), rne 8 (by omega), rne 11 (by omega), hc]
    exact this
  · rw [ne (us_r (by omega)) (by omega), rne 15 (by omega)]
    exact r6 c hc' j hj
  · rw [rne 16 (by omega)] at hq
    exact r7 c h1 hc' u hu hq
  · have := r8 i hi
    unfold CnR at this ⊢
    rw [ne (us_c hi) (by omega), rne 20 (by omega)]
    exact this
  · rw [ne (us_s (r := 10) (by omega) (by omega)) (by omega), rne 24 (by omega)]
    exact r9 y i hy h60 hi
/-- the store's own int -/
theorem mr_x (h : MR S l1 l2 l3 l4 loc ow σ σ1 M C N) {k : Nat} {v : Int32} (h2 : σ2.2 = σ1.2) (e6 : (if 6 = k then v else σ1.1 1) = σ2.1 1) (e7 : (if 7 = k then v else σ1.1 21) = σ2.1 21) (e8 : (if 8 = k then v else σ1.1 17) = σ2.1 17) (e9 : (if 9 = k then v else σ1.1 18) = σ2.1 18) (e10 : (if 10 = k then v else σ1.1 19) = σ2.1 19) (e11 : (if 11 = k then v else σ1.1 13) = σ2.1 13) (ec : σ2.1 14 = σ1.1 14) (et : σ2.1 25 = σ1.1 25) (ef : σ2.1 28 = σ1.1 28) : MR (pI S l1 k v) l1 l2 l3 l4 loc ow σ σ2 M C N := by
  obtain ⟨hM, hC, hN⟩ := h.bd
  have u1 : Us σ1 M N 1 := us_s (by omega) (by omega)
  have z := mr_putI (σ2 := σ2) (M2 := M) (C2 := C) (N2 := N) h (r := 1) (k := k) (v := v) u1 (by omega) (fun q hq => us_r7 (by rw [h2]) hq) ⟨hM, hC, hN⟩ (rc_st hM hC hN h.rc (fun r hr hlt hne _ _ => ⟨rfl, u2_ne _ _ _ (h.ne hr u1 hne), rfl⟩) (str_putX h.st (h.ne (us_s (by omega) (by omega)) u1 (by omega)) (h.ne (us_s (by omega) (by omega)) u1 (by omega)) e6 e7 e8 e9 e10 e11 ec et ef) h2 et)
  rw [h.1] at z
  exact z
/-- the clock -/
theorem mr_clock (h : MR S l1 l2 l3 l4 loc ow σ σ1 M C N) {C' : Nat} (hC' : C' ≤ C) : MR (pI S (loc 2) 2 (nI C')) l1 l2 l3 l4 loc ow σ (sF σ1 14 (nI C')) M C' N := by
  obtain ⟨hM, hC, hN⟩ := h.bd
  have u2' : Us σ1 M N 2 := us_s (by omega) (by omega)
  have ne : ∀ {q}, Us σ1 M N q → q ≠ 2 → sI (pI S (loc 2) 2 (nI C')) (loc q) = sI S (loc q) := fun hq hn => u2_ne _ _ _ (h.ne hq u2' hn)
  refine mr_putI h u2' (by omega) (fun q hq => us_r7 rfl hq) ⟨hM, by omega, hN⟩ ?_
  obtain ⟨r1, r2, r3, r4, r5, r6, r7, r8, r9⟩ := h.rc
  have hc := cP_8 (σ' := sF σ1 14 (nI C')) (σ := σ1) rfl
  refine ⟨?_, r2, fun u hu => ?_, fun u hu j hj => ?_, fun u hu i z hz h24 hi => ?_, fun c hc' j hj => ?_, fun c h1 hc' u hu hq => r7 c h1 (by omega) u hu hq, fun i hi => ?_, fun y i hy h60 hi => ?_⟩
  · obtain ⟨a1, a2, a3, a4, a5, a6, a7, a8, a9, a10, a11, a12, a13, a14, a15, a16, a17, a18, a19, p1, p2, p3, p4, p5, p6, p7, p8, p9, p10, s1, s2, s3, s4, s5, s6, s7, s8, s9⟩ := r1
    refine ⟨a1, a2, a3, a4, a5, a6, a7, a8, a9, a10, a11, a12, a13, a14, a15, a16, a17, a18, a19, p1, p2, p3, p4, p5, p6, p7, p8, p9, p10, ?_⟩
    rw [ne (us_s (r := 1) (by omega) (by omega)) (by omega), ne (us_s (r := 5) (by omega) (by omega)) (by omega)]
    refine ⟨s1, s2, s3, s4, s5, s6, ?_, s8, s9⟩
    rw [sI_pI, if_pos rfl, if_pos rfl]; rfl
  · have := r3 u hu
    unfold TxR at this ⊢
    rw [ne (us_t (σ := σ1) (N := N) hu).1 (by omega)]
    exact this
  · have := r4 u hu j hj
    unfold KyR at this ⊢
    rw [ne (us_t (σ := σ1) (N := N) hu).1 (by omega), ne (us_t (σ := σ1) (N := N) hu).2.2.1 (by omega), ne (us_t (σ := σ1) (N := N) hu).2.2.2 (by omega)]
    exact this
  · have := r5 u hu i z hz h24 hi
    unfold OpR at this ⊢
    rw [ne (us_z hu hz h24 hi) (by omega), hc]
    exact this
  · rw [ne (us_r (by omega)) (by omega)]
    exact r6 c (by omega) j hj
  · have := r8 i hi
    unfold CnR at this ⊢
    rw [ne (us_c hi) (by omega)]
    exact this
  · rw [ne (us_s (r := 10) (by omega) (by omega)) (by omega)]
    exact r9 y i hy h60 hi
/-! a transaction ends in an abort -/
def eW (σ : Sg) (t : Nat) (r : Int32) : Sg := sF (sA (sA σ 2 t 2) 4 t r) 13 (if σ.1 13 = nI t then -1 else σ.1 13)
theorem eW_eqv {a b : Sg} (h : eqv a b) (t : Nat) (r : Int32) : eqv (eW a t r) (eW b t r) := by
  unfold eW
  rw [h.1.2.1]
  exact eqv_sF (eqv_sA (eqv_sA h 2 t 2) 4 t r) 13 _
theorem rf_endWith {t : Nat} (ht : t < 80) {r : Int32} {P : Sg → Prop} (h : P (eW σ t r)) : v_X6_endWith σ (nI t) r P := by
  unfold v_X6_endWith bv_X6_endWith_31
  rw [ix_nI (by omega)]
  refine ⟨vp_in_nI (by omega) (by omega), fun σ2 e2 => ⟨vp_in_nI (by omega) (by omega), fun σ4 e4 => ?_⟩⟩
  have e13 : σ4.1 13 = σ.1 13 := by rw [e4, e2]; rfl
  rw [e13]
  unfold eW at h
  refine ⟨fun q σ1 e1 => ?_, fun q σ1 e1 => ?_⟩
  · rw [if_neg q] at h
    rw [e1, e4, e2]; exact h
  · rw [if_pos q] at h
    rw [e1, e4, e2]; exact h
theorem sF_same (σ : Sg) (k : Nat) : sF σ k (σ.1 k) = σ := by
  unfold sF
  refine Prod.ext (funext fun j => ?_) rfl
  by_cases q : j = k
  · simp [q]
  · simp [q]
theorem cl_becomeAborted (h : MR S l1 l2 l3 l4 loc ow σ σ1 M C N) {t : Nat} (ht : t < M) {r : Int32} {post : MS → Prop} (hp : ∀ S', MR S' l1 l2 l3 l4 loc ow σ (sA (sA σ1 2 t 2) 4 t r) M C N → post S') : w_X4_becomeAborted S (loc (200 + t)) r post := by
  refine ⟨(h.tx ht).1, fun S2 e2 S4 e4 => ?_⟩
  rw [e4, e2]
  exact hp _ (mr_txI (mr_txI h ht (Or.inl ⟨rfl, rfl⟩)) ht (Or.inr (Or.inl ⟨rfl, rfl⟩)))
theorem cl_releaseTicket (h : MR S l1 l2 l3 l4 loc ow σ σ1 M C N) {t : Nat} (ht : t < M) {post : MS → Prop} (hp : ∀ S', MR S' l1 l2 l3 l4 loc ow σ (sF σ1 13 (if σ1.1 13 = nI t then -1 else σ1.1 13)) M C N → post S') : w_X5_releaseTicket S l1 (loc (200 + t)) post := by
  unfold w_X5_releaseTicket b_X5_releaseTicket_16
  rw [h.scal.2.2.2.2.2.1, (h.tx ht).2.2.2.2.2.2.2.2.2.2.2.1]
  refine ⟨h.k1, (h.tx ht).1, fun q => ?_, fun q S3 e3 => ?_⟩
  · rw [if_neg q, sF_same] at hp
    exact hp S h
  · rw [if_pos q] at hp
    rw [e3]
    exact hp _ (mr_x h rfl rfl rfl rfl rfl rfl rfl rfl rfl rfl)
theorem cl_endInAbort (h : MR S l1 l2 l3 l4 loc ow σ σ1 M C N) {t : Nat} (ht : t < M) {r : Int32} {post : MS → Prop} (hp : ∀ S', MR S' l1 l2 l3 l4 loc ow σ (eW σ1 t r) M C N → post S') : w_X5_endInAbort S l1 (loc (200 + t)) r post := by
  refine ⟨(h.tx ht).1, cl_becomeAborted h ht (fun S' h' => ⟨h'.k1, cl_releaseTicket h' ht (fun S3 h3 => hp S3 h3)⟩)⟩
/-- the ranges after it -/
theorem wf_eW (hw : WF σ1 M C N) {t : Nat} (ht : t < M) (hno : ∀ c, 1 ≤ c → c ≤ C → cm σ1 c ≠ t) (r : Int32) : WF (eW σ1 t r) M C N := by
  have hM := hw.2.1
  have com := fun c h1 hc => hw.com (c := c) h1 hc
  obtain ⟨w1, w2, w3, w4, w5, w6, w7, w8, w9, w10, w11, w12, w13, w14, w15, w16, w17⟩ := hw
  have rne : ∀ j, j ≠ 2 → j ≠ 4 → (eW σ1 t r).2 j = σ1.2 j := fun j h2 h4 => by
    show (sA (sA σ1 2 t 2) 4 t r).2 j = _
    rw [sA_ne _ h4, sA_ne _ h2]
  have s2 : ∀ u, (eW σ1 t r).2 2 u = if u = t then 2 else σ1.2 2 u := fun u => by
    show (sA (sA σ1 2 t 2) 4 t r).2 2 u = _
    rw [sA_ne _ (by decide), sA_at]
  have s4 : ∀ u, (eW σ1 t r).2 4 u = if u = t then r else σ1.2 4 u := fun u => by
    show (sA (sA σ1 2 t 2) 4 t r).2 4 u = _
    rw [sA_at]
    rfl
  have hcP := cP_8 (σ' := eW σ1 t r) (rne 8 (by decide) (by decide))
  refine ⟨w1, w2, w3, w4, w5, w6, fun u hu => ?_, ?_, ?_, fun c h1 hc => ?_, ?_, w12, w13, w14, ?_, ?_, fun u h1 h2 => ?_⟩
  · obtain ⟨q1, q2, q3⟩ := w7 u hu
    rw [rne 7 (by decide) (by decide), rne 12 (by decide) (by decide), rne 3 (by decide) (by decide)]
    refine ⟨?_, ?_, q3⟩
    · rw [s2]
      by_cases e : u = t
      · rw [if_pos e]; exact ⟨2, by omega, rfl⟩
      · rw [if_neg e]; exact q1
    · simp only [hcP]; exact q2
  · rw [rne 9 (by decide) (by decide), rne 10 (by decide) (by decide)]; exact w8
  · rw [rne 15 (by decide) (by decide)]; exact w9
  · obtain ⟨e1, e2, e3, e4, e5⟩ := com c h1 hc
    refine ⟨cm σ1 c, e1, ?_, ?_, ?_, ?_⟩
    · rw [rne 16 (by decide) (by decide)]; exact e2
    · rw [s2, if_neg (hno c h1 hc)]; exact e3
    · rw [rne 5 (by decide) (by decide)]; exact e4
    · rw [rne 10 (by decide) (by decide), rne 15 (by decide) (by decide)]; exact e5
  · show (if σ1.1 13 = nI t then (-1 : Int32) else σ1.1 13) = -1 ∨ ∃ u : Nat, u < M ∧ (if σ1.1 13 = nI t then (-1 : Int32) else σ1.1 13) = nI u ∧ (eW σ1 t r).2 2 u = 0
    by_cases e : σ1.1 13 = nI t
    · rw [if_pos e]; exact Or.inl rfl
    · rw [if_neg e]
      rcases w11 with q | ⟨u, hu, q1, q2⟩
      · exact Or.inl q
      · refine Or.inr ⟨u, hu, q1, ?_⟩
        rw [s2, if_neg (fun x => e (by rw [q1, x]))]; exact q2
  · rw [rne 20 (by decide) (by decide)]; exact w15
  · rw [rne 24 (by decide) (by decide)]; exact w16
  · rw [rne 5 (by decide) (by decide), rne 6 (by decide) (by decide), s4, if_neg (by omega)]; exact w17 u h1 h2
end MRS
theorem sp_abort : Sp_abort := by
  intro S l1 l2 l3 l4 loc ow σ M C N x0 post h hp
  have h : Mid S l1 l2 l3 l4 loc ow σ σ M C N := h
  have hM := h.M80
  have tI : ∀ {t u : Nat}, t < M → u < M → nI t = nI u → t = u := fun ht hu e => (nI_eq (by omega) (by omega)).mp e
  unfold w_L_abort w_X5_abort
  refine ⟨h.k1, h.k1, cl_findA h (fun t ht e hst => ⟨h.k1, cl_endInAbort h.mr ht (fun S' h' => hp 0 S' (eW σ t 5) ?_ ⟨loc, ow, M, C, N, h'.mid (wf_eW h.wf ht (fun c h1 hc q => ?_) 5)⟩)⟩) (fun hx => Or.inl ⟨rfl, hp 1 S σ ?_ ⟨loc, ow, M, C, N, h⟩⟩) (fun t ht e hst => Or.inr ⟨rfl, hp 2 S σ ?_ ⟨loc, ow, M, C, N, h⟩⟩)⟩
  · unfold v_X6_abort bv_X6_abort_22
    refine rf_activeP h.wf (fun u hu eu _ σ2 e2 => ?_) (fun u hu eu r => ?_) (fun q => absurd e (neg_nI (by omega) q ht))
    · rw [e2, e]
      exact ⟨fun q => absurd rfl q, fun _ => rf_endWith (by omega) ⟨eW_eqv (eqv.th σ 0) t 5, rfl⟩⟩
    · have := tI ht hu (e ▸ eu)
      subst this
      exact absurd hst r
  · have := (h.wf.com h1 hc).2.2.1
    rw [q, hst] at this
    exact absurd this (by decide)
  · unfold v_X6_abort bv_X6_abort_22
    refine rf_activeP h.wf (fun u hu eu _ => absurd eu (neg_nI (by omega) hx hu)) (fun u hu eu _ => absurd eu (neg_nI (by omega) hx hu)) (fun q σ2 e2 => ?_)
    rw [e2]
    exact ⟨fun _ => ⟨eqv.th σ 1, rfl⟩, fun q => absurd q ne10⟩
  · unfold v_X6_abort bv_X6_abort_22
    refine rf_activeP h.wf (fun u hu eu r => ?_) (fun u hu eu _ σ2 e2 => ?_) (fun q => absurd e (neg_nI (by omega) q ht))
    · have := tI ht hu (e ▸ eu)
      subst this
      exact absurd r hst
    · rw [e2]
      exact ⟨fun _ => ⟨eqv.th σ 2, rfl⟩, fun q => absurd q ne20⟩
