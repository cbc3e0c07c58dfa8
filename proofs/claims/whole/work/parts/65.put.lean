/-! writes to the class's own cells -/
section PUTS
variable {S : MS} {l1 l2 l3 l4 : Nat} {loc ow : Nat → Nat} {σ σ1 σ2 : Sg} {M C N M2 C2 N2 : Nat}
theorem Mid.ne (h : Mid S l1 l2 l3 l4 loc ow σ σ1 M C N) {r q : Nat} (hr : Us σ1 M N r) (hq : Us σ1 M N q) (hne : r ≠ q) : loc r ≠ loc q := ow_ne h.owr hr hq hne
theorem Mid.neM (h : Mid S l1 l2 l3 l4 loc ow σ σ1 M C N) {r : Nat} (hr : Us σ1 M N r) (hlt : r < 5000) : loc r ≠ l2 ∧ ∀ k, loc r ≠ sR S l2 k := by
  obtain ⟨m1, m2, m3, m4, m5, m6, m7, m8, m9, m10, m11, m12, m13, m14⟩ := id h
  refine ⟨by rw [← m2]; exact h.ne hr us_m.1 (by omega), fun k => ?_⟩
  by_cases hk : lenA k = 0
  · rw [(m14 k).2 hk]; exact h.nz hr
  · rw [(m14 k).1 hk]; exact h.ne hr (us_k hk) (by omega)
/-- the reference, where its cells are the same -/
theorem rm_same {S' : MS} (h : RM l2 (sR S l2) S σ) (h0 : ∀ k, Sm S S' (sR S l2 k)) (hm : Sm S S' l2) : RM l2 (sR S' l2) S' σ := by
  obtain ⟨r1, r2, r3, r4, r5, r6, r7⟩ := h
  rw [hm.2.2]
  exact ⟨by rw [hm.2.1]; exact r1, by rw [hm.2.2], fun k => by rw [(h0 k).2.1]; exact r3 k, by rw [hm.T]; exact r4, fun k hk => by rw [(h0 k).T, (h0 k).L]; exact r5 k hk, r6, r7⟩
/-- ints of one cell of the class changed -/
theorem mid_putI (h : Mid S l1 l2 l3 l4 loc ow σ σ1 M C N) {r k : Nat} {v : Int32} (hr : Us σ1 M N r) (hlt : r < 5000) (hw : WF σ2 M C2 N2) (hu : ∀ q, Us σ2 M N2 q → Us σ1 M N q) (hc : RC (pI S (loc r) k v) loc σ2 M C2 N2) : Mid (pI S (loc r) k v) l1 l2 l3 l4 loc ow σ σ2 M C2 N2 := by
  obtain ⟨e1, e2⟩ := h.neM hr hlt
  have hsm : ∀ a, a ≠ loc r → Sm S (pI S (loc r) k v) a := fun a ha => ⟨rfl, u2_ne _ _ _ ha, rfl⟩
  obtain ⟨m1, m2, m3, m4, m5, m6, m7, m8, m9, m10, m11, m12, m13, m14⟩ := h
  exact ⟨m1, m2, m3, m4, m5, m6, m7, m8, fun q hq => m9 q (hu q hq), m10, hw, hc, rm_same m13 (fun j => hsm _ (Ne.symm (e2 j))) (hsm _ (Ne.symm e1)), m14⟩
theorem sm_putI (h : Mid S l1 l2 l3 l4 loc ow σ σ1 M C N) {r k : Nat} {v : Int32} (hr : Us σ1 M N r) : ∀ q, Us σ1 M N q → q ≠ r → Sm S (pI S (loc r) k v) (loc q) := fun q hq hne => ⟨rfl, u2_ne _ _ _ (h.ne hq hr hne), rfl⟩
end PUTS
/-- the store's own fields changed, the rest is the same -/
theorem rc_st {S S' : MS} {loc : Nat → Nat} {σ σ' : Sg} {M C N : Nat} (hM : M ≤ 80) (hC : C ≤ 60) (hN : N ≤ 3) (hr : RC S loc σ M C N) (hs : ∀ r, Us σ M N r → r < 5000 → r ≠ 1 → r ≠ 6 → r ≠ 7 → Sm S S' (loc r)) (hst : StR S' loc σ') (h2 : σ'.2 = σ.2) (hty : σ'.1 25 = σ.1 25) : RC S' loc σ' M C N := by
  obtain ⟨r1, r2, r3, r4, r5, r6, r7, r8, r9⟩ := hr
  have hcP : ∀ t i, cP σ' t i = cP σ t i := fun t i => by
    induction i with
    | zero => rfl
    | succ i ih => rw [cP, cP, ih]; unfold isPr; rw [h2]
  have q3 := hs 3 (us_s (by omega) (by omega)) (by omega) (by omega) (by omega) (by omega)
  have q4 := hs 4 (us_s (by omega) (by omega)) (by omega) (by omega) (by omega) (by omega)
  have q8 := hs 8 (us_s (by omega) (by omega)) (by omega) (by omega) (by omega) (by omega)
  have q9 := hs 9 (us_s (by omega) (by omega)) (by omega) (by omega) (by omega) (by omega)
  have q10 := hs 10 (us_s (by omega) (by omega)) (by omega) (by omega) (by omega) (by omega)
  refine ⟨hst, fun c hc => ?_, fun t ht => ?_, fun t ht k hk => ?_, fun t ht i z hz h24 hi => ?_, fun c hc k hk => ?_, fun c h1 hc t ht hq => ?_, fun i hi => ?_, fun y i hy h60 hi => ?_⟩
  · have q := hs (100 + c) (us_r hc) (by omega) (by omega) (by omega) (by omega)
    have := r2 c hc
    unfold RwR at this ⊢
    rw [q.T, q.L, q8.2.2]
    exact this
  · obtain ⟨u1, u2, u3, u4⟩ := us_t (σ := σ) (N := N) ht
    have p1 := hs _ u1 (by omega) (by omega) (by omega) (by omega)
    have p2 := hs _ u2 (by omega) (by omega) (by omega) (by omega)
    have p3 := hs _ u3 (by omega) (by omega) (by omega) (by omega)
    have p4 := hs _ u4 (by omega) (by omega) (by omega) (by omega)
    have := r3 t ht
    unfold TxR at this ⊢
    rw [p1.T, q3.2.2, p1.2.2, p2.T, p2.L, p3.T, p3.L, p4.T, p4.L, p1.2.1, h2]
    exact this
  · obtain ⟨u1, u2, u3, u4⟩ := us_t (σ := σ) (N := N) ht
    have p1 := hs _ u1 (by omega) (by omega) (by omega) (by omega)
    have p3 := hs _ u3 (by omega) (by omega) (by omega) (by omega)
    have p4 := hs _ u4 (by omega) (by omega) (by omega) (by omega)
    have := r4 t ht k hk
    unfold KyR at this ⊢
    rw [p1.2.1, p3.2.1, p4.2.1, h2]
    exact this
  · rw [h2] at hz
    obtain ⟨u1, u2, u3, u4⟩ := us_t (σ := σ) (N := N) ht
    have p2 := hs _ u2 (by omega) (by omega) (by omega) (by omega)
    have p := hs _ (us_z ht hz h24 hi) (by omega) (by omega) (by omega) (by omega)
    have := r5 t ht i z hz h24 hi
    unfold OpR at this ⊢
    rw [p.T, p2.2.2, p.2.1, h2, hcP]
    exact this
  · have q := hs (100 + c) (us_r (by omega)) (by omega) (by omega) (by omega) (by omega)
    rw [q.2.1, h2]
    exact r6 c hc k hk
  · rw [h2] at hq
    rw [q9.2.2]
    exact r7 c h1 hc t ht hq
  · have q := hs (12 + i) (us_c hi) (by omega) (by omega) (by omega) (by omega)
    have := r8 i hi
    unfold CnR at this ⊢
    rw [q4.2.2, q.T, q.2.1, h2]
    exact this
  · rw [hty] at hy
    rw [q10.2.1, h2]
    exact r9 y i hy h60 hi
