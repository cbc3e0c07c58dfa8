/-! two pure states that differ in what nobody shows: thrown, scratch rows -/
def eqv (σ' σ : Sg) : Prop := (σ'.1 1 = σ.1 1 ∧ σ'.1 13 = σ.1 13 ∧ σ'.1 14 = σ.1 14 ∧ σ'.1 17 = σ.1 17 ∧ σ'.1 18 = σ.1 18 ∧ σ'.1 19 = σ.1 19 ∧ σ'.1 21 = σ.1 21 ∧ σ'.1 25 = σ.1 25 ∧ σ'.1 28 = σ.1 28) ∧ (σ'.2 2 = σ.2 2 ∧ σ'.2 3 = σ.2 3 ∧ σ'.2 4 = σ.2 4 ∧ σ'.2 5 = σ.2 5 ∧ σ'.2 6 = σ.2 6 ∧ σ'.2 7 = σ.2 7 ∧ σ'.2 8 = σ.2 8 ∧ σ'.2 9 = σ.2 9 ∧ σ'.2 10 = σ.2 10 ∧ σ'.2 11 = σ.2 11 ∧ σ'.2 12 = σ.2 12 ∧ σ'.2 15 = σ.2 15 ∧ σ'.2 16 = σ.2 16 ∧ σ'.2 20 = σ.2 20 ∧ σ'.2 24 = σ.2 24)
theorem eqv.rf (σ : Sg) : eqv σ σ := ⟨⟨rfl, rfl, rfl, rfl, rfl, rfl, rfl, rfl, rfl⟩, rfl, rfl, rfl, rfl, rfl, rfl, rfl, rfl, rfl, rfl, rfl, rfl, rfl, rfl, rfl⟩
theorem eqv.th (σ : Sg) (v : Int32) : eqv (sF σ 0 v) σ := ⟨⟨rfl, rfl, rfl, rfl, rfl, rfl, rfl, rfl, rfl⟩, rfl, rfl, rfl, rfl, rfl, rfl, rfl, rfl, rfl, rfl, rfl, rfl, rfl, rfl, rfl⟩
theorem eqv.tr {a b c : Sg} (h1 : eqv a b) (h2 : eqv b c) : eqv a c := by
  obtain ⟨⟨a1, a2, a3, a4, a5, a6, a7, a8, a9⟩, b1, b2, b3, b4, b5, b6, b7, b8, b9, b10, b11, b12, b13, b14, b15⟩ := h1
  obtain ⟨⟨c1, c2, c3, c4, c5, c6, c7, c8, c9⟩, d1, d2, d3, d4, d5, d6, d7, d8, d9, d10, d11, d12, d13, d14, d15⟩ := h2
  exact ⟨⟨a1.trans c1, a2.trans c2, a3.trans c3, a4.trans c4, a5.trans c5, a6.trans c6, a7.trans c7, a8.trans c8, a9.trans c9⟩, b1.trans d1, b2.trans d2, b3.trans d3, b4.trans d4, b5.trans d5, b6.trans d6, b7.trans d7, b8.trans d8, b9.trans d9, b10.trans d10, b11.trans d11, b12.trans d12, b13.trans d13, b14.trans d14, b15.trans d15⟩
theorem cP_eqv {σ' σ : Sg} (h : eqv σ' σ) (t : Nat) : ∀ i, cP σ' t i = cP σ t i
  | 0 => rfl
  | i + 1 => by rw [cP, cP, cP_eqv h t i]; unfold isPr; rw [h.2.2.2.2.2.2.2.1]
theorem rc_eqv {S : MS} {loc : Nat → Nat} {σ' σ : Sg} {M C N : Nat} (h : eqv σ' σ) (hr : RC S loc σ M C N) : RC S loc σ' M C N := by
  have hc := cP_eqv h
  obtain ⟨⟨a1, a2, a3, a4, a5, a6, a7, a8, a9⟩, b1, b2, b3, b4, b5, b6, b7, b8, b9, b10, b11, b12, b13, b14, b15⟩ := h
  simp only [RC, StR, TxR, KyR, OpR, CnR, a1, a2, a3, a4, a5, a6, a7, a8, a9, b1, b2, b3, b4, b5, b6, b7, b8, b9, b10, b11, b12, b13, b14, b15, hc] at hr ⊢
  exact hr
theorem wf_eqv {σ' σ : Sg} {M C N : Nat} (h : eqv σ' σ) (hr : WF σ M C N) : WF σ' M C N := by
  have hc := cP_eqv h
  obtain ⟨⟨a1, a2, a3, a4, a5, a6, a7, a8, a9⟩, b1, b2, b3, b4, b5, b6, b7, b8, b9, b10, b11, b12, b13, b14, b15⟩ := h
  simp only [WF, a1, a2, a3, a4, a5, a6, a7, a8, a9, b1, b2, b3, b4, b5, b6, b7, b8, b9, b10, b11, b12, b13, b14, b15, hc] at hr ⊢
  exact hr
theorem us_eqv {σ' σ : Sg} {M N r : Nat} (h : eqv σ' σ) (hr : Us σ' M N r) : Us σ M N r := by
  unfold Us at hr ⊢
  rw [h.2.2.2.2.2.2.1] at hr
  exact hr
/-- cells that are the same -/
def Sm (S S' : MS) (a : Nat) : Prop := S'.1 a = S.1 a ∧ sI S' a = sI S a ∧ sR S' a = sR S a
theorem Sm.rf (S : MS) (a : Nat) : Sm S S a := ⟨rfl, rfl, rfl⟩
theorem Sm.tr {S S1 S2 : MS} {a : Nat} (h1 : Sm S S1 a) (h2 : Sm S1 S2 a) : Sm S S2 a := ⟨h2.1.trans h1.1, h2.2.1.trans h1.2.1, h2.2.2.trans h1.2.2⟩
theorem Sm.T {S S' : MS} {a : Nat} (h : Sm S S' a) : kT S' a = kT S a := by unfold kT; rw [h.1]
theorem Sm.L {S S' : MS} {a : Nat} (h : Sm S S' a) : kL S' a = kL S a := by unfold kL; rw [h.1]
/-- the class's cells but the two scratch rows, whose kind alone counts -/
def SmC (S S' : MS) (loc : Nat → Nat) (σ : Sg) (M N : Nat) : Prop := (∀ r, Us σ M N r → r < 5000 → r ≠ 6 → r ≠ 7 → Sm S S' (loc r)) ∧ S'.1 (loc 6) = S.1 (loc 6) ∧ S'.1 (loc 7) = S.1 (loc 7)
theorem us_z {σ : Sg} {M N t i z : Nat} (ht : t < M) (hz : σ.2 7 t = nI z) (h24 : z ≤ 24) (hi : i < z) : Us σ M N (1000 + (24 * t + i)) := by
  unfold Us
  exact Or.inr (Or.inr (Or.inr (Or.inr (Or.inr (Or.inr (Or.inr (Or.inl ⟨t, i, z, ht, hz, h24, hi, rfl⟩)))))))
theorem us_t {σ : Sg} {M N t : Nat} (ht : t < M) : Us σ M N (200 + t) ∧ Us σ M N (300 + t) ∧ Us σ M N (400 + t) ∧ Us σ M N (500 + t) := by
  unfold Us
  refine ⟨?_, ?_, ?_, ?_⟩ <;> omega
theorem us_s {σ : Sg} {M N r : Nat} (h1 : 1 ≤ r) (h2 : r ≤ 11) : Us σ M N r := Or.inl ⟨h1, h2⟩
theorem us_r {σ : Sg} {M N c : Nat} (h : c ≤ 60) : Us σ M N (100 + c) := by
  unfold Us
  omega
theorem us_c {σ : Sg} {M N i : Nat} (h : i < N) : Us σ M N (12 + i) := by
  unfold Us
  omega
set_option maxHeartbeats 2000000 in
theorem rc_same {S S' : MS} {loc : Nat → Nat} {σ : Sg} {M C N : Nat} (hM : M ≤ 80) (hC : C ≤ 60) (hN : N ≤ 3) (h : SmC S S' loc σ M N) (hr : RC S loc σ M C N) : RC S' loc σ M C N := by
  obtain ⟨hs, h6, h7⟩ := h
  obtain ⟨r1, r2, r3, r4, r5, r6, r7, r8, r9⟩ := hr
  have q1 := hs 1 (us_s (by omega) (by omega)) (by omega) (by omega) (by omega)
  have q2 := hs 2 (us_s (by omega) (by omega)) (by omega) (by omega) (by omega)
  have q3 := hs 3 (us_s (by omega) (by omega)) (by omega) (by omega) (by omega)
  have q4 := hs 4 (us_s (by omega) (by omega)) (by omega) (by omega) (by omega)
  have q5 := hs 5 (us_s (by omega) (by omega)) (by omega) (by omega) (by omega)
  have q8 := hs 8 (us_s (by omega) (by omega)) (by omega) (by omega) (by omega)
  have q9 := hs 9 (us_s (by omega) (by omega)) (by omega) (by omega) (by omega)
  have q10 := hs 10 (us_s (by omega) (by omega)) (by omega) (by omega) (by omega)
  have q11 := hs 11 (us_s (by omega) (by omega)) (by omega) (by omega) (by omega)
  refine ⟨?_, fun c hc => ?_, fun t ht => ?_, fun t ht k hk => ?_, fun t ht i z hz h24 hi => ?_, fun c hc k hk => ?_, fun c h1 hc t ht hq => ?_, fun i hi => ?_, fun y i hy h60 hi => ?_⟩
  · have k6 : kT S' (loc 6) = kT S (loc 6) := by unfold kT; rw [h6]
    have k6L : kL S' (loc 6) = kL S (loc 6) := by unfold kL; rw [h6]
    have k7 : kT S' (loc 7) = kT S (loc 7) := by unfold kT; rw [h7]
    have k7L : kL S' (loc 7) = kL S (loc 7) := by unfold kL; rw [h7]
    unfold StR at r1 ⊢
    rw [q1.T, q2.T, q3.T, q3.L, q4.T, q4.L, q5.T, k6, k6L, k7, k7L, q8.T, q8.L, q9.T, q9.L, q10.T, q10.L, q11.T, q11.L, q1.2.2, q2.2.2, q5.2.2, q1.2.1, q2.2.1, q5.2.1]
    exact r1
  · have q := hs (100 + c) (us_r hc) (by omega) (by omega) (by omega)
    have := r2 c hc
    unfold RwR at this ⊢
    rw [q.T, q.L, q8.2.2]
    exact this
  · obtain ⟨u1, u2, u3, u4⟩ := us_t (σ := σ) (N := N) ht
    have p1 := hs _ u1 (by omega) (by omega) (by omega)
    have p2 := hs _ u2 (by omega) (by omega) (by omega)
    have p3 := hs _ u3 (by omega) (by omega) (by omega)
    have p4 := hs _ u4 (by omega) (by omega) (by omega)
    have := r3 t ht
    unfold TxR at this ⊢
    rw [p1.T, q3.2.2, p1.2.2, p2.T, p2.L, p3.T, p3.L, p4.T, p4.L, p1.2.1]
    exact this
  · obtain ⟨u1, u2, u3, u4⟩ := us_t (σ := σ) (N := N) ht
    have p1 := hs _ u1 (by omega) (by omega) (by omega)
    have p3 := hs _ u3 (by omega) (by omega) (by omega)
    have p4 := hs _ u4 (by omega) (by omega) (by omega)
    have := r4 t ht k hk
    unfold KyR at this ⊢
    rw [p1.2.1, p3.2.1, p4.2.1]
    exact this
  · obtain ⟨u1, u2, u3, u4⟩ := us_t (σ := σ) (N := N) ht
    have p2 := hs _ u2 (by omega) (by omega) (by omega)
    have p := hs _ (us_z ht hz h24 hi) (by omega) (by omega) (by omega)
    have := r5 t ht i z hz h24 hi
    unfold OpR at this ⊢
    rw [p.T, p2.2.2, p.2.1]
    exact this
  · have q := hs (100 + c) (us_r (by omega)) (by omega) (by omega) (by omega)
    rw [q.2.1]
    exact r6 c hc k hk
  · rw [q9.2.2]
    exact r7 c h1 hc t ht hq
  · have q := hs (12 + i) (us_c hi) (by omega) (by omega) (by omega)
    have := r8 i hi
    unfold CnR at this ⊢
    rw [q4.2.2, q.T, q.2.1]
    exact this
  · rw [q10.2.1]
    exact r9 y i hy h60 hi
