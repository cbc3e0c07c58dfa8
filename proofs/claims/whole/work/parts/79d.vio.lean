/-! constraints over a view -/
def cnt0 (f : Nat → Int32) (lo hi : Nat) : Int32 := rs (fun k => if f k = -1000 then 0 else 1) lo (hi + 1 - lo)
theorem lt_999 {v : Int32} (h : -1000 ≤ v.toInt) : v < -999 ↔ v = -1000 := by
  have e1 : (-999 : Int32).toInt = -999 := by decide
  have e2 : (-1000 : Int32).toInt = -1000 := by decide
  rw [fa_lt, fa_eq, e1, e2]
  omega
theorem cnt0_eq {f : Nat → Int32} {lo hi : Nat} (h32 : hi < 32) (h : ∀ k, k < 32 → -1000 ≤ (f k).toInt) : cntR f (-999) lo hi = cnt0 f lo hi := rs_c (fun j hj => by
  have := lt_999 (h (lo + j) (by omega))
  by_cases q : f (lo + j) = -1000
  · rw [if_pos q, if_pos (this.mpr q)]
  · rw [if_neg q, if_neg (fun x => q (this.mp x))])
def VioC (kd bound : Int32) (f : Nat → Int32) (lo hi : Nat) : Prop := (kd = 2 ∧ ¬ cntR f (-999) lo hi ≤ bound) ∨ (kd = 1 ∧ ¬ totR f lo hi ≤ bound) ∨ (kd = 0 ∧ ¬ bound ≤ totR f lo hi)
def Vi (σ : Sg) (f : Nat → Int32) (i : Nat) : Prop := VioC (σ.2 20 (4 * i)) (σ.2 20 (4 * i + 3)) f (ix (σ.2 20 (4 * i + 1))) (ix (σ.2 20 (4 * i + 2)))
section VIO
variable {S S' : MS} {l1 l2 l3 l4 : Nat} {loc ow : Nat → Nat} {σ σ1 : Sg} {M C N : Nat}
theorem cl_isViolated {a b lo hi : Nat} {kd bound : Int32} {f : Nat → Int32} (k0 : kT S a = 1) (hkd : kd = 0 ∨ kd = 1 ∨ kd = 2) (f0 : sI S a 0 = kd) (f1 : sI S a 1 = nI lo) (f2 : sI S a 2 = nI hi) (f3 : sI S a 3 = bound) (hlo : lo < 32) (hhi : hi < 32) (k1 : kT S b = 9) (k2 : kL S b = 32) (k3 : ∀ k, k < 32 → sI S b k = f k) {post : Int32 → MS → Prop} (hp : post (bI (VioC kd bound f lo hi)) S) : w_X0_isViolatedBy S a b post := by
  unfold w_X0_isViolatedBy b_X0_isViolatedBy_86 b_X0_isViolatedBy_35
  rw [f0, f1, f2]
  refine ⟨k0, fun q => cl_totalIn k1 k2 k3 hlo hhi ?_, fun q => cl_countIn k1 k2 k3 (by decide) hlo hhi ?_⟩
  · rw [f0, f3]
    refine ⟨k0, fun q2 => ⟨fun g => ⟨zb0, pb0 hp ?_⟩, fun g => ⟨zb1, pb1 hp ?_⟩⟩, fun q2 => ⟨fun g => ⟨zb0, pb0 hp ?_⟩, fun g => ⟨zb1, pb1 hp (Or.inr (Or.inl ⟨q2, g⟩))⟩⟩⟩
    · rintro (r | r | r)
      · exact q r.1
      · exact q2 r.1
      · exact r.2 g
    · exact Or.inr (Or.inr ⟨hkd.elim id (fun x => x.elim (fun x => absurd x q2) (fun x => absurd x q)), g⟩)
    · rintro (r | r | r)
      · exact q r.1
      · exact r.2 g
      · rw [q2] at r; exact absurd r.1 (by decide)
  · rw [f3]
    refine ⟨k0, fun g => ⟨zb0, pb0 hp ?_⟩, fun g => ⟨zb1, pb1 hp (Or.inl ⟨q, g⟩)⟩⟩
    rintro (r | r | r)
    · exact r.2 g
    · rw [q] at r; exact absurd r.1 (by decide)
    · rw [q] at r; exact absurd r.1 (by decide)
theorem WF.cn (hw : WF σ1 M C N) {i : Nat} (hi : i < N) : (σ1.2 20 (4 * i) = 0 ∨ σ1.2 20 (4 * i) = 1 ∨ σ1.2 20 (4 * i) = 2) ∧ σ1.2 20 (4 * i + 1) = nI (ix (σ1.2 20 (4 * i + 1))) ∧ ix (σ1.2 20 (4 * i + 1)) < 32 ∧ σ1.2 20 (4 * i + 2) = nI (ix (σ1.2 20 (4 * i + 2))) ∧ ix (σ1.2 20 (4 * i + 2)) < 32 := by
  obtain ⟨a, lo, hi', h1, h2, h3, h4⟩ := hw.2.2.2.2.2.2.2.2.2.2.2.2.2.2.1 i hi
  rw [h3, h4, ix_nI (by omega), ix_nI (by omega)]
  exact ⟨a, rfl, by omega, rfl, h2⟩
theorem Mid.cns (h : Mid S l1 l2 l3 l4 loc ow σ σ1 M C N) : sR S l1 2 = loc 4 ∧ kT S (loc 4) = 11 ∧ kL S (loc 4) = 3 ∧ sI S l1 7 = nI N := by
  obtain ⟨a1, a2, a3, a4, a5, a6, a7, a8, a9, a10, a11, a12, a13, a14, a15, a16, a17, a18, a19, p1, p2, p3, p4, p5, p6, p7, p8, p9, p10, s1, s2, s3, s4, s5, s6, s7, s8, s9⟩ := h.st
  rw [← h.1]
  exact ⟨p3, a5, a6, s2.trans h.wf.2.2.2.2.1⟩
theorem cl_vc_loop (h : Mid S l1 l2 l3 l4 loc ow σ σ1 M C N) {b : Nat} {f : Nat → Int32} (k1 : kT S b = 9) (k2 : kL S b = 32) (k3 : ∀ k, k < 32 → sI S b k = f k) {post : Int32 → MS → Prop} (hp : post (bI (exq (Vi σ1 f) N)) S) : ∀ n i, i + n = N → ¬ exq (Vi σ1 f) i → b_X5_violatesConstraint_2 post (n + 1) S l1 b (nI i) := by
  obtain ⟨c1, c2, c3, c4⟩ := h.cns
  have hN := h.wf.2.2.2.2.2.1
  intro n
  induction n with
  | zero =>
    intro i hi hno
    have e : i = N := by omega
    subst e
    rw [b_X5_violatesConstraint_2]
    dsimp only
    rw [c4]
    exact ⟨h.k1, fun _ => pb0 hp hno, fun q => absurd (Int32.le_refl _) q⟩
  | succ n ih =>
    intro i hi hno
    have hi' : i < N := by omega
    obtain ⟨d1, d2, d3, d4, d5, d6⟩ := h.rc.2.2.2.2.2.2.2.1 i hi'
    obtain ⟨w1, w2, w3, w4, w5⟩ := h.wf.cn hi'
    rw [b_X5_violatesConstraint_2]
    dsimp only
    simp only [b_X5_violatesConstraint_31]
    rw [c4, c1, c3, ix_nI (by omega), d1]
    refine ⟨h.k1, fun q => absurd q (nI_ge hi' (by omega)), fun _ => ⟨c2, vp_in_nI (by omega) (by omega), fun r4 hr4 => ?_⟩⟩
    rw [hr4]
    refine ⟨fun q => absurd q (h.nz (us_c hi')), fun _ => ⟨d2, cl_isViolated d2 w1 d3 (d4.trans w2) (d5.trans w4) d6 w3 w5 k1 k2 k3 ⟨fun g v hv => ?_, fun g => pb1 hp ⟨i, hi', bI_nz.mp g⟩⟩⟩⟩
    rw [hv, nI_1]
    exact ih (i + 1) (by omega) (fun r => (exq_s.mp r).elim hno (bI_z.mp g))
theorem cl_violates (h : Mid S l1 l2 l3 l4 loc ow σ σ1 M C N) {b : Nat} {f : Nat → Int32} (k1 : kT S b = 9) (k2 : kL S b = 32) (k3 : ∀ k, k < 32 → sI S b k = f k) {post : Int32 → MS → Prop} (hp : post (bI (exq (Vi σ1 f) N)) S) : w_X5_violatesConstraint S l1 b post := ⟨N + 1, cl_vc_loop h k1 k2 k3 hp N 0 (by omega) exq_0⟩
end VIO
section VIR
variable {σ : Sg} {M C N : Nat} {f : Nat → Int32}
theorem rf_vi_loop {i lo hi : Nat} {t : Int32} (hi3 : i < 3) (hkd : σ.2 20 (4 * i) = 0 ∨ σ.2 20 (4 * i) = 1 ∨ σ.2 20 (4 * i) = 2) (e2 : σ.2 20 (4 * i + 2) = nI hi) (hlo : lo < 32) (h32 : hi < 32) (hf : ∀ k, k < 32 → -1000 ≤ (f k).toInt) (hv : ∀ k, k < 32 → ∀ Q : Int32 → Sg → Prop, Q (f k) σ → ((¬ t = -1 → v_X6_viewed σ t (nI k) Q) ∧ (t = -1 → v_X6_stored σ (σ.1 14) (nI k) Q))) {P : Int32 → Sg → Prop} (h : P (bI (VioC (σ.2 20 (4 * i)) (σ.2 20 (4 * i + 3)) f lo hi)) σ) : ∀ n j, j + n = hi + 1 - lo → bv_X6_isViolated_20 P (n + 1) σ (nI i) t (nI (4 * i)) (rs (fun k => if f k = -1000 then 0 else f k) lo j) (rs (fun k => if f k = -1000 then 0 else 1) lo j) (nI (lo + j)) := by
  have v : ∀ j, j < 4 → vp_in (nI (4 * i + j)) 12 := fun j hj => vp_in_nI (by omega) (by omega)
  intro n
  induction n with
  | zero =>
    intro j hj
    have e : j = hi + 1 - lo := by omega
    rw [e]
    rw [bv_X6_isViolated_20]
    dsimp only
    simp only [bv_X6_isViolated_174]
    rw [nI_2, nI_3, ix_nI (by omega), ix_nI (by omega), ix_nI (by omega), e2]
    have ec : rs (fun k => if f k = -1000 then 0 else 1) lo (hi + 1 - lo) = cntR f (-999) lo hi := (cnt0_eq h32 hf).symm
    have et : rs (fun k => if f k = -1000 then 0 else f k) lo (hi + 1 - lo) = totR f lo hi := rfl
    rw [ec, et]
    refine ⟨v 2 (by omega), fun _ => ⟨v 3 (by omega), fun v3 hv3 => ⟨v 0 (by omega), fun q => ⟨v 0 (by omega), fun q2 => ?_, fun q2 => ?_⟩, fun q => ?_⟩⟩, fun q => absurd (show nI hi < nI (lo + (hi + 1 - lo)) from nI_lt (by omega) (by omega)) q⟩
    · have q3 : σ.2 20 (4 * i) = 2 := hkd.elim (fun x => absurd x q) (fun x => x.elim (fun x => absurd x q2) id)
      rw [hv3]
      refine ⟨fun g => ⟨zb0, pb0 h ?_⟩, fun g => ⟨zb1, pb1 h (Or.inl ⟨q3, g⟩)⟩⟩
      rintro (r | r | r)
      · exact r.2 g
      · exact q2 r.1
      · exact q r.1
    · rw [hv3]
      refine ⟨fun g => ⟨zb0, pb0 h ?_⟩, fun g => ⟨zb1, pb1 h (Or.inr (Or.inl ⟨q2, g⟩))⟩⟩
      rintro (r | r | r)
      · rw [q2] at r; exact absurd r.1 (by decide)
      · exact r.2 g
      · exact q r.1
    · rw [hv3]
      refine ⟨fun g => ⟨zb0, pb0 h ?_⟩, fun g => ⟨zb1, pb1 h (Or.inr (Or.inr ⟨q, g⟩))⟩⟩
      rintro (r | r | r)
      · rw [q] at r; exact absurd r.1 (by decide)
      · rw [q] at r; exact absurd r.1 (by decide)
      · exact r.2 g
  | succ n ih =>
    intro j hj
    have hs := ih (j + 1) (by omega)
    rw [rs, rs] at hs
    rw [bv_X6_isViolated_20]
    dsimp only
    rw [nI_2, ix_nI (by omega), e2]
    refine ⟨v 2 (by omega), fun q => absurd q (nI_nl (by omega) (by omega)), fun _ => hv (lo + j) (by omega) _ ?_⟩
    unfold bv_X6_isViolated_58 bv_X6_isViolated_76 bv_X6_isViolated_94
    refine ⟨fun q w hw => ⟨fun _ w2 hw2 w3 hw3 => ?_, fun q2 => absurd q2 q⟩, fun q w hw => ⟨fun q2 => absurd q q2, fun _ w2 hw2 w3 hw3 => ?_⟩⟩
    · rw [hw, hw2, hw3, nI_1]
      rw [if_neg q, if_neg q] at hs
      exact hs
    · rw [hw, hw2, hw3, nI_1]
      rw [if_pos q, if_pos q] at hs
      exact hs
theorem rf_isViolated {i : Nat} {t : Int32} (hi3 : i < 3) (hkd : σ.2 20 (4 * i) = 0 ∨ σ.2 20 (4 * i) = 1 ∨ σ.2 20 (4 * i) = 2) (e1 : σ.2 20 (4 * i + 1) = nI (ix (σ.2 20 (4 * i + 1)))) (hlo : ix (σ.2 20 (4 * i + 1)) < 32) (e2 : σ.2 20 (4 * i + 2) = nI (ix (σ.2 20 (4 * i + 2)))) (h32 : ix (σ.2 20 (4 * i + 2)) < 32) (hf : ∀ k, k < 32 → -1000 ≤ (f k).toInt) (hv : ∀ k, k < 32 → ∀ Q : Int32 → Sg → Prop, Q (f k) σ → ((¬ t = -1 → v_X6_viewed σ t (nI k) Q) ∧ (t = -1 → v_X6_stored σ (σ.1 14) (nI k) Q))) {P : Int32 → Sg → Prop} (h : P (bI (Vi σ f i)) σ) : v_X6_isViolated σ (nI i) t P := by
  unfold v_X6_isViolated
  intro v1 hv1
  have e4 : (4 : Int32) * nI i = nI (4 * i) := by rw [show (4 : Int32) = nI 4 from rfl, pk_mul]
  rw [hv1, e4, nI_1, ix_nI (by omega)]
  refine ⟨vp_in_nI (by omega) (by omega), fun v3 hv3 => ⟨(ix (σ.2 20 (4 * i + 2)) + 1 - ix (σ.2 20 (4 * i + 1))) + 1, ?_⟩⟩
  rw [hv3, e1]
  rw [ix_nI (by omega)]
  have := rf_vi_loop hi3 hkd e2 hlo h32 hf hv h _ 0 (Nat.zero_add _)
  rw [Nat.add_zero] at this
  exact this
theorem rf_vs_loop (hw : WF σ M C N) {t : Int32} (hf : ∀ k, k < 32 → -1000 ≤ (f k).toInt) (hv : ∀ k, k < 32 → ∀ Q : Int32 → Sg → Prop, Q (f k) σ → ((¬ t = -1 → v_X6_viewed σ t (nI k) Q) ∧ (t = -1 → v_X6_stored σ (σ.1 14) (nI k) Q))) {P : Int32 → Sg → Prop} (h : P (bI (exq (Vi σ f) N)) σ) : ∀ n i, i + n = N → bv_X6_violates_4 P (n + 1) σ t (bI (exq (Vi σ f) i)) (nI i) := by
  have hN := hw.2.2.2.2.2.1
  intro n
  induction n with
  | zero =>
    intro i hi
    have e : i = N := by omega
    subst e
    rw [bv_X6_violates_4]
    dsimp only
    rw [hw.2.2.2.2.1]
    exact ⟨fun _ => ⟨bI_n _, h⟩, fun q => absurd (Int32.le_refl _) q⟩
  | succ n ih =>
    intro i hi
    have hi' : i < N := by omega
    obtain ⟨w1, w2, w3, w4, w5⟩ := hw.cn hi'
    have hs := ih (i + 1) (by omega)
    rw [bv_X6_violates_4]
    dsimp only
    simp only [bv_X6_violates_25, bv_X6_violates_30]
    rw [hw.2.2.2.2.1]
    refine ⟨fun q => absurd q (nI_ge hi' (by omega)), fun _ => ⟨fun g v hv' => ?_, fun g => rf_isViolated (by omega) w1 w2 w3 w4 w5 hf hv ⟨fun g2 v hv' => ?_, fun g2 v hv' => ?_⟩⟩⟩
    · rw [ex1 g] at hs
      rw [hv', nI_1]; exact hs
    · rw [ex3 g (bI_z.mp g2)] at hs
      rw [hv', nI_1]; exact hs
    · rw [ex2 (P := Vi σ f) (bI_nz.mp g2)] at hs
      rw [hv', nI_1]; exact hs
theorem rf_violates (hw : WF σ M C N) {t : Int32} (hf : ∀ k, k < 32 → -1000 ≤ (f k).toInt) (hv : ∀ k, k < 32 → ∀ Q : Int32 → Sg → Prop, Q (f k) σ → ((¬ t = -1 → v_X6_viewed σ t (nI k) Q) ∧ (t = -1 → v_X6_stored σ (σ.1 14) (nI k) Q))) {P : Int32 → Sg → Prop} (h : P (bI (exq (Vi σ f) N)) σ) : v_X6_violates σ t P := by
  refine ⟨N + 1, ?_⟩
  have := rf_vs_loop hw hf hv h N 0 (by omega)
  rw [bI_0 exq_0] at this
  exact this
theorem WF.vrg (hw : WF σ M C N) {t : Nat} (ht : t < M) : ∀ k, k < 32 → -1000 ≤ (vwd σ C t k).toInt ∧ (vwd σ C t k).toInt ≤ 999 := fun k hk => by
  unfold vwd
  by_cases q : σ.2 10 (32 * t + k) = -5000
  · rw [if_pos q]
    exact hw.2.2.2.2.2.2.2.2.1 C (Nat.le_refl C) k hk
  · rw [if_neg q]
    exact (hw.2.2.2.2.2.2.2.1 t ht k hk).2.elim (fun x => absurd x q) id
end VIR
