/-! who touches whom -/
theorem pb1 {α : Type} {p : Prop} {post : Int32 → α → Prop} {S : α} (hp : post (bI p) S) (h : p) : post 1 S := bI_1 h ▸ hp
theorem pb0 {α : Type} {p : Prop} {post : Int32 → α → Prop} {S : α} (hp : post (bI p) S) (h : ¬ p) : post 0 S := bI_0 h ▸ hp
theorem nI_nl {a b : Nat} (h : a ≤ b) (hb : b < 2 ^ 31) : ¬ nI b < nI a := fun q => (fa_of_lt q).2.1 (nI_le h hb)
theorem cP_ct (σ : Sg) (t : Nat) : ∀ i, cP σ t i = fb_ct (isPr σ t) i
  | 0 => rfl
  | i + 1 => by rw [cP, fb_ct_succ, cP_ct σ t i]
theorem cP_mono {σ : Sg} {t i j : Nat} (h : i ≤ j) : cP σ t i ≤ cP σ t j := by
  rw [cP_ct, cP_ct]; exact fb_ct_mono _ h
theorem cP_le (σ : Sg) (t i : Nat) : cP σ t i ≤ i := by
  rw [cP_ct]; exact fb_ct_le _ _
/-- by predicates, by operations -/
theorem cP_ex {σ : Sg} {t z : Nat} {Q : Nat → Prop} : exq Q (cP σ t z) ↔ exq (fun i => isPr σ t i = true ∧ Q (cP σ t i)) z := by
  constructor
  · rintro ⟨j, hj, q⟩
    rw [cP_ct] at hj
    obtain ⟨i, hi, hp, e⟩ := fb_ct_kth hj
    exact ⟨i, hi, hp, by rw [cP_ct, e]; exact q⟩
  · rintro ⟨i, hi, hp, q⟩
    refine ⟨cP σ t i, ?_, q⟩
    have : cP σ t (i + 1) = cP σ t i + 1 := by rw [cP, if_pos hp]
    have h2 := cP_mono (σ := σ) (t := t) (show i + 1 ≤ z by omega)
    omega
/-- predicate j of transaction t is touched at key k, from b to a -/
def Tc (σ : Sg) (t j k : Nat) (b a : Int32) : Prop := σ.2 11 (4 * (24 * t + j)) ≤ nI k ∧ nI k ≤ σ.2 11 (4 * (24 * t + j) + 1) ∧ (σ.2 11 (4 * (24 * t + j) + 2) ≤ b ∨ σ.2 11 (4 * (24 * t + j) + 2) ≤ a)
/-- operation i of t is touched by the writer w over the store bf -/
def TB (σ : Sg) (t i w : Nat) (bf : Nat → Int32) : Prop := isPr σ t i = true ∧ exq (fun k => Wk σ w k ∧ Tc σ t (cP σ t i) k (bf k) (σ.2 10 (32 * w + k))) 32
def Hit (σ : Sg) (t w : Nat) (bf : Nat → Int32) : Prop := exq (fun k => Rk σ t k ∧ Wk σ w k) 32 ∨ exq (fun i => TB σ t i w bf) (ix (σ.2 7 t))
section TCH
variable {S : MS} {l1 l2 l3 l4 : Nat} {loc ow : Nat → Nat} {σ σ1 : Sg} {M C N : Nat}
theorem cl_hasRec (h : Mid S l1 l2 l3 l4 loc ow σ σ1 M C N) {t k : Nat} (ht : t < M) (hk : k < 32) {post : Int32 → MS → Prop} (hp : post (bI (Rk σ1 t k)) S) : w_X4_hasRecorded S (loc (200 + t)) (nI k) post := by
  have ky : hb (sI S (loc (200 + t)) 6) k ↔ Rk σ1 t k := (h.ky ht hk).1
  unfold w_X4_hasRecorded b_X4_hasRecorded_16
  refine ⟨(h.tx ht).1, fun q => ⟨zb0, ?_⟩, fun q => ⟨zb1, ?_⟩⟩
  · rw [bI_0 (fun r => ky.mpr r q)] at hp; exact hp
  · rw [bI_1 (ky.mp q)] at hp; exact hp
theorem cl_hasWr (h : Mid S l1 l2 l3 l4 loc ow σ σ1 M C N) {t k : Nat} (ht : t < M) (hk : k < 32) {post : Int32 → MS → Prop} (hp : post (bI (Wk σ1 t k)) S) : w_X4_hasWritten S (loc (200 + t)) (nI k) post := by
  have ky : hb (sI S (loc (200 + t)) 7) k ↔ Wk σ1 t k := (h.ky ht hk).2.2.1
  unfold w_X4_hasWritten b_X4_hasWritten_16
  refine ⟨(h.tx ht).1, fun q => ⟨zb0, ?_⟩, fun q => ⟨zb1, ?_⟩⟩
  · rw [bI_0 (fun r => ky.mpr r q)] at hp; exact hp
  · rw [bI_1 (ky.mp q)] at hp; exact hp
theorem cl_admits {a : Nat} {v : Int32} (hk : kT S a = 3) (hn : -999 ≤ sI S a 3) {post : Int32 → MS → Prop} (hp : post (bI (sI S a 3 ≤ v)) S) : w_X2_admits S a v post := by
  unfold w_X2_admits b_X2_admits_19 b_X2_admits_20
  refine ⟨fun q => ⟨zb0, ?_⟩, fun q => ⟨hk, fun q2 => ⟨zb0, ?_⟩, fun q2 => ⟨zb1, ?_⟩⟩⟩
  · rw [bI_0 (fun r => ?_)] at hp
    · exact hp
    · rw [q, fa_le] at r
      rw [fa_le] at hn
      have e1 : (-999 : Int32).toInt = -999 := by decide
      have e2 : (-1000 : Int32).toInt = -1000 := by decide
      omega
  · rw [bI_0 (fa_of_lt q2).2.1] at hp; exact hp
  · rw [bI_1 (fa_of_nlt q2)] at hp; exact hp
theorem cl_tb_loop (h : Mid S l1 l2 l3 l4 loc ow σ σ1 M C N) {t i z w q : Nat} (ht : t < M) (hz : σ1.2 7 t = nI z) (h24 : z ≤ 24) (hi : i < z) (hw : w < M) (hp : isPr σ1 t i = true) {bf : Nat → Int32} (q1 : kT S q = 9) (q2 : kL S q = 32) (q3 : ∀ k, k < 32 → sI S q k = bf k) {lo hi' : Nat} (hlo : σ1.2 8 (5 * (24 * t + i) + 1) = nI lo) (hhi : σ1.2 8 (5 * (24 * t + i) + 2) = nI hi') (h32 : hi' < 32) {post : Int32 → MS → Prop} (hpo : post (bI (TB σ1 t i w bf)) S) : ∀ n k, hi' + 1 ≤ k + n → k ≤ 32 → lo ≤ k → (∀ j, j < k → ¬ (Wk σ1 w j ∧ Tc σ1 t (cP σ1 t i) j (bf j) (σ1.2 10 (32 * w + j)))) → b_X2_isTouchedBy_14 post (n + 1) S (loc (1000 + (24 * t + i))) (loc (200 + w)) q (nI k) := by
  obtain ⟨o1, o2, o3, o4, o5, o6, o7, o8, o9, o10, o11, o12, o13, o14⟩ := h.op ht hz h24 hi
  have hpr : σ1.2 8 (5 * (24 * t + i)) = 1 ∨ σ1.2 8 (5 * (24 * t + i)) = 2 := by
    unfold isPr at hp
    simpa using hp
  obtain ⟨p1, p2, p3, p4, p5, p6, p7, p8⟩ := o11 hpr
  obtain ⟨b1, b2, b3, b4, b5, b6, b7, b8, b9, b10, b11, b12, b13, b14, b15, b16, b17, b18⟩ := h.tx hw
  intro n
  induction n with
  | zero =>
    intro k hk _ hlk hno
    rw [b_X2_isTouchedBy_14]
    refine ⟨o1, ?_⟩
    rw [p1, hhi]
    refine ⟨fun _ => ?_, fun q => absurd (nI_lt (by omega) (by omega)) q⟩
    rw [bI_0 (fun r => ?_)] at hpo
    · exact hpo
    · obtain ⟨-, j, hj, r1, r2⟩ := r
      by_cases hjk : j < k
      · exact hno j hjk ⟨r1, r2⟩
      · have r3 := r2.2.1
        rw [p4, hhi] at r3
        exact nI_ge (show hi' < j by omega) (by omega) r3
  | succ n ih =>
    intro k hk hk2 hlk hno
    rw [b_X2_isTouchedBy_14]
    simp only [b_X2_isTouchedBy_55, b_X2_isTouchedBy_53]
    refine ⟨o1, ?_⟩
    rw [p1, hhi]
    refine ⟨fun hlt => ?_, fun hlt => ⟨b1, ?_⟩⟩
    · have hk3 : hi' < k := by
        refine Classical.byContradiction (fun q => ?_)
        exact nI_nl (show k ≤ hi' by omega) (by omega) hlt
      rw [bI_0 (fun r => ?_)] at hpo
      · exact hpo
      · obtain ⟨-, j, hj, r1, r2⟩ := r
        by_cases hjk : j < k
        · exact hno j hjk ⟨r1, r2⟩
        · have r3 := r2.2.1
          rw [p4, hhi] at r3
          exact nI_ge (show hi' < j by omega) (by omega) r3
    · have hk3 : k ≤ hi' := by
        refine Classical.byContradiction (fun q => hlt (nI_lt (by omega) ?_))
        omega
      have go : ¬ (Wk σ1 w k ∧ Tc σ1 t (cP σ1 t i) k (bf k) (σ1.2 10 (32 * w + k))) → ∀ v : Int32, v = nI k + 1 → b_X2_isTouchedBy_14 post (n + 1) S (loc (1000 + (24 * t + i))) (loc (200 + w)) q v := fun hn v hv => by
        rw [hv, nI_1]
        refine ih (k + 1) (by omega) (by omega) (by omega) (fun j hj => ?_)
        by_cases e : j = k
        · rw [e]; exact hn
        · exact hno j (by omega)
      have yes : Wk σ1 w k ∧ Tc σ1 t (cP σ1 t i) k (bf k) (σ1.2 10 (32 * w + k)) → post 1 S := fun hy => by
        exact pb1 hpo ⟨hp, k, by omega, hy⟩
      have rg : σ1.2 11 (4 * (24 * t + cP σ1 t i)) ≤ nI k ∧ nI k ≤ σ1.2 11 (4 * (24 * t + cP σ1 t i) + 1) := by
        rw [p3, p4, hlo, hhi]
        exact ⟨nI_le hlk (by omega), nI_le hk3 (by omega)⟩
      refine cl_hasWr h hw (show k < 32 by omega) ⟨fun g => go (fun r => bI_z.mp g r.1), fun g => ⟨q1, ?_⟩⟩
      rw [q2, ix_nI (by omega), q3 k (by omega)]
      refine ⟨vp_in_nI (by omega) (by omega), o1, cl_admits o1 p8 ⟨fun g2 => yes ⟨bI_nz.mp g, rg.1, rg.2, Or.inl (by rw [p5]; exact bI_nz.mp g2)⟩, fun g2 => ?_⟩⟩
      rw [b5, b11, (h.ky hw (show k < 32 by omega)).2.2.2 (bI_nz.mp g)]
      refine ⟨b1, b10, vp_in_nI (by omega) (by omega), o1, cl_admits o1 p8 ⟨fun g3 => go (fun r => ?_), fun g3 => yes ⟨bI_nz.mp g, rg.1, rg.2, Or.inr (by rw [p5]; exact bI_nz.mp g3)⟩⟩⟩
      rcases r.2.2.2 with r | r
      · rw [p5] at r; exact bI_z.mp g2 r
      · rw [p5] at r; exact bI_z.mp g3 r
theorem cl_isTouchedBy (h : Mid S l1 l2 l3 l4 loc ow σ σ1 M C N) {t i z w q : Nat} (ht : t < M) (hz : σ1.2 7 t = nI z) (h24 : z ≤ 24) (hi : i < z) (hw : w < M) {bf : Nat → Int32} (q1 : kT S q = 9) (q2 : kL S q = 32) (q3 : ∀ k, k < 32 → sI S q k = bf k) {post : Int32 → MS → Prop} (hpo : post (bI (TB σ1 t i w bf)) S) : w_X2_isTouchedBy S (loc (1000 + (24 * t + i))) (loc (200 + w)) q post := by
  have o := h.op ht hz h24 hi
  unfold w_X2_isTouchedBy
  refine ⟨o.1, cl_isPred o ⟨fun g => ⟨o.1, fun v5 hv5 => ?_⟩, fun g => ?_⟩⟩
  · have hp := bI_nz.mp g
    have hpr : σ1.2 8 (5 * (24 * t + i)) = 1 ∨ σ1.2 8 (5 * (24 * t + i)) = 2 := by
      have hp2 := hp
      unfold isPr at hp2
      simpa using hp2
    obtain ⟨o1, o2, o3, o4, o5, ⟨lo, hlo, elo⟩, o7, o8, o9, o10, o11, o12, o13, o14⟩ := o
    obtain ⟨p1, ⟨hi', hhi, ehi⟩, p3, p4, p5, p6, p7, p8⟩ := o11 hpr
    rw [hv5, o4, elo]
    refine ⟨33, cl_tb_loop h ht hz h24 hi hw hp q1 q2 q3 elo ehi hhi hpo 32 lo (by omega) (by omega) (Nat.le_refl _) (fun j hj r => ?_)⟩
    have r1 := r.2.1
    rw [p3, elo] at r1
    exact nI_ge hj (by omega) r1
  · rw [bI_0 (fun r => bI_z.mp g r.1)] at hpo
    exact hpo
theorem cl_hit_loop (h : Mid S l1 l2 l3 l4 loc ow σ σ1 M C N) {t z w q : Nat} (ht : t < M) (hz : σ1.2 7 t = nI z) (h24 : z ≤ 24) (hw : w < M) {bf : Nat → Int32} (q1 : kT S q = 9) (q2 : kL S q = 32) (q3 : ∀ k, k < 32 → sI S q k = bf k) (hk0 : ¬ exq (fun k => Rk σ1 t k ∧ Wk σ1 w k) 32) {post : Int32 → MS → Prop} (hpo : post (bI (Hit σ1 t w bf)) S) : ∀ n i, i + n = z → ¬ exq (fun i => TB σ1 t i w bf) i → b_X4_isHitBy_16 post (n + 1) S (loc (200 + t)) (loc (200 + w)) q (nI i) := by
  obtain ⟨b1, b2, b3, b4, b5, b6, b7, b8, b9, b10, b11, b12, b13, b14, b15, b16, b17, b18⟩ := h.tx ht
  have ez : ix (σ1.2 7 t) = z := by rw [hz, ix_nI (by omega)]
  intro n
  induction n with
  | zero =>
    intro i hi hno
    have e : i = z := by omega
    subst e
    rw [b_X4_isHitBy_16]
    refine ⟨b1, ?_⟩
    rw [b14, hz]
    refine ⟨fun _ => ?_, fun q => absurd (Int32.le_refl _) q⟩
    rw [bI_0 (fun r => r.elim hk0 (fun r => hno (by rw [ez] at r; exact r)))] at hpo
    exact hpo
  | succ n ih =>
    intro i hi hno
    have o := h.op ht hz h24 (show i < z by omega)
    rw [b_X4_isHitBy_16]
    simp only [b_X4_isHitBy_49]
    refine ⟨b1, ?_⟩
    rw [b14, hz, b3, b7, ix_nI (by omega), o.2.1]
    refine ⟨fun q => absurd q (nI_ge (by omega) (by omega)), fun _ => ⟨b6, vp_in_nI (by omega) (by omega), fun r4 hr4 => ?_⟩⟩
    rw [hr4]
    refine ⟨fun q => absurd q (h.nz (us_z ht hz h24 (by omega))), fun _ => ⟨o.1, cl_isTouchedBy h ht hz h24 (by omega) hw q1 q2 q3 ⟨fun g v hv => ?_, fun g => ?_⟩⟩⟩
    · rw [hv, nI_1]
      exact ih (i + 1) (by omega) (fun r => (exq_s.mp r).elim hno (bI_z.mp g))
    · exact pb1 hpo (Or.inr ⟨i, by rw [ez]; omega, bI_nz.mp g⟩)
theorem cl_isHitBy (h : Mid S l1 l2 l3 l4 loc ow σ σ1 M C N) {t w q : Nat} (ht : t < M) (hw : w < M) {bf : Nat → Int32} (q1 : kT S q = 9) (q2 : kL S q = 32) (q3 : ∀ k, k < 32 → sI S q k = bf k) {post : Int32 → MS → Prop} (hpo : post (bI (Hit σ1 t w bf)) S) : w_X4_isHitBy S (loc (200 + t)) (loc (200 + w)) q post := by
  obtain ⟨z, h24, hz, -⟩ := h.sz ht
  have key : ¬ ((sI S (loc (200 + t)) 6) &&& (sI S (loc (200 + w)) 7)) = 0 ↔ exq (fun k => Rk σ1 t k ∧ Wk σ1 w k) 32 := by
    rw [and_nz]
    exact ⟨fun ⟨k, hk, x, y⟩ => ⟨k, hk, (h.ky ht hk).1.mp x, (h.ky hw hk).2.2.1.mp y⟩, fun ⟨k, hk, x, y⟩ => ⟨k, hk, (h.ky ht hk).1.mpr x, (h.ky hw hk).2.2.1.mpr y⟩⟩
  unfold w_X4_isHitBy
  refine ⟨(h.tx ht).1, (h.tx hw).1, fun g => ⟨z + 1, cl_hit_loop h ht hz h24 hw q1 q2 q3 (fun r => key.mpr r g) hpo z 0 (by omega) exq_0⟩, fun g => ?_⟩
  exact pb1 hpo (Or.inl (key.mp g))
def stf (σ : Sg) (c : Nat) : Nat → Int32 := fun k => σ.2 15 (32 * c + k)
theorem Mid.row (h : Mid S l1 l2 l3 l4 loc ow σ σ1 M C N) {c : Nat} (hc : c ≤ C) : kT S (loc (100 + c)) = 9 ∧ kL S (loc (100 + c)) = 32 ∧ (∀ k, k < 32 → sI S (loc (100 + c)) k = stf σ1 c k) ∧ sR S (loc 8) c = loc (100 + c) := by
  obtain ⟨a, b, d⟩ := h.rc.2.1 c (by have := h.C60; omega)
  exact ⟨a, b, fun k hk => h.rc.2.2.2.2.2.1 c hc k hk, d⟩
/-- a rival: another one, active, hit by t's writes over the newest store -/
def Riv (σ : Sg) (C t o : Nat) : Prop := o ≠ t ∧ σ.2 2 o = 0 ∧ Hit σ o t (stf σ C)
theorem cl_isRival (h : Mid S l1 l2 l3 l4 loc ow σ σ1 M C N) {t o : Nat} (ht : t < M) (ho : o < M) {post : Int32 → MS → Prop} (hpo : post (bI (Riv σ1 C t o)) S) : w_X5_isRival S l1 (loc (200 + t)) (loc (200 + o)) post := by
  obtain ⟨b1, b2, b3, b4, b5, b6, b7, b8, b9, b10, b11, b12, b13, b14, b15, b16, b17, b18⟩ := h.tx ho
  unfold w_X5_isRival b_X5_isRival_35 b_X5_isRival_36
  have no : ¬ Riv σ1 C t o → narrow .boolean (.int 0) = .int 0 ∧ post 0 S := fun q => ⟨zb0, by rw [bI_0 q] at hpo; exact hpo⟩
  refine ⟨fun g => absurd g (h.nz (us_t ho).1), fun _ => ⟨fun g => no (fun r => r.1 ?_), fun g => ⟨b1, ?_⟩⟩⟩
  · refine Classical.byContradiction (fun e => ?_)
    exact h.ne (us_t ho).1 (us_t ht).1 (by omega) g
  · rw [b15]
    obtain ⟨a1, a2, a3⟩ := h.his
    rw [a1]
    obtain ⟨c1, c2, c3, c4⟩ := h.row (Nat.le_refl C)
    refine ⟨fun g2 => no (fun r => g2 r.2.1), fun g2 => ⟨h.k1, a2, cl_newest h ⟨b1, cl_isHitBy h ho ht c1 c2 c3 ⟨fun g3 => no (fun r => bI_z.mp g3 r.2.2), fun g3 => ⟨zb1, ?_⟩⟩⟩⟩⟩
    exact pb1 hpo ⟨fun e => g (by rw [e]), g2, bI_nz.mp g3⟩
theorem cl_cr_loop (h : Mid S l1 l2 l3 l4 loc ow σ σ1 M C N) {t : Nat} (ht : t < M) {post : Int32 → MS → Prop} (hpo : post (isum (fun o => bI (Riv σ1 C t o)) M) S) : ∀ n i, i + n = M → b_X5_countRivals_4 post (n + 1) S l1 (loc (200 + t)) (isum (fun o => bI (Riv σ1 C t o)) i) (nI i) := by
  have hM := h.M80
  obtain ⟨t1, t2, t3⟩ := h.trs
  intro n
  induction n with
  | zero =>
    intro i hi
    have e : i = M := by omega
    subst e
    rw [b_X5_countRivals_4]
    refine ⟨h.k1, ?_⟩
    rw [h.many]
    exact ⟨fun _ => hpo, fun q => absurd (Int32.le_refl _) q⟩
  | succ n ih =>
    intro i hi
    have hi' : i < M := by omega
    rw [b_X5_countRivals_4]
    simp only [b_X5_countRivals_29]
    refine ⟨h.k1, ?_⟩
    rw [h.many, t1, t3, ix_nI (by omega), (h.tx hi').2.1]
    have hs := ih (i + 1) (by omega)
    rw [isum] at hs
    refine ⟨fun q => absurd q (nI_ge hi' (by omega)), fun _ => ⟨t2, vp_in_nI (by omega) (by omega), cl_isRival h ht hi' ⟨fun g v hv => ?_, fun g v hv w hw => ?_⟩⟩⟩
    · rw [hv, nI_1]
      rw [g, i32_add0] at hs
      exact hs
    · rw [hw, hv, nI_1]
      rw [bI_1 (bI_nz.mp g)] at hs
      exact hs
theorem cl_countRivals (h : Mid S l1 l2 l3 l4 loc ow σ σ1 M C N) {t : Nat} (ht : t < M) {post : Int32 → MS → Prop} (hpo : post (isum (fun o => bI (Riv σ1 C t o)) M) S) : w_X5_countRivals S l1 (loc (200 + t)) post := ⟨M + 1, cl_cr_loop h ht hpo M 0 (by omega)⟩
end TCH
