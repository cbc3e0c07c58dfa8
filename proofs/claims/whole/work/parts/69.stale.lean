/-! commits: writers, staleness, links -/
def cm (σ : Sg) (c : Nat) : Nat := ix (σ.2 16 c)
theorem WF.com {σ : Sg} {M C N : Nat} (hw : WF σ M C N) {c : Nat} (h1 : 1 ≤ c) (hc : c ≤ C) : cm σ c < M ∧ σ.2 16 c = nI (cm σ c) ∧ σ.2 2 (cm σ c) = 1 ∧ σ.2 5 (cm σ c) = nI c ∧ ∀ k, k < 32 → Wk σ (cm σ c) k → stf σ c k = σ.2 10 (32 * cm σ c + k) := by
  obtain ⟨t, ht, e, e2, e3, e4⟩ := hw.2.2.2.2.2.2.2.2.2.1 c h1 hc
  have et : cm σ c = t := by
    show ix (σ.2 16 c) = t
    rw [e, ix_nI (by have := hw.2.1; omega)]
  rw [et]
  exact ⟨ht, e, e2, e3, e4⟩
def LW (σ : Sg) (k : Nat) : Nat → Nat
  | 0 => 0
  | c + 1 => if σ.2 10 (32 * cm σ (c + 1) + k) = -5000 then LW σ k c else c + 1
theorem LW_le (σ : Sg) (k : Nat) : ∀ c, LW σ k c ≤ c
  | 0 => Nat.le_refl 0
  | c + 1 => by
    rw [LW]
    split
    · have := LW_le σ k c; omega
    · omega
theorem LW_lt {σ : Sg} {k r : Nat} : ∀ {C : Nat}, r < LW σ k C ↔ ∃ c, 1 ≤ c ∧ c ≤ C ∧ Wk σ (cm σ c) k ∧ r < c
  | 0 => ⟨fun h => absurd h (Nat.not_lt_zero r), fun ⟨c, h1, h2, _⟩ => by omega⟩
  | C + 1 => by
    rw [LW]
    split
    · rename_i hq
      rw [LW_lt (C := C)]
      constructor
      · rintro ⟨c, h1, h2, h3⟩
        exact ⟨c, h1, by omega, h3⟩
      · rintro ⟨c, h1, h2, h3, h4⟩
        by_cases e : c = C + 1
        · subst e; exact absurd hq h3
        · exact ⟨c, h1, by omega, h3, h4⟩
    · rename_i hq
      constructor
      · intro h; exact ⟨C + 1, by omega, by omega, hq, h⟩
      · rintro ⟨c, h1, h2, h3, h4⟩; omega
theorem LW_eq {σ : Sg} {k e : Nat} (h1 : 1 ≤ e) (hw : Wk σ (cm σ e) k) : ∀ {C : Nat}, e ≤ C → (LW σ k C = e ↔ ∀ b, e < b → b ≤ C → ¬ Wk σ (cm σ b) k)
  | 0, h => by omega
  | C + 1, h => by
    rw [LW]
    by_cases eq : e = C + 1
    · subst eq
      rw [if_neg hw]
      exact ⟨fun _ b h2 h3 => by omega, fun _ => rfl⟩
    · split
      · rename_i hq
        rw [LW_eq h1 hw (C := C) (by omega)]
        constructor
        · intro h b h2 h3
          by_cases e2 : b = C + 1
          · subst e2; exact fun q => q hq
          · exact h b h2 (by omega)
        · intro h b h2 h3; exact h b h2 (by omega)
      · rename_i hq
        constructor
        · intro h; omega
        · intro h; exact absurd hq (h (C + 1) (by omega) (by omega))
/-- touched since it was made -/
def TS (σ : Sg) (C t i : Nat) : Prop := exq (fun c => σ.2 11 (4 * (24 * t + cP σ t i) + 3) < nI c ∧ TB σ t i (cm σ c) (stf σ (c - 1))) (C + 1)
def KS (σ : Sg) (C t k : Nat) : Prop := Rk σ t k ∧ σ.2 9 (32 * t + k) < nI (LW σ k C)
theorem i32_m1 (n : Nat) : nI (n + 1) + (-1) = nI n := by
  rw [← nI_pred n, Int32.sub_eq_add_neg]
section STL
variable {S : MS} {l1 l2 l3 l4 : Nat} {loc ow : Nat → Nat} {σ σ1 : Sg} {M C N : Nat}
theorem Mid.au (h : Mid S l1 l2 l3 l4 loc ow σ σ1 M C N) {c : Nat} (h1 : 1 ≤ c) (hc : c ≤ C) : cm σ1 c < M ∧ sR S (loc 9) c = loc (200 + cm σ1 c) := by
  obtain ⟨a, b, -⟩ := h.wf.com h1 hc
  exact ⟨a, h.rc.2.2.2.2.2.2.1 c h1 hc _ a b⟩
theorem cl_writtenBy (h : Mid S l1 l2 l3 l4 loc ow σ σ1 M C N) {c : Nat} (h1 : 1 ≤ c) (hc : c ≤ C) {post : Int32 → MS → Prop} (hp : post (sI S (loc (200 + cm σ1 c)) 7) S) : w_X1_writtenBy S (loc 2) (nI c) post := by
  obtain ⟨a1, a2, a3⟩ := h.his
  obtain ⟨d1, d2, d3, d4, d5, d6⟩ := h.hst
  obtain ⟨e1, e2⟩ := h.au h1 hc
  have := h.C60
  unfold w_X1_writtenBy b_X1_writtenBy_19
  rw [d4, d6, ix_nI (by omega), e2]
  refine ⟨a2, d5, vp_in_nI (by omega) (by omega), fun r4 hr4 => ?_⟩
  rw [hr4]
  exact ⟨fun _ => ⟨(h.tx e1).1, hp⟩, fun q => absurd q (h.nz (us_t e1).1)⟩
theorem cl_lw_loop (h : Mid S l1 l2 l3 l4 loc ow σ σ1 M C N) {k : Nat} (hk : k < 32) {post : Int32 → MS → Prop} : ∀ c, c ≤ C → post (nI (LW σ1 k c)) S → b_X1_latestWriter_5 post (c + 1) S (loc 2) (nI k) (nI c) := by
  have hC := h.C60
  intro c
  induction c with
  | zero =>
    intro _ hp
    rw [b_X1_latestWriter_5]
    exact ⟨fun _ => hp, fun q => absurd (Int32.le_refl _) q⟩
  | succ c ih =>
    intro hc hp
    rw [b_X1_latestWriter_5]
    obtain ⟨e1, e2⟩ := h.au (c := c + 1) (by omega) hc
    have ky : hb (sI S (loc (200 + cm σ1 (c + 1))) 7) k ↔ Wk σ1 (cm σ1 (c + 1)) k := (h.ky e1 hk).2.2.1
    refine ⟨fun q => absurd q (nI_nle (by omega) (by omega)), fun _ => ⟨h.his.2.1, cl_writtenBy h (by omega) hc ⟨fun g v hv => ?_, fun g => ?_⟩⟩⟩
    · rw [hv, i32_m1]
      refine ih (by omega) ?_
      have : σ1.2 10 (32 * cm σ1 (c + 1) + k) = -5000 := Classical.byContradiction (fun q => (ky.mpr q) g)
      rw [LW, if_pos this] at hp
      exact hp
    · have : ¬ σ1.2 10 (32 * cm σ1 (c + 1) + k) = -5000 := ky.mp g
      rw [LW, if_neg this] at hp
      exact hp
theorem cl_latestWriter (h : Mid S l1 l2 l3 l4 loc ow σ σ1 M C N) {k : Nat} (hk : k < 32) {post : Int32 → MS → Prop} (hp : post (nI (LW σ1 k C)) S) : w_X1_latestWriter S (loc 2) (nI k) post := by
  unfold w_X1_latestWriter
  refine ⟨h.his.2.1, fun v hv => ⟨C + 1, ?_⟩⟩
  rw [hv, h.his.2.2]
  exact cl_lw_loop h hk C (Nat.le_refl C) hp
theorem cl_ts_loop (h : Mid S l1 l2 l3 l4 loc ow σ σ1 M C N) {t i z : Nat} (ht : t < M) (hz : σ1.2 7 t = nI z) (h24 : z ≤ 24) (hi : i < z) (hb : ∀ c : Nat, c ≤ 60 → TB σ1 t i (cm σ1 c) (stf σ1 (c - 1)) → ∀ m : Nat, m ≤ 60 → sI S (loc (1000 + (24 * t + i))) 4 = nI m → σ1.2 11 (4 * (24 * t + cP σ1 t i) + 3) = nI m) {m : Nat} (hm : m ≤ 60) (em : sI S (loc (1000 + (24 * t + i))) 4 = nI m) {post : Int32 → MS → Prop} (hpo : post (bI (TS σ1 C t i)) S) : ∀ n c, C + 1 ≤ c + n → c ≤ 61 → m < c → (∀ j, j < c → j ≤ C → ¬ (σ1.2 11 (4 * (24 * t + cP σ1 t i) + 3) < nI j ∧ TB σ1 t i (cm σ1 j) (stf σ1 (j - 1)))) → b_X1_isTouchedSince_13 post (n + 1) S (loc 2) (loc (1000 + (24 * t + i))) (nI c) := by
  have hC := h.C60
  obtain ⟨a1, a2, a3⟩ := h.his
  obtain ⟨d1, d2, d3, d4, d5, d6⟩ := h.hst
  intro n
  induction n with
  | zero =>
    intro c hc _ hmc hno
    rw [b_X1_isTouchedSince_13]
    refine ⟨a2, ?_⟩
    rw [a3]
    exact ⟨fun _ => pb0 hpo (fun ⟨j, hj, r⟩ => hno j (by omega) (by omega) r), fun q => absurd (nI_lt (by omega) (by omega)) q⟩
  | succ n ih =>
    intro c hc hc61 hmc hno
    rw [b_X1_isTouchedSince_13]
    simp only [b_X1_isTouchedSince_50]
    refine ⟨a2, ?_⟩
    rw [a3]
    refine ⟨fun hlt => pb0 hpo (fun ⟨j, hj, r⟩ => hno j ?_ (by omega) r), fun hlt => ?_⟩
    · have := (nI_ltI (by omega) (by omega)).mp hlt
      omega
    · have hcC : c ≤ C := Classical.byContradiction (fun q => hlt (nI_lt (by omega) (by omega)))
      obtain ⟨e1, e2⟩ := h.au (c := c) (by omega) hcC
      have ec : nI c - 1 = nI (c - 1) := nI_m1 (by omega)
      obtain ⟨f1, f2, f3, f4⟩ := h.row (c := c - 1) (by omega)
      rw [d4, d6, d1, d3, ix_nI (by omega), e2]
      refine ⟨d5, vp_in_nI (by omega) (by omega), fun r4 hr4 => ?_⟩
      rw [hr4, ec, ix_nI (by omega), f4]
      refine ⟨fun q => absurd q (h.nz (us_t e1).1), fun _ => ⟨d2, vp_in_nI (by omega) (by omega), (h.op ht hz h24 hi).1, cl_isTouchedBy h ht hz h24 hi e1 f1 f2 f3 ⟨fun g v hv => ?_, fun g => ?_⟩⟩⟩
      · rw [hv, nI_1]
        refine ih (c + 1) (by omega) (by omega) (by omega) (fun j hj hjC r => ?_)
        by_cases e : j = c
        · subst e; exact bI_z.mp g r.2
        · exact hno j (by omega) hjC r
      · refine pb1 hpo ⟨c, by omega, ?_, bI_nz.mp g⟩
        rw [hb c (by omega) (bI_nz.mp g) m hm em]
        exact nI_lt hmc (by omega)
theorem op_pr {t i : Nat} (o : OpR S loc σ1 t i) (hp : isPr σ1 t i = true) : σ1.2 8 (5 * (24 * t + i)) = 1 ∨ σ1.2 8 (5 * (24 * t + i)) = 2 := by
  unfold isPr at hp
  simpa using hp
theorem op_mad {t i m : Nat} (o : OpR S loc σ1 t i) (hp : isPr σ1 t i = true) (em : sI S (loc (1000 + (24 * t + i))) 4 = nI m) : σ1.2 11 (4 * (24 * t + cP σ1 t i) + 3) = nI m := by
  obtain ⟨o1, o2, o3, o4, o5, o6, o7, o8, o9, o10, o11, o12, o13, o14⟩ := id o
  obtain ⟨p1, p2, p3, p4, p5, p6, p7, p8⟩ := o11 (op_pr o hp)
  rw [p6, em]
theorem cl_isTouchedSince (h : Mid S l1 l2 l3 l4 loc ow σ σ1 M C N) {t i z : Nat} (ht : t < M) (hz : σ1.2 7 t = nI z) (h24 : z ≤ 24) (hi : i < z) {post : Int32 → MS → Prop} (hpo : post (bI (TS σ1 C t i)) S) : w_X1_isTouchedSince S (loc 2) (loc (1000 + (24 * t + i))) post := by
  have o := h.op ht hz h24 hi
  have hC := h.C60
  obtain ⟨m, hm, em⟩ : ∃ c : Nat, c ≤ 60 ∧ sI S (loc (1000 + (24 * t + i))) 4 = nI c := o.2.2.2.2.2.2.2.2.2.2.2.2.2
  unfold w_X1_isTouchedSince
  refine ⟨fun _ => ⟨o.1, fun v hv => ⟨62, ?_⟩⟩, fun q => absurd q (h.nz (us_z ht hz h24 hi))⟩
  rw [hv, em, nI_1]
  refine cl_ts_loop h ht hz h24 hi (fun c _ hb m _ e => op_mad o hb.1 e) hm em hpo 61 (m + 1) (by omega) (by omega) (by omega) (fun j hj _ r => ?_)
  rw [op_mad o r.2.1 em] at r
  have := (nI_ltI (by omega) (by omega)).mp r.1
  omega
theorem cl_st2_loop (h : Mid S l1 l2 l3 l4 loc ow σ σ1 M C N) {t z : Nat} (ht : t < M) (hz : σ1.2 7 t = nI z) (h24 : z ≤ 24) {post : Int32 → MS → Prop} (h2 : exq (TS σ1 C t) z → post 2 S) (h0 : ¬ exq (TS σ1 C t) z → post 0 S) : ∀ n i, i + n = z → ¬ exq (TS σ1 C t) i → b_X1_stalenessOf_40 post (n + 1) S (loc 2) (loc (200 + t)) (nI i) := by
  obtain ⟨b1, b2, b3, b4, b5, b6, b7, b8, b9, b10, b11, b12, b13, b14, b15, b16, b17, b18⟩ := h.tx ht
  intro n
  induction n with
  | zero =>
    intro i hi hno
    have e : i = z := by omega
    subst e
    rw [b_X1_stalenessOf_40]
    refine ⟨b1, ?_⟩
    rw [b14, hz]
    exact ⟨fun _ => h0 hno, fun q => absurd (Int32.le_refl _) q⟩
  | succ n ih =>
    intro i hi hno
    have o := h.op ht hz h24 (show i < z by omega)
    rw [b_X1_stalenessOf_40]
    refine ⟨b1, ?_⟩
    rw [b14, hz, b3, b7, ix_nI (by omega), o.2.1]
    refine ⟨fun q => absurd q (nI_ge (by omega) (by omega)), fun _ => ⟨b6, vp_in_nI (by omega) (by omega), h.his.2.1, cl_isTouchedSince h ht hz h24 (by omega) ⟨fun g v hv => ?_, fun g => h2 ⟨i, by omega, bI_nz.mp g⟩⟩⟩⟩
    rw [hv, nI_1]
    exact ih (i + 1) (by omega) (fun r => (exq_s.mp r).elim hno (bI_z.mp g))
theorem cl_st1_loop (h : Mid S l1 l2 l3 l4 loc ow σ σ1 M C N) {t z : Nat} (ht : t < M) (hz : σ1.2 7 t = nI z) (h24 : z ≤ 24) {post : Int32 → MS → Prop} (h1 : exq (KS σ1 C t) 32 → post 1 S) (h2 : ¬ exq (KS σ1 C t) 32 → exq (TS σ1 C t) z → post 2 S) (h0 : ¬ exq (KS σ1 C t) 32 → ¬ exq (TS σ1 C t) z → post 0 S) : ∀ n k, k + n = 32 → ¬ exq (KS σ1 C t) k → b_X1_stalenessOf_2 post (n + 1) S (loc 2) (loc (200 + t)) (nI k) := by
  obtain ⟨b1, b2, b3, b4, b5, b6, b7, b8, b9, b10, b11, b12, b13, b14, b15, b16, b17, b18⟩ := h.tx ht
  intro n
  induction n with
  | zero =>
    intro k hk hno
    have e : k = 32 := by omega
    subst e
    rw [b_X1_stalenessOf_2]
    exact ⟨fun _ => ⟨z + 1, cl_st2_loop h ht hz h24 (h2 hno) (h0 hno) z 0 (by omega) exq_0⟩, fun q => absurd (Int32.le_refl _) q⟩
  | succ n ih =>
    intro k hk hno
    rw [b_X1_stalenessOf_2]
    simp only [b_X1_stalenessOf_32]
    have go : ¬ KS σ1 C t k → ∀ v : Int32, v = nI k + 1 → b_X1_stalenessOf_2 post (n + 1) S (loc 2) (loc (200 + t)) v := fun g v hv => by
      rw [hv, nI_1]
      exact ih (k + 1) (by omega) (fun r => (exq_s.mp r).elim hno g)
    refine ⟨fun q => absurd q (i32_lt32 (by omega)), fun _ => ⟨b1, cl_hasRec h ht (by omega) ⟨fun g => go (fun r => bI_z.mp g r.1), fun g => ⟨h.his.2.1, cl_latestWriter h (by omega) ?_⟩⟩⟩⟩
    have hr := bI_nz.mp g
    rw [b4, b9, ix_nI (by omega), (h.ky ht (show k < 32 by omega)).2.1 hr]
    exact ⟨b1, b8, vp_in_nI (by omega) (by omega), fun q => go (fun r => (fa_of_lt r.2).2.1 q), fun q => h1 ⟨k, by omega, hr, fa_of_nle q⟩⟩
theorem cl_stalenessOf (h : Mid S l1 l2 l3 l4 loc ow σ σ1 M C N) {t z : Nat} (ht : t < M) (hz : σ1.2 7 t = nI z) (h24 : z ≤ 24) {post : Int32 → MS → Prop} (h1 : exq (KS σ1 C t) 32 → post 1 S) (h2 : ¬ exq (KS σ1 C t) 32 → exq (TS σ1 C t) z → post 2 S) (h0 : ¬ exq (KS σ1 C t) 32 → ¬ exq (TS σ1 C t) z → post 0 S) : w_X1_stalenessOf S (loc 2) (loc (200 + t)) post := ⟨33, cl_st1_loop h ht hz h24 h1 h2 h0 32 0 (by omega) exq_0⟩
/-! links -/
def RF (σ : Sg) (e l : Nat) : Prop := exq (fun k => Rk σ (cm σ l) k ∧ Wk σ (cm σ e) k ∧ ∀ b, e < b → b < l → ¬ Wk σ (cm σ b) k) 32
def WW (σ : Sg) (e l : Nat) : Prop := exq (fun k => Wk σ (cm σ e) k ∧ Wk σ (cm σ l) k) 32
theorem cl_rf_loop (h : Mid S l1 l2 l3 l4 loc ow σ σ1 M C N) {e l : Nat} {rc : Int32} (hl : l ≤ C) {P : Nat → Prop} {post : Int32 → MS → Prop} (hpo : post (bI (exq (fun k => P k ∧ ∀ b, e < b → b < l → ¬ Wk σ1 (cm σ1 b) k) 32)) S) : ∀ n b (w : Int32), b + n = l → e < b → (∀ k, k < 32 → (hb w k ↔ P k ∧ ∀ b', e < b' → b' < b → ¬ Wk σ1 (cm σ1 b') k)) → b_X1_readsFrom_14 post (n + 1) S (loc 2) (nI e) (nI l) rc w (nI b) := by
  have hC := h.C60
  intro n
  induction n with
  | zero =>
    intro b w hb' he hw
    have q : b = l := by omega
    subst q
    rw [b_X1_readsFrom_14]
    simp only [b_X1_readsFrom_49]
    refine ⟨fun _ => ⟨fun q => ⟨zb0, pb0 hpo (fun ⟨k, hk, r⟩ => ?_)⟩, fun q => ⟨zb1, pb1 hpo ?_⟩⟩, fun q => absurd (Int32.le_refl _) q⟩
    · have := (hw k hk).mpr r
      rw [q] at this
      exact hb_z hk this
    · obtain ⟨k, hk, r⟩ := nz_bt.mp q
      exact ⟨k, hk, (hw k hk).mp ((hb_bt hk).mpr r)⟩
  | succ n ih =>
    intro b w hb' he hw
    rw [b_X1_readsFrom_14]
    obtain ⟨e1, e2⟩ := h.au (c := b) (by omega) (by omega)
    refine ⟨fun q => absurd q (nI_ge (by omega) (by omega)), fun _ => ⟨h.his.2.1, cl_writtenBy h (by omega) (by omega) (fun v hv v2 hv2 => ?_)⟩⟩
    rw [hv2, nI_1]
    refine ih (b + 1) v (by omega) (by omega) (fun k hk => ?_)
    rw [hv, hb_and hk, hb_not hk, hw k hk]
    have ky : hb (sI S (loc (200 + cm σ1 b)) 7) k ↔ Wk σ1 (cm σ1 b) k := (h.ky e1 hk).2.2.1
    rw [ky]
    constructor
    · rintro ⟨⟨r1, r2⟩, r3⟩
      refine ⟨r1, fun b' h1 h2 => ?_⟩
      by_cases q : b' = b
      · rw [q]; exact r3
      · exact r2 b' h1 (by omega)
    · rintro ⟨r1, r2⟩
      exact ⟨⟨r1, fun b' h1 h2 => r2 b' h1 (by omega)⟩, r2 b he (by omega)⟩
theorem cl_readsFrom (h : Mid S l1 l2 l3 l4 loc ow σ σ1 M C N) {e l : Nat} (h1 : 1 ≤ e) (hel : e < l) (hl : l ≤ C) {post : Int32 → MS → Prop} (hpo : post (bI (RF σ1 e l)) S) : w_X1_readsFrom S (loc 2) (nI e) (nI l) (sI S (loc (200 + cm σ1 l)) 6) post := by
  obtain ⟨e1, e2⟩ := h.au h1 (show e ≤ C by omega)
  obtain ⟨f1, f2⟩ := h.au (show 1 ≤ l by omega) hl
  unfold w_X1_readsFrom
  refine ⟨h.his.2.1, cl_writtenBy h h1 (by omega) (fun v hv v2 hv2 => ⟨l - e, ?_⟩)⟩
  rw [hv2, nI_1]
  have hpo2 : post (bI (exq (fun k => (Rk σ1 (cm σ1 l) k ∧ Wk σ1 (cm σ1 e) k) ∧ ∀ b, e < b → b < l → ¬ Wk σ1 (cm σ1 b) k) 32)) S := by
    have q : (exq (fun k => (Rk σ1 (cm σ1 l) k ∧ Wk σ1 (cm σ1 e) k) ∧ ∀ b, e < b → b < l → ¬ Wk σ1 (cm σ1 b) k) 32) ↔ RF σ1 e l := exq_c (fun k _ => and_assoc)
    rw [bI_c q]
    exact hpo
  have en : l - e = (l - (e + 1)) + 1 := by omega
  rw [en]
  refine cl_rf_loop h hl hpo2 (l - (e + 1)) (e + 1) v (by omega) (by omega) (fun k hk => ?_)
  have ky1 : hb (sI S (loc (200 + cm σ1 e)) 7) k ↔ Wk σ1 (cm σ1 e) k := (h.ky e1 hk).2.2.1
  have ky2 : hb (sI S (loc (200 + cm σ1 l)) 6) k ↔ Rk σ1 (cm σ1 l) k := (h.ky f1 hk).1
  rw [hv, hb_and hk, ky1, ky2]
  exact ⟨fun r => ⟨r, fun b' q1 q2 => by omega⟩, fun r => r.1⟩
noncomputable def lkV (σ : Sg) (e l : Nat) : Int32 := (bI (RF σ e l) + (if bI (WW σ e l) = 0 then 0 else 2)) + (if bI (Hit σ (cm σ e) (cm σ l) (stf σ (l - 1))) = 0 then 0 else 4)
theorem cl_link (h : Mid S l1 l2 l3 l4 loc ow σ σ1 M C N) {e l : Nat} (h1 : 1 ≤ e) (hel : e < l) (hl : l ≤ C) {post : Int32 → MS → Prop} (hpo : post (lkV σ1 e l) S) : w_X1_link S (loc 2) (nI e) (nI l) post := by
  have hC := h.C60
  obtain ⟨a1, a2, a3⟩ := h.his
  obtain ⟨d1, d2, d3, d4, d5, d6⟩ := h.hst
  obtain ⟨e1, e2⟩ := h.au h1 (show e ≤ C by omega)
  obtain ⟨f1, f2⟩ := h.au (show 1 ≤ l by omega) hl
  obtain ⟨g1, g2, g3, g4⟩ := h.row (c := l - 1) (by omega)
  have ec : nI l - 1 = nI (l - 1) := nI_m1 (by omega)
  have key : ¬ ((sI S (loc (200 + cm σ1 e)) 7) &&& (sI S (loc (200 + cm σ1 l)) 7)) = 0 ↔ WW σ1 e l := by
    rw [and_nz]
    exact ⟨fun ⟨k, hk, x, y⟩ => ⟨k, hk, (h.ky e1 hk).2.2.1.mp x, (h.ky f1 hk).2.2.1.mp y⟩, fun ⟨k, hk, x, y⟩ => ⟨k, hk, (h.ky e1 hk).2.2.1.mpr x, (h.ky f1 hk).2.2.1.mpr y⟩⟩
  unfold w_X1_link
  rw [d4, d6, ix_nI (by omega), ix_nI (by omega), e2, f2]
  refine ⟨a2, d5, vp_in_nI (by omega) (by omega), fun r4 hr4 => ⟨vp_in_nI (by omega) (by omega), fun r6 hr6 => ?_⟩⟩
  rw [hr4, hr6]
  have fin : ∀ (x y : Int32), lkV σ1 e l = (x + y) + (if bI (Hit σ1 (cm σ1 e) (cm σ1 l) (stf σ1 (l - 1))) = 0 then 0 else 4) → b_X1_link_62 post S (loc 2) (nI e) (nI l) (loc (200 + cm σ1 e)) (loc (200 + cm σ1 l)) (x + y) := fun x y hxy => by
    unfold b_X1_link_62 b_X1_link_82
    rw [d1, d3, ec, ix_nI (by omega), g4]
    refine ⟨a2, d2, vp_in_nI (by omega) (by omega), (h.tx e1).1, cl_isHitBy h e1 f1 g1 g2 g3 ⟨fun q => ?_, fun q v hv => ?_⟩⟩
    · rw [if_pos q, i32_add0] at hxy
      rw [hxy] at hpo; exact hpo
    · rw [if_neg q] at hxy
      rw [hv, ← hxy]; exact hpo
  have mid : ∀ x : Int32, x = bI (RF σ1 e l) → b_X1_link_46 post S (loc 2) (nI e) (nI l) (loc (200 + cm σ1 e)) (loc (200 + cm σ1 l)) x := fun x hx => by
    unfold b_X1_link_46
    refine ⟨(h.tx e1).1, (h.tx f1).1, fun q => ?_, fun q v hv => ?_⟩
    · have := fin x 0 (by unfold lkV; rw [hx, bI_0 (fun r => key.mpr r q), if_pos rfl])
      rw [i32_add0] at this
      exact this
    · rw [hv]
      exact fin x 2 (by unfold lkV; rw [hx, bI_1 (key.mp q), if_neg ne10])
  exact ⟨fun q => absurd q (h.nz (us_t e1).1), fun _ => ⟨fun _ => ⟨(h.tx f1).1, cl_readsFrom h h1 hel hl ⟨fun q => mid 0 q.symm, fun q v hv => mid v (by rw [hv, bI_1 (bI_nz.mp q)]; rfl)⟩⟩, fun q => absurd q (h.nz (us_t f1).1)⟩⟩
end STL
