/-! the same on the reference's side -/
theorem mul4 (t j : Nat) : (4 : Int32) * ((24 : Int32) * nI t + nI j) = nI (4 * (24 * t + j)) := by
  rw [show (24 : Int32) = nI 24 from rfl, show (4 : Int32) = nI 4 from rfl, pk_mul, nI_add, pk_mul]
theorem mul5 (t j : Nat) : (5 : Int32) * ((24 : Int32) * nI t + nI j) = nI (5 * (24 * t + j)) := by
  rw [show (24 : Int32) = nI 24 from rfl, show (5 : Int32) = nI 5 from rfl, pk_mul, nI_add, pk_mul]
theorem nI_2 (a : Nat) : nI a + 2 = nI (a + 2) := nI_add a 2
theorem nI_3 (a : Nat) : nI a + 3 = nI (a + 3) := nI_add a 3
theorem nI_4 (a : Nat) : nI a + 4 = nI (a + 4) := nI_add a 4
theorem rf_isIn' {σ : Sg} {a b c : Int32} {P : Int32 → Sg → Prop} (h : P (bI (b ≤ a ∧ a ≤ c)) σ) : v_X6_isIn σ a b c P := rf_isIn (fun q => pb1 h q) (fun q => pb0 h q)
section RFS
variable {σ : Sg} {M C N : Nat}
theorem rf_touches {t j k : Nat} (ht : t < 80) (hj : j < 24) {b a : Int32} {P : Int32 → Sg → Prop} (h : P (bI (Tc σ t j k b a)) σ) : v_X6_touches σ (nI (4 * (24 * t + j))) (nI k) b a P := by
  unfold v_X6_touches bv_X6_touches_46 bv_X6_touches_50 bv_X6_touches_51
  rw [nI_1, ix_nI (by omega), ix_nI (by omega)]
  refine ⟨vp_in_nI (by omega) (by omega), vp_in_nI (by omega) (by omega), rf_isIn' ⟨fun g => ⟨zb0, pb0 h (fun r => bI_z.mp g ⟨r.1, r.2.1⟩)⟩, fun g => ?_⟩⟩
  rw [nI_2, ix_nI (by omega)]
  have g := bI_nz.mp g
  refine ⟨vp_in_nI (by omega) (by omega), fun q => ⟨zb1, pb1 h ⟨g.1, g.2, Or.inl q⟩⟩, fun q => ⟨vp_in_nI (by omega) (by omega), fun q2 => ⟨zb0, pb0 h (fun r => ?_)⟩, fun q2 => ⟨zb1, pb1 h ⟨g.1, g.2, Or.inr (fa_of_nlt q2)⟩⟩⟩⟩
  exact r.2.2.elim q (fa_of_lt q2).2.1
def TA (σ : Sg) (t : Nat) (later : Int32) (k : Nat) (b a : Int32) (j : Nat) : Prop := σ.2 11 (4 * (24 * t + j) + 3) < later ∧ Tc σ t j k b a
theorem rf_ta_loop {t k p : Nat} (ht : t < 80) (hp : p ≤ 24) (ep : σ.2 12 t = nI p) {later b a : Int32} {P : Int32 → Sg → Prop} (h : P (bI (exq (TA σ t later k b a) p)) σ) : ∀ n j, j + n = p → bv_X6_touchesAny_6 P (n + 1) σ (nI t) later (nI k) b a (bI (exq (TA σ t later k b a) j)) (nI j) := by
  intro n
  induction n with
  | zero =>
    intro j hj
    have e : j = p := by omega
    subst e
    rw [bv_X6_touchesAny_6]
    dsimp only
    rw [ix_nI (by omega), ep]
    exact ⟨vp_in_nI (by omega) (by omega), fun _ => ⟨bI_n _, h⟩, fun q => absurd (Int32.le_refl _) q⟩
  | succ n ih =>
    intro j hj
    rw [bv_X6_touchesAny_6]
    dsimp only
    rw [ix_nI (by omega), ep]
    simp only [bv_X6_touchesAny_60, bv_X6_touchesAny_64, bv_X6_touchesAny_65]
    have hs := ih (j + 1) (by omega)
    refine ⟨vp_in_nI (by omega) (by omega), fun q => absurd q (nI_ge (by omega) (by omega)), fun _ v2 hv2 => ?_⟩
    rw [hv2, mul4]
    refine ⟨fun g v hv => ?_, fun g => ?_⟩
    · rw [ex1 g] at hs
      rw [hv, nI_1]; exact hs
    · rw [nI_3, ix_nI (by omega)]
      refine ⟨vp_in_nI (by omega) (by omega), fun q v hv => ?_, fun q => rf_touches ht (by omega) ⟨fun g2 v hv => ?_, fun g2 v hv => ?_⟩⟩
      · rw [ex3 g (fun r => (fa_of_lt r.1).2.1 q)] at hs
        rw [hv, nI_1]; exact hs
      · rw [ex3 g (fun r => bI_z.mp g2 r.2)] at hs
        rw [hv, nI_1]; exact hs
      · rw [ex2 (P := TA σ t later k b a) ⟨fa_of_nle q, bI_nz.mp g2⟩] at hs
        rw [hv, nI_1]; exact hs
theorem rf_touchesAny {t k p : Nat} (ht : t < 80) (hp : p ≤ 24) (ep : σ.2 12 t = nI p) {later b a : Int32} {P : Int32 → Sg → Prop} (h : P (bI (exq (TA σ t later k b a) p)) σ) : v_X6_touchesAny σ (nI t) later (nI k) b a P := by
  refine ⟨p + 1, ?_⟩
  have := rf_ta_loop ht hp ep h p 0 (by omega)
  rw [bI_0 exq_0] at this
  exact this
/-- w's writes conflict with t's records and predicates, from bf to af -/
def Cf (σ : Sg) (w t p : Nat) (bf af : Nat → Int32) (k : Nat) : Prop := Wk σ w k ∧ (Rk σ t k ∨ exq (TA σ t 61 k (bf k) (af k)) p)
theorem WF.sz (hw : WF σ M C N) {t : Nat} (ht : t < M) : ∃ z, z ≤ 24 ∧ σ.2 7 t = nI z ∧ σ.2 12 t = nI (cP σ t z) := (hw.2.2.2.2.2.2.1 t ht).2.1
theorem rf_cf_loop (hw : WF σ M C N) {w t p : Nat} (hwm : w < M) (ht : t < M) (hp : p ≤ 24) (ep : σ.2 12 t = nI p) {P : Int32 → Sg → Prop} (h : P (bI (exq (Cf σ w t p (stf σ C) (fun k => σ.2 10 (32 * w + k))) 32)) σ) : ∀ n k, k + n = 32 → bv_X6_conflicts_5 P (n + 1) σ (nI w) (nI t) (bI (exq (Cf σ w t p (stf σ C) (fun k => σ.2 10 (32 * w + k))) k)) (nI k) := by
  have hM := hw.2.1
  have hC := hw.2.2.2.1
  intro n
  induction n with
  | zero =>
    intro k hk
    have e : k = 32 := by omega
    subst e
    rw [bv_X6_conflicts_5]
    exact ⟨fun _ => ⟨bI_n _, h⟩, fun q => absurd (Int32.le_refl _) q⟩
  | succ n ih =>
    intro k hk
    rw [bv_X6_conflicts_5]
    dsimp only
    rw [mul32, mul32, ix_nI (by omega), ix_nI (by omega), hw.2.2.1]
    simp only [bv_X6_conflicts_78, bv_X6_conflicts_82, bv_X6_conflicts_83]
    have hs := ih (k + 1) (by omega)
    refine ⟨fun q => absurd q (i32_lt32 (by omega)), fun _ => ⟨vp_in_nI (by omega) (by omega), fun v2 hv2 => ⟨fun g v hv => ?_, fun g => ⟨fun q v hv => ?_, fun q => ⟨vp_in_nI (by omega) (by omega), fun q2 v hv => ?_, fun q2 => rf_stored (by omega) (by omega) ?_⟩⟩⟩⟩⟩
    · rw [ex1 g] at hs
      rw [hv, nI_1]; exact hs
    · rw [hv2] at q
      rw [ex3 g (fun r => r.1 q)] at hs
      rw [hv, nI_1]; exact hs
    · rw [hv2] at q
      rw [ex2 (P := Cf σ w t p (stf σ C) (fun k => σ.2 10 (32 * w + k))) ⟨q, Or.inl q2⟩] at hs
      rw [hv, nI_1]; exact hs
    · rw [hv2] at q ⊢
      refine rf_touchesAny (by omega) hp ep ⟨fun g2 v hv => ?_, fun g2 v hv => ?_⟩
      · rw [ex3 g (fun r => r.2.elim (fun x => x q2) (bI_z.mp g2))] at hs
        rw [hv, nI_1]; exact hs
      · rw [ex2 (P := Cf σ w t p (stf σ C) (fun k => σ.2 10 (32 * w + k))) ⟨q, Or.inr (bI_nz.mp g2)⟩] at hs
        rw [hv, nI_1]; exact hs
theorem rf_conflicts (hw : WF σ M C N) {w t p : Nat} (hwm : w < M) (ht : t < M) (hp : p ≤ 24) (ep : σ.2 12 t = nI p) {P : Int32 → Sg → Prop} (h : P (bI (exq (Cf σ w t p (stf σ C) (fun k => σ.2 10 (32 * w + k))) 32)) σ) : v_X6_conflicts σ (nI w) (nI t) P := by
  refine ⟨33, ?_⟩
  have := rf_cf_loop hw hwm ht hp ep h 32 0 (by omega)
  rw [bI_0 exq_0] at this
  exact this
theorem rf_hasWritten (hw : WF σ M C N) {c k : Nat} (h1 : 1 ≤ c) (hc : c ≤ C) (hk : k < 32) {P : Int32 → Sg → Prop} (h : P (bI (Wk σ (cm σ c) k)) σ) : v_X6_hasWritten σ (nI c) (nI k) P := by
  have hM := hw.2.1
  have hC := hw.2.2.2.1
  obtain ⟨a, b, -⟩ := hw.com h1 hc
  unfold v_X6_hasWritten bv_X6_hasWritten_27
  rw [ix_nI (by omega), b, mul32, ix_nI (by omega)]
  exact ⟨vp_in_nI (by omega) (by omega), vp_in_nI (by omega) (by omega), fun q => ⟨zb0, pb0 h (fun r => r q)⟩, fun q => ⟨zb1, pb1 h q⟩⟩
theorem rf_lw_loop (hw : WF σ M C N) {k l : Nat} (hk : k < 32) (hl : l ≤ C) {P : Int32 → Sg → Prop} (h : P (nI (LW σ k l)) σ) : ∀ n c, c + n = l → bv_X6_lastWriter_5 P (n + 1) σ (nI k) (nI (l + 1)) (nI (LW σ k c)) (nI (c + 1)) := by
  have hC := hw.2.2.2.1
  intro n
  induction n with
  | zero =>
    intro c hc
    have e : c = l := by omega
    subst e
    rw [bv_X6_lastWriter_5]
    exact ⟨fun _ => h, fun q => absurd (Int32.le_refl _) q⟩
  | succ n ih =>
    intro c hc
    rw [bv_X6_lastWriter_5]
    simp only [bv_X6_lastWriter_27]
    have hs := ih (c + 1) (by omega)
    refine ⟨fun q => absurd q (nI_ge (by omega) (by omega)), fun _ => rf_hasWritten hw (by omega) (by omega) hk ⟨fun g v hv => ?_, fun g v hv => ?_⟩⟩
    · rw [LW, if_pos (Classical.not_not.mp (bI_z.mp g))] at hs
      rw [hv, nI_1]; exact hs
    · rw [LW, if_neg (bI_nz.mp g)] at hs
      rw [hv, nI_1]; exact hs
theorem rf_lastWriter (hw : WF σ M C N) {k l : Nat} (hk : k < 32) (hl : l ≤ C) {P : Int32 → Sg → Prop} (h : P (nI (LW σ k l)) σ) : v_X6_lastWriter σ (nI k) (nI (l + 1)) P := ⟨l + 1, rf_lw_loop hw hk hl h l 0 (by omega)⟩
/-! staleness -/
def Wq (σ : Sg) (t c k : Nat) : Prop := Wk σ (cm σ c) k ∧ Rk σ t k ∧ σ.2 9 (32 * t + k) < nI c
def Tq (σ : Sg) (t p c k : Nat) : Prop := Wk σ (cm σ c) k ∧ exq (TA σ t (nI c) k (stf σ (c - 1) k) (stf σ c k)) p
theorem eo1 {A : Prop} {P : Nat → Prop} {i : Nat} (h : ¬ bI (A ∨ exq P i) = 0) : bI (A ∨ exq P (i + 1)) = 1 := bI_1 ((bI_nz.mp h).imp id (fun q => exq_s.mpr (Or.inl q)))
theorem eo2 {A : Prop} {P : Nat → Prop} {i : Nat} (h : P i) : bI (A ∨ exq P (i + 1)) = 1 := bI_1 (Or.inr (exq_s.mpr (Or.inr h)))
theorem eo3 {A : Prop} {P : Nat → Prop} {i : Nat} (h : bI (A ∨ exq P i) = 0) (h2 : ¬ P i) : bI (A ∨ exq P (i + 1)) = 0 := bI_0 (fun q => bI_z.mp h (q.imp id (fun r => (exq_s.mp r).elim id (fun r => absurd r h2))))
theorem rf_sti_loop (hw : WF σ M C N) {t p c : Nat} (ht : t < M) (hp : p ≤ 24) (ep : σ.2 12 t = nI p) (h1 : 1 ≤ c) (hc : c ≤ C) {A B : Prop} {KV : Sg → Int32 → Int32 → Int32 → Int32 → Prop} {P : Int32 → Sg → Prop} (h : KV σ (nI t) (bI (A ∨ exq (Tq σ t p c) 32)) (bI (B ∨ exq (Wq σ t c) 32)) (nI (c + 1))) : ∀ n k, k + n = 32 → bv_X6_staleness_19 KV P (n + 1) σ (nI t) (bI (A ∨ exq (Tq σ t p c) k)) (bI (B ∨ exq (Wq σ t c) k)) (nI c) (nI k) := by
  have hM := hw.2.1
  have hC := hw.2.2.2.1
  intro n
  induction n with
  | zero =>
    intro k hk
    have e : k = 32 := by omega
    subst e
    rw [bv_X6_staleness_19]
    exact ⟨fun _ v hv => by rw [hv, nI_1]; exact h, fun q => absurd (Int32.le_refl _) q⟩
  | succ n ih =>
    intro k hk
    rw [bv_X6_staleness_19]
    dsimp only
    rw [mul32, ix_nI (by omega)]
    have hs := ih (k + 1) (by omega)
    refine ⟨fun q => absurd q (i32_lt32 (by omega)), fun _ => ⟨vp_in_nI (by omega) (by omega), fun v3 hv3 => rf_hasWritten hw h1 hc (by omega) ?_⟩⟩
    have st : ∀ s0 : Int32, s0 = bI (B ∨ exq (Wq σ t c) (k + 1)) → bv_X6_staleness_77 KV (bv_X6_staleness_19 KV P (n + 1)) P σ (nI t) (bI (A ∨ exq (Tq σ t p c) k)) (bI (B ∨ exq (Wq σ t c) k)) (nI c) (nI k) v3 (bI (Wk σ (cm σ c) k)) s0 := fun s0 hs0 => by
      rw [← hs0] at hs
      unfold bv_X6_staleness_77 bv_X6_staleness_117 bv_X6_staleness_121 bv_X6_staleness_122
      refine ⟨fun g v hv => ?_, fun g => ⟨fun g2 v hv => ?_, fun g2 => ?_⟩⟩
      · rw [eo1 g] at hs
        rw [hv, nI_1]; exact hs
      · rw [eo3 g (fun r => bI_z.mp g2 r.1)] at hs
        rw [hv, nI_1]; exact hs
      · rw [show nI c - 1 = nI (c - 1) from nI_m1 (by omega)]
        refine rf_stored (by omega) (by omega) (rf_stored (by omega) (by omega) (rf_touchesAny (by omega) hp ep ⟨fun g3 v hv => ?_, fun g3 v hv => ?_⟩))
        · rw [eo3 g (fun r => bI_z.mp g3 r.2)] at hs
          rw [hv, nI_1]; exact hs
        · rw [eo2 (P := Tq σ t p c) ⟨bI_nz.mp g2, bI_nz.mp g3⟩] at hs
          rw [hv, nI_1]; exact hs
    unfold bv_X6_staleness_72 bv_X6_staleness_76
    exact ⟨fun g => st 1 (eo1 g).symm, fun g => ⟨fun g2 => st 0 (eo3 g (fun r => bI_z.mp g2 r.1)).symm, fun g2 => ⟨fun g3 => st 0 (eo3 g (fun r => r.2.1 (by rw [← hv3]; exact g3))).symm, fun g3 => ⟨fun g4 => st 0 (eo3 g (fun r => (fa_of_lt r.2.2).2.1 (by rw [← hv3]; exact g4))).symm, fun g4 => st 1 (eo2 (P := Wq σ t c) ⟨bI_nz.mp g2, by unfold Rk; rw [← hv3]; exact g3, by rw [← hv3]; exact fa_of_nle g4⟩).symm⟩⟩⟩⟩
def fr1 (P : Nat → Nat → Prop) (c : Nat) : Prop := 1 ≤ c ∧ exq (P c) 32
theorem rf_sto_loop (hw : WF σ M C N) {t p : Nat} (ht : t < M) (hp : p ≤ 24) (ep : σ.2 12 t = nI p) {P : Int32 → Sg → Prop} (h1 : exq (fr1 (Wq σ t)) (C + 1) → P 1 σ) (h2 : ¬ exq (fr1 (Wq σ t)) (C + 1) → exq (fr1 (Tq σ t p)) (C + 1) → P 2 σ) (h0 : ¬ exq (fr1 (Wq σ t)) (C + 1) → ¬ exq (fr1 (Tq σ t p)) (C + 1) → P 0 σ) : ∀ n c, c + n = C → bv_X6_staleness_7 P (n + 1) σ (nI t) (bI (exq (fr1 (Tq σ t p)) (c + 1))) (bI (exq (fr1 (Wq σ t)) (c + 1))) (nI (c + 1)) := by
  have hC := hw.2.2.2.1
  intro n
  induction n with
  | zero =>
    intro c hc
    have e : c = C := by omega
    subst e
    rw [bv_X6_staleness_7]
    dsimp only
    rw [hw.2.2.1]
    simp only [bv_X6_staleness_152]
    exact ⟨fun _ => ⟨fun g => ⟨fun g2 => h0 (bI_z.mp g) (bI_z.mp g2), fun g2 => h2 (bI_z.mp g) (bI_nz.mp g2)⟩, fun g => h1 (bI_nz.mp g)⟩, fun q => absurd (nI_lt (by omega) (by omega)) q⟩
  | succ n ih =>
    intro c hc
    rw [bv_X6_staleness_7]
    dsimp only
    rw [hw.2.2.1]
    have hs := ih (c + 1) (by omega)
    refine ⟨fun q => absurd q (nI_nl (by omega) (by omega)), fun _ => ⟨33, ?_⟩⟩
    have e1 : ∀ {Q : Nat → Nat → Prop}, exq (fr1 Q) (c + 1) = (exq (fr1 Q) (c + 1) ∨ exq (Q (c + 1)) 0) := fun {Q} => propext ⟨Or.inl, fun r => r.elim id (fun r => absurd r exq_0)⟩
    have e2 : ∀ {Q : Nat → Nat → Prop}, exq (fr1 Q) (c + 1 + 1) = (exq (fr1 Q) (c + 1) ∨ exq (Q (c + 1)) 32) := fun {Q} => propext (exq_s.trans (or_congr Iff.rfl ⟨fun r => r.2, fun r => ⟨by omega, r⟩⟩))
    rw [e2, e2] at hs
    have := rf_sti_loop (P := P) hw ht hp ep (show 1 ≤ c + 1 by omega) (by omega) hs 32 0 (by omega)
    rw [← e1, ← e1] at this
    exact this
theorem rf_staleness (hw : WF σ M C N) {t p : Nat} (ht : t < M) (hp : p ≤ 24) (ep : σ.2 12 t = nI p) {P : Int32 → Sg → Prop} (h1 : exq (fr1 (Wq σ t)) (C + 1) → P 1 σ) (h2 : ¬ exq (fr1 (Wq σ t)) (C + 1) → exq (fr1 (Tq σ t p)) (C + 1) → P 2 σ) (h0 : ¬ exq (fr1 (Wq σ t)) (C + 1) → ¬ exq (fr1 (Tq σ t p)) (C + 1) → P 0 σ) : v_X6_staleness σ (nI t) P := by
  refine ⟨C + 1, ?_⟩
  have := rf_sto_loop hw ht hp ep h1 h2 h0 C 0 (by omega)
  have e : ∀ {Q : Nat → Nat → Prop}, ¬ exq (fr1 Q) (0 + 1) := fun {Q} ⟨j, hj, r, _⟩ => by omega
  rw [bI_0 e, bI_0 e] at this
  exact this
end RFS
