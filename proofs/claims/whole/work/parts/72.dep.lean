/-! dependencyOf -/
section DEP
variable {σ : Sg} {M C N : Nat}
def Dr (σ : Sg) (e l k : Nat) : Prop := Wk σ (cm σ e) k ∧ Rk σ (cm σ l) k ∧ LW σ k (l - 1) = e
def Db (σ : Sg) (e l k : Nat) : Prop := Wk σ (cm σ l) k ∧ Wk σ (cm σ e) k
theorem rf_dep_loop (hw : WF σ M C N) {e l p : Nat} (h1 : 1 ≤ e) (hel : e < l) (hl : l ≤ C) (hp : p ≤ 24) (ep : σ.2 12 (cm σ e) = nI p) {P : Int32 → Sg → Prop} (h : P ((bI (exq (Dr σ e l) 32) + (if bI (exq (Db σ e l) 32) = 0 then 0 else 2)) + (if bI (exq (Cf σ (cm σ l) (cm σ e) p (stf σ (l - 1)) (stf σ l)) 32) = 0 then 0 else 4)) σ) : ∀ n k, k + n = 32 → bv_X6_dependencyOf_27 P (n + 1) σ (nI e) (nI l) (nI (cm σ e)) (nI (cm σ l)) (bI (exq (Dr σ e l) k)) (bI (exq (Db σ e l) k)) (bI (exq (Cf σ (cm σ l) (cm σ e) p (stf σ (l - 1)) (stf σ l)) k)) (nI k) := by
  have hM := hw.2.1
  have hC := hw.2.2.2.1
  obtain ⟨e1, -⟩ := hw.com h1 (show e ≤ C by omega)
  obtain ⟨f1, -⟩ := hw.com (show 1 ≤ l by omega) hl
  intro n
  induction n with
  | zero =>
    intro k hk
    have q : k = 32 := by omega
    subst q
    rw [bv_X6_dependencyOf_27]
    simp only [bv_X6_dependencyOf_197, bv_X6_dependencyOf_207, bv_X6_dependencyOf_218]
    refine ⟨fun _ => ⟨fun g1 => ⟨fun g2 => ⟨fun g3 => ?_, fun g3 => ?_⟩, fun g2 => ⟨fun g3 => ?_, fun g3 => ?_⟩⟩, fun g1 => ⟨fun g2 => ⟨fun g3 => ?_, fun g3 => ?_⟩, fun g2 => ⟨fun g3 => ?_, fun g3 => ?_⟩⟩⟩, fun q => absurd (Int32.le_refl _) q⟩
    · rw [g1, if_pos g2, if_pos g3] at h; exact h
    · rw [g1, if_pos g2, if_neg g3] at h; exact h
    · rw [g1, if_neg g2, if_pos g3] at h; exact h
    · rw [g1, if_neg g2, if_neg g3] at h; exact h
    · rw [bI_1 (bI_nz.mp g1), if_pos g2, if_pos g3] at h; exact h
    · rw [bI_1 (bI_nz.mp g1), if_pos g2, if_neg g3] at h; exact h
    · rw [bI_1 (bI_nz.mp g1), if_neg g2, if_pos g3] at h; exact h
    · rw [bI_1 (bI_nz.mp g1), if_neg g2, if_neg g3] at h; exact h
  | succ n ih =>
    intro k hk
    rw [bv_X6_dependencyOf_27]
    dsimp only
    rw [mul32, ix_nI (by omega)]
    have hs := ih (k + 1) (by omega)
    refine ⟨fun q => absurd q (i32_lt32 (by omega)), fun _ => rf_hasWritten hw (by omega) hl (by omega) ?_⟩
    have st2 : ∀ s0 s1 : Int32, s0 = bI (exq (Dr σ e l) (k + 1)) → s1 = bI (exq (Db σ e l) (k + 1)) → bv_X6_dependencyOf_118 (bv_X6_dependencyOf_27 P (n + 1)) P σ (nI e) (nI l) (nI (cm σ e)) (nI (cm σ l)) s0 (bI (exq (Db σ e l) k)) (bI (exq (Cf σ (cm σ l) (cm σ e) p (stf σ (l - 1)) (stf σ l)) k)) (nI k) (bI (Wk σ (cm σ l) k)) s1 := fun s0 s1 hs0 hs1 => by
      rw [← hs0, ← hs1] at hs
      unfold bv_X6_dependencyOf_118 bv_X6_dependencyOf_174 bv_X6_dependencyOf_178 bv_X6_dependencyOf_179
      rw [mul32, ix_nI (by omega)]
      refine ⟨fun g v hv => ?_, fun g => ⟨fun g2 v hv => ?_, fun g2 => ⟨vp_in_nI (by omega) (by omega), fun g3 v hv => ?_, fun g3 => ?_⟩⟩⟩
      · rw [ex1 g] at hs
        rw [hv, nI_1]; exact hs
      · rw [ex3 g (fun r => bI_z.mp g2 r.1)] at hs
        rw [hv, nI_1]; exact hs
      · rw [ex2 (P := Cf σ (cm σ l) (cm σ e) p (stf σ (l - 1)) (stf σ l)) ⟨bI_nz.mp g2, Or.inl g3⟩] at hs
        rw [hv, nI_1]; exact hs
      · rw [show nI l - 1 = nI (l - 1) from nI_m1 (by omega)]
        refine rf_stored (by omega) (by omega) (rf_stored (by omega) (by omega) (rf_touchesAny (by omega) hp ep ⟨fun g4 v hv => ?_, fun g4 v hv => ?_⟩))
        · rw [ex3 g (fun r => r.2.elim (fun x => x g3) (bI_z.mp g4))] at hs
          rw [hv, nI_1]; exact hs
        · rw [ex2 (P := Cf σ (cm σ l) (cm σ e) p (stf σ (l - 1)) (stf σ l)) ⟨bI_nz.mp g2, Or.inr (bI_nz.mp g4)⟩] at hs
          rw [hv, nI_1]; exact hs
    have st1 : ∀ s0 : Int32, s0 = bI (exq (Dr σ e l) (k + 1)) → bv_X6_dependencyOf_91 (bv_X6_dependencyOf_27 P (n + 1)) P σ (nI e) (nI l) (nI (cm σ e)) (nI (cm σ l)) (bI (exq (Dr σ e l) k)) (bI (exq (Db σ e l) k)) (bI (exq (Cf σ (cm σ l) (cm σ e) p (stf σ (l - 1)) (stf σ l)) k)) (nI k) (bI (Wk σ (cm σ l) k)) s0 := fun s0 hs0 => by
      unfold bv_X6_dependencyOf_91 bv_X6_dependencyOf_113 bv_X6_dependencyOf_117
      exact ⟨fun g => st2 s0 1 hs0 (ex1 g).symm, fun g => ⟨fun g2 => st2 s0 0 hs0 (ex3 g (fun r => bI_z.mp g2 r.1)).symm, fun g2 => rf_hasWritten hw h1 (by omega) (by omega) ⟨fun g3 => st2 s0 0 hs0 (ex3 g (fun r => bI_z.mp g3 r.2)).symm, fun g3 => st2 s0 1 hs0 (ex2 (P := Db σ e l) ⟨bI_nz.mp g2, bI_nz.mp g3⟩).symm⟩⟩⟩
    unfold bv_X6_dependencyOf_86 bv_X6_dependencyOf_90
    refine ⟨fun g => st1 1 (ex1 g).symm, fun g => rf_hasWritten hw h1 (by omega) (by omega) ⟨fun g2 => st1 0 (ex3 g (fun r => bI_z.mp g2 r.1)).symm, fun g2 => ⟨vp_in_nI (by omega) (by omega), fun g3 => st1 0 (ex3 g (fun r => r.2.1 g3)).symm, fun g3 => ?_⟩⟩⟩
    rw [show nI l = nI (l - 1 + 1) by congr 1; omega]
    refine rf_lastWriter hw (by omega) (by omega) ?_
    rw [show nI (l - 1 + 1) = nI l by congr 1; omega]
    have hle := LW_le σ k (l - 1)
    exact ⟨fun g4 => st1 0 (ex3 g (fun r => g4 (by rw [r.2.2]))).symm, fun g4 => st1 1 (ex2 (P := Dr σ e l) ⟨bI_nz.mp g2, g3, (nI_eq (by omega) (by omega)).mp g4⟩).symm⟩
theorem rf_dependencyOf (hw : WF σ M C N) (po : PO σ M) {e l : Nat} (h1 : 1 ≤ e) (hel : e < l) (hl : l ≤ C) {P : Int32 → Sg → Prop} (h : P (lkV σ e l) σ) : v_X6_dependencyOf σ (nI e) (nI l) P := by
  have hM := hw.2.1
  have hC := hw.2.2.2.1
  obtain ⟨e1, e2, -⟩ := hw.com h1 (show e ≤ C by omega)
  obtain ⟨f1, f2, -, -, f5⟩ := hw.com (show 1 ≤ l by omega) hl
  obtain ⟨z, h24, hz, hz2⟩ := hw.sz e1
  unfold v_X6_dependencyOf
  rw [ix_nI (by omega), ix_nI (by omega), e2, f2]
  refine ⟨vp_in_nI (by omega) (by omega), fun v2 hv2 => ⟨vp_in_nI (by omega) (by omega), fun v4 hv4 => ⟨33, ?_⟩⟩⟩
  rw [hv2, hv4]
  have a1 : exq (Dr σ e l) 32 ↔ RF σ e l := exq_c (fun k hk => by
    constructor
    · rintro ⟨r1, r2, r3⟩
      refine ⟨r2, r1, fun b q1 q2 => (LW_eq h1 r1 (show e ≤ l - 1 by omega)).mp r3 b q1 (by omega)⟩
    · rintro ⟨r1, r2, r3⟩
      exact ⟨r2, r1, (LW_eq h1 r2 (show e ≤ l - 1 by omega)).mpr (fun b q1 q2 => r3 b q1 (by omega))⟩)
  have a2 : exq (Db σ e l) 32 ↔ WW σ e l := exq_c (fun k hk => and_comm)
  have a3 : exq (Cf σ (cm σ l) (cm σ e) (cP σ (cm σ e) z) (stf σ (l - 1)) (stf σ l)) 32 ↔ Hit σ (cm σ e) (cm σ l) (stf σ (l - 1)) := cf_hit po e1 hz h24 f5
  unfold lkV at h
  rw [← bI_c a1, ← bI_c a2, ← bI_c a3] at h
  have := rf_dep_loop hw h1 hel hl (Nat.le_trans (cP_le σ _ z) h24) hz2 h 32 0 (by omega)
  rw [bI_0 exq_0, bI_0 exq_0, bI_0 exq_0] at this
  exact this
theorem rf_isCommit (hw : WF σ M C N) {a : Int32} {P : Int32 → Sg → Prop} (h1 : ∀ c, 1 ≤ c → c ≤ C → a = nI c → P 1 σ) (h0 : ¬ (1 ≤ a ∧ a ≤ nI C) → P 0 σ) : v_X6_isCommit σ a P := by
  have hC := hw.2.2.2.1
  unfold v_X6_isCommit
  rw [hw.2.2.1]
  refine rf_isIn (fun q => ⟨zb1, ?_⟩) (fun q => ⟨zb0, h0 q⟩)
  obtain ⟨c, c1, c2, c3⟩ := (com_nI (z := 1) hC (by omega)).mp q
  exact h1 c c1 c2 c3
end DEP
theorem sp_dependency : Sp_dependency := by
  intro S l1 l2 l3 l4 loc ow σ M C N x0 x1 post h hp
  have h : Mid S l1 l2 l3 l4 loc ow σ σ M C N := h
  have hC := h.C60
  obtain ⟨a1, a2, a3⟩ := h.his
  have hw := h.wf
  have no : ∀ {a : Int32}, (¬ (nI 1 ≤ a ∧ a ≤ nI C)) → ∀ {c : Nat}, 1 ≤ c → c ≤ C → ¬ a = nI c := fun {a} q {c} c1 c2 e => q ((com_nI (z := 1) hC (by omega)).mpr ⟨c, c1, c2, e⟩)
  have fin1 : bv_X6_dependency_31 (fun r2 σ2 => eqv σ2 σ ∧ σ2.1 0 = 1 ∧ ((1 : Int32) = 0 → r2 = 0)) σ x0 x1 1 := by
    unfold bv_X6_dependency_31 bv_X6_dependency_51
    intro σ1 e1
    rw [e1]
    exact ⟨fun _ => ⟨eqv.th σ 1, rfl, fun q => absurd q ne10⟩, fun q => absurd q ne10⟩
  unfold w_L_dependency w_X5_dependency
  refine ⟨h.k1, h.k1, cl_requireCommit h (z := 1) (by omega) (fun e e1 eC ee => ⟨h.k1, cl_requireCommit h (z := 1) (by omega) (fun l f1 fC ef => ⟨fun hlt => ?_, fun hlt => Or.inr ⟨rfl, hp 2 S σ 0 ?_ ⟨loc, ow, M, C, N, h⟩ (fun q => absurd q ne20)⟩⟩) (fun hx => Or.inl ⟨rfl, hp 1 S σ 0 ?_ ⟨loc, ow, M, C, N, h⟩ (fun q => absurd q ne10)⟩)⟩) (fun hx => Or.inl ⟨rfl, hp 1 S σ 0 ?_ ⟨loc, ow, M, C, N, h⟩ (fun q => absurd q ne10)⟩)⟩
  · rw [a1, ee, ef]
    have hel : e < l := by
      rw [ee, ef, nI_ltI (by omega) (by omega)] at hlt
      exact hlt
    refine ⟨h.k1, a2, cl_link h e1 hel fC (wr_ret h (fun S6 h6 hs6 => hp 0 S6 σ _ ?_ ⟨loc, ow, M, C, N, h6⟩ (fun _ => hs6)))⟩
    unfold v_X6_dependency bv_X6_dependency_31 bv_X6_dependency_51
    refine rf_isCommit hw (fun _ _ _ _ => ⟨fun q => absurd q ne10, fun _ => rf_isCommit hw (fun _ _ _ _ => ⟨fun _ => ⟨fun _ σ1 q1 => ?_, fun q => absurd hlt q⟩, fun q => absurd q ne10⟩) (fun q => absurd ef (no q f1 fC))⟩) (fun q => absurd ee (no q e1 eC))
    rw [q1, ee, ef]
    refine ⟨fun q => absurd rfl q, fun _ => rf_dependencyOf (wf_eqv (eqv.th σ 0) hw) (PO_2 (σ' := sF σ 0 0) (σ := σ) rfl h.po) e1 hel fC ⟨eqv.th σ 0, rfl, fun _ => ?_⟩⟩
    rw [lkV_2 (σ' := sF σ 0 0) (σ := σ) rfl]
  · unfold v_X6_dependency bv_X6_dependency_31 bv_X6_dependency_51
    refine rf_isCommit hw (fun _ _ _ _ => ⟨fun q => absurd q ne10, fun _ => rf_isCommit hw (fun _ _ _ _ => ⟨fun _ => ⟨fun q => absurd q hlt, fun _ σ1 q1 => ?_⟩, fun q => absurd q ne10⟩) (fun q => absurd ef (no q f1 fC))⟩) (fun q => absurd ee (no q e1 eC))
    rw [q1]
    exact ⟨fun _ => ⟨eqv.th σ 2, rfl, fun q => absurd q ne20⟩, fun q => absurd q ne20⟩
  · unfold v_X6_dependency bv_X6_dependency_17
    exact rf_isCommit hw (fun _ _ _ _ => ⟨fun q => absurd q ne10, fun _ => rf_isCommit hw (fun c c1 c2 ce => absurd ce (no hx c1 c2)) (fun _ => ⟨fun q => absurd rfl q, fun _ => fin1⟩)⟩) (fun q => absurd ee (no q e1 eC))
  · unfold v_X6_dependency bv_X6_dependency_17
    exact rf_isCommit hw (fun c c1 c2 ce => absurd ce (no hx c1 c2)) (fun _ => ⟨fun _ => fin1, fun q => absurd rfl q⟩)
/-! longestChain -/
noncomputable def chI (D : Nat → Nat → Int32) (l : Nat) : Nat → (Nat → Int32) → Nat → Int32
  | 0, f => f
  | e + 1, f => if ¬ (chI D l e f (e + 1) < chI D l e f l) ∧ ¬ D (e + 1) l = 0 then (fun j => if j = l then chI D l e f (e + 1) + 1 else chI D l e f j) else chI D l e f
noncomputable def chO (D : Nat → Nat → Int32) : Nat → (Nat → Int32) × Int32
  | 0 => (fun _ => 0, 0)
  | l + 1 => (chI D (l + 1) l (fun j => if j = l + 1 then 1 else (chO D l).1 j), if (chO D l).2 < chI D (l + 1) l (fun j => if j = l + 1 then 1 else (chO D l).1 j) (l + 1) then chI D (l + 1) l (fun j => if j = l + 1 then 1 else (chO D l).1 j) (l + 1) else (chO D l).2)
/-- small numbers in the first l places -/
def chB (l : Nat) (f : Nat → Int32) : Prop := ∀ j, 1 ≤ j → j ≤ l → ∃ m : Nat, m ≤ j ∧ f j = nI m
theorem chI_B {D : Nat → Nat → Int32} {l : Nat} (hl : l < 1000) {f : Nat → Int32} (h : chB l f) : ∀ e, e < l → chB l (chI D l e f)
  | 0, _ => h
  | e + 1, he => by
    have ih := chI_B (D := D) hl h e (by omega)
    rw [chI]
    split
    · intro j h1 h2
      dsimp only
      by_cases q : j = l
      · rw [if_pos q]
        obtain ⟨m, hm, em⟩ := ih (e + 1) (by omega) (by omega)
        exact ⟨m + 1, by omega, by rw [em, nI_1]⟩
      · rw [if_neg q]; exact ih j h1 h2
    · exact ih
theorem chO_B {D : Nat → Nat → Int32} : ∀ l, l < 1000 → chB l (chO D l).1
  | 0, _ => fun j h1 h2 => by omega
  | l + 1, hl => by
    refine chI_B hl (fun j h1 h2 => ?_) l (by omega)
    by_cases q : j = l + 1
    · rw [if_pos q]; exact ⟨1, by omega, rfl⟩
    · rw [if_neg q]; exact chO_B l (by omega) j h1 (by omega)
section LC
variable {S : MS} {l1 l2 l3 l4 : Nat} {loc ow : Nat → Nat} {σ σ1 : Sg} {M C N : Nat}
theorem Mid.chr (h : Mid S l1 l2 l3 l4 loc ow σ σ1 M C N) : sR S l1 5 = loc 7 ∧ kT S (loc 7) = 9 ∧ kL S (loc 7) = 61 := by
  obtain ⟨-, -, -, -, -, -, -, -, -, a, b, -, -, -, -, -, -, -, -, -, -, -, -, -, e, -⟩ := h.st
  rw [← h.1]
  exact ⟨e, a, b⟩
/-- the class's scratch rows -/
theorem mid_scr (h : Mid S l1 l2 l3 l4 loc ow σ σ1 M C N) {r k : Nat} {v : Int32} (hr : r = 6 ∨ r = 7) : Mid (pI S (loc r) k v) l1 l2 l3 l4 loc ow σ σ1 M C N := by
  have u : Us σ1 M N r := us_s (by omega) (by omega)
  refine mid_putI h u (by omega) h.wf (fun q hq => hq) (rc_same h.M80 h.C60 h.wf.2.2.2.2.2.1 ⟨fun q hq hlt h6 h7 => sm_putI h u q hq (by omega), rfl, rfl⟩ h.rc)
theorem cl_lci (D : Nat → Nat → Int32) {KH : MS → Nat → Int32 → Int32 → Prop} {post : Int32 → MS → Prop} {l : Nat} {lg : Int32} {f : Nat → Int32} (h1 : 1 ≤ l) (hl : l ≤ C) (hD : ∀ e, 1 ≤ e → e < l → D e l = lkV σ1 e l) (hk : ∀ S', Mid S' l1 l2 l3 l4 loc ow σ σ1 M C N → (∀ j, 1 ≤ j → j ≤ l → sI S' (loc 7) j = chI D l (l - 1) f j) → KH S' l1 (if lg < chI D l (l - 1) f l then chI D l (l - 1) f l else lg) (nI (l + 1))) : ∀ n e (S : MS), e + n = l - 1 → Mid S l1 l2 l3 l4 loc ow σ σ1 M C N → (∀ j, 1 ≤ j → j ≤ l → sI S (loc 7) j = chI D l e f j) → b_X5_longestChain_24 KH post (n + 1) S l1 lg (nI l) (nI (e + 1)) := by
  intro n
  induction n with
  | zero =>
    intro e S he h hr
    have hC := h.C60
    have q : e = l - 1 := by omega
    obtain ⟨c1, c2, c3⟩ := h.chr
    rw [b_X5_longestChain_24]
    dsimp only
    rw [c1, c3, ix_nI (by omega), hr l h1 (Nat.le_refl l), q]
    rw [q] at hr
    refine ⟨fun _ => ⟨h.k1, c2, vp_in_nI (by omega) (by omega), fun v4 hv4 v5 hv5 => ?_⟩, fun g => absurd (nI_le (by omega) (by omega)) g⟩
    rw [hv4, hv5, nI_1]
    exact hk S h hr
  | succ n ih =>
    intro e S he h hr
    have hC := h.C60
    obtain ⟨c1, c2, c3⟩ := h.chr
    obtain ⟨a1, a2, a3⟩ := h.his
    rw [b_X5_longestChain_24]
    dsimp only
    simp only [b_X5_longestChain_70]
    rw [c1, c3, ix_nI (by omega), ix_nI (by omega), hr l h1 (Nat.le_refl l), hr (e + 1) (by omega) (by omega), a1]
    have cc : chI D l (e + 1) f = if ¬ (chI D l e f (e + 1) < chI D l e f l) ∧ ¬ D (e + 1) l = 0 then (fun j => if j = l then chI D l e f (e + 1) + 1 else chI D l e f j) else chI D l e f := by rw [chI]
    refine ⟨fun g => absurd g (nI_ge (by omega) (by omega)), fun _ => ⟨h.k1, c2, vp_in_nI (by omega) (by omega), vp_in_nI (by omega) (by omega), fun g v hv => ?_, fun g => ⟨a2, cl_link h (by omega) (by omega) hl ⟨fun g2 v hv => ?_, fun g2 => ?_⟩⟩⟩⟩
    · rw [hv, nI_1]
      refine ih (e + 1) S (by omega) h (fun j q1 q2 => ?_)
      rw [cc, if_neg (fun r => r.1 g)]
      exact hr j q1 q2
    · rw [hv, nI_1]
      refine ih (e + 1) S (by omega) h (fun j q1 q2 => ?_)
      rw [cc, if_neg (fun r => r.2 (by rw [hD (e + 1) (by omega) (by omega)]; exact g2))]
      exact hr j q1 q2
    · rw [c1, c3, hr (e + 1) (by omega) (by omega)]
      refine ⟨h.k1, c2, vp_in_nI (by omega) (by omega), vp_in_nI (by omega) (by omega), fun S17 h17 v hv => ?_⟩
      rw [hv, nI_1, h17]
      refine ih (e + 1) _ (by omega) (mid_scr h (Or.inr rfl)) (fun j q1 q2 => ?_)
      have cd : ¬ (chI D l e f (e + 1) < chI D l e f l) ∧ ¬ D (e + 1) l = 0 := ⟨g, by rw [hD (e + 1) (by omega) (by omega)]; exact g2⟩
      rw [cc, if_pos cd, sI_pI, if_pos rfl]
      by_cases q : j = l
      · rw [if_pos q, if_pos q]
      · rw [if_neg q, if_neg q]; exact hr j q1 q2
theorem cl_lco (D : Nat → Nat → Int32) {post : Int32 → MS → Prop} (hD : ∀ e l, 1 ≤ e → e < l → l ≤ C → D e l = lkV σ1 e l) (hp : ∀ S', Mid S' l1 l2 l3 l4 loc ow σ σ1 M C N → post (chO D C).2 S') : ∀ n l (S : MS), l + n = C → Mid S l1 l2 l3 l4 loc ow σ σ1 M C N → (∀ j, 1 ≤ j → j ≤ l → sI S (loc 7) j = (chO D l).1 j) → b_X5_longestChain_4 post (n + 1) S l1 (chO D l).2 (nI (l + 1)) := by
  intro n
  induction n with
  | zero =>
    intro l S hl h hr
    have hC := h.C60
    obtain ⟨a1, a2, a3⟩ := h.his
    have q : l = C := by omega
    subst q
    rw [b_X5_longestChain_4]
    dsimp only
    rw [a1, a3]
    exact ⟨h.k1, a2, fun _ => hp S h, fun g => absurd (nI_lt (by omega) (by omega)) g⟩
  | succ n ih =>
    intro l S hl h hr
    have hC := h.C60
    obtain ⟨a1, a2, a3⟩ := h.his
    obtain ⟨c1, c2, c3⟩ := h.chr
    rw [b_X5_longestChain_4]
    dsimp only
    rw [a1, a3, c1, c3, ix_nI (by omega)]
    refine ⟨h.k1, a2, fun g => absurd g (nI_nl (by omega) (by omega)), fun _ => ⟨c2, vp_in_nI (by omega) (by omega), fun S5 h5 => ⟨l + 1, ?_⟩⟩⟩
    rw [h5]
    refine cl_lci D (l := l + 1) (f := fun j => if j = l + 1 then 1 else (chO D l).1 j) (by omega) (by omega) (fun e q1 q2 => hD e (l + 1) q1 q2 (by omega)) (fun S' h' hr' => ?_) l 0 _ (by omega) (mid_scr h (Or.inr rfl)) (fun j q1 q2 => ?_)
    · exact ih (l + 1) S' (by omega) h' hr'
    · rw [sI_pI, if_pos rfl, chI]
      by_cases q : j = l + 1
      · rw [if_pos q, if_pos q]
      · rw [if_neg q, if_neg q]; exact hr j q1 (by omega)
end LC
theorem chI_le {D : Nat → Nat → Int32} {l e : Nat} {f : Nat → Int32} (hl : l < 1000) (hf : chB l f) (he : e + 1 < l) : (chI D l e f (e + 1) + 1 ≤ chI D l e f l) ↔ chI D l e f (e + 1) < chI D l e f l := by
  obtain ⟨m, hm, em⟩ := chI_B (D := D) hl hf e (by omega) (e + 1) (by omega) (by omega)
  obtain ⟨m2, hm2, em2⟩ := chI_B (D := D) hl hf e (by omega) l (by omega) (by omega)
  rw [em, em2, nI_1, nI_leI (by omega) (by omega), nI_ltI (by omega) (by omega)]
  exact Iff.rfl
/-- the reference's row may change in the scratch alone -/
def sc22 (σ' σ : Sg) : Prop := σ'.1 = σ.1 ∧ ∀ k, k ≠ 22 → σ'.2 k = σ.2 k
theorem sc22.eqv {σ' σ : Sg} (h : sc22 σ' σ) : eqv σ' σ := ⟨⟨by rw [h.1], by rw [h.1], by rw [h.1], by rw [h.1], by rw [h.1], by rw [h.1], by rw [h.1], by rw [h.1], by rw [h.1]⟩, h.2 _ (by decide), h.2 _ (by decide), h.2 _ (by decide), h.2 _ (by decide), h.2 _ (by decide), h.2 _ (by decide), h.2 _ (by decide), h.2 _ (by decide), h.2 _ (by decide), h.2 _ (by decide), h.2 _ (by decide), h.2 _ (by decide), h.2 _ (by decide), h.2 _ (by decide), h.2 _ (by decide)⟩
section LCR
variable {σ0 : Sg} {M C N : Nat}
theorem Hit_e {σ' σ : Sg} (h : eqv σ' σ) (t w : Nat) (bf : Nat → Int32) : Hit σ' t w bf = Hit σ t w bf := by
  have hc := cP_eqv h
  obtain ⟨-, b2, b3, b4, b5, b6, b7, b8, b9, b10, b11, b12, b15, b16, b20, b24⟩ := h
  simp only [Hit, TB, Tc, Wk, Rk, isPr, hc, b7, b8, b9, b10, b11]
theorem cm_e {σ' σ : Sg} (h : eqv σ' σ) (c : Nat) : cm σ' c = cm σ c := by
  obtain ⟨-, b2, b3, b4, b5, b6, b7, b8, b9, b10, b11, b12, b15, b16, b20, b24⟩ := h
  unfold cm; rw [b16]
theorem stf_e {σ' σ : Sg} (h : eqv σ' σ) (c : Nat) : stf σ' c = stf σ c := by
  obtain ⟨-, b2, b3, b4, b5, b6, b7, b8, b9, b10, b11, b12, b15, b16, b20, b24⟩ := h
  unfold stf; rw [b15]
theorem Wk_e {σ' σ : Sg} (h : eqv σ' σ) (t k : Nat) : Wk σ' t k = Wk σ t k := by
  obtain ⟨-, b2, b3, b4, b5, b6, b7, b8, b9, b10, b11, b12, b15, b16, b20, b24⟩ := h
  unfold Wk; rw [b10]
theorem Rk_e {σ' σ : Sg} (h : eqv σ' σ) (t k : Nat) : Rk σ' t k = Rk σ t k := by
  obtain ⟨-, b2, b3, b4, b5, b6, b7, b8, b9, b10, b11, b12, b15, b16, b20, b24⟩ := h
  unfold Rk; rw [b9]
theorem RF_e {σ' σ : Sg} (h : eqv σ' σ) (e l : Nat) : RF σ' e l = RF σ e l := by
  simp only [RF, Wk_e h, Rk_e h, cm_e h]
theorem WW_e {σ' σ : Sg} (h : eqv σ' σ) (e l : Nat) : WW σ' e l = WW σ e l := by
  simp only [WW, Wk_e h, cm_e h]
theorem lkV_e {σ' σ : Sg} (h : eqv σ' σ) (e l : Nat) : lkV σ' e l = lkV σ e l := by
  unfold lkV
  rw [RF_e h, WW_e h, Hit_e h, cm_e h, cm_e h, stf_e h]
theorem PO_e {σ' σ : Sg} (h : eqv σ' σ) {M : Nat} (hp : PO σ M) : PO σ' M := by
  have hc := cP_eqv h
  obtain ⟨-, b2, b3, b4, b5, b6, b7, b8, b9, b10, b11, b12, b15, b16, b20, b24⟩ := h
  simp only [PO, isPr, hc, b7, b8, b11] at hp ⊢
  exact hp
theorem rf_lci (hw : WF σ0 M C N) (po : PO σ0 M) (D : Nat → Nat → Int32) {KV : Sg → Int32 → Int32 → Prop} {P : Int32 → Sg → Prop} {l : Nat} {lg : Int32} {f : Nat → Int32} (h1 : 1 ≤ l) (hl : l ≤ C) (hf : chB l f) (hD : ∀ e, 1 ≤ e → e < l → D e l = lkV σ0 e l) (hk : ∀ σ, sc22 σ σ0 → (∀ j, 1 ≤ j → j ≤ l → σ.2 22 j = chI D l (l - 1) f j) → KV σ (if lg < chI D l (l - 1) f l then chI D l (l - 1) f l else lg) (nI (l + 1))) : ∀ n e (σ : Sg), e + n = l - 1 → sc22 σ σ0 → (∀ j, 1 ≤ j → j ≤ l → σ.2 22 j = chI D l e f j) → bv_X6_longestChain_26 KV P (n + 1) σ lg (nI l) (nI (e + 1)) := by
  have hC := hw.2.2.2.1
  intro n
  induction n with
  | zero =>
    intro e σ he hs hr
    have q : e = l - 1 := by omega
    rw [bv_X6_longestChain_26]
    dsimp only
    rw [ix_nI (by omega), hr l h1 (Nat.le_refl l), q]
    rw [q] at hr
    refine ⟨fun _ => ⟨vp_in_nI (by omega) (by omega), fun v4 hv4 v5 hv5 => ?_⟩, fun g => absurd (nI_le (by omega) (by omega)) g⟩
    rw [hv4, hv5, nI_1]
    exact hk σ hs hr
  | succ n ih =>
    intro e σ he hs hr
    rw [bv_X6_longestChain_26]
    dsimp only
    simp only [bv_X6_longestChain_71]
    rw [ix_nI (by omega), ix_nI (by omega), hr l h1 (Nat.le_refl l), hr (e + 1) (by omega) (by omega)]
    have cc : chI D l (e + 1) f = if ¬ (chI D l e f (e + 1) < chI D l e f l) ∧ ¬ D (e + 1) l = 0 then (fun j => if j = l then chI D l e f (e + 1) + 1 else chI D l e f j) else chI D l e f := by rw [chI]
    have cl := chI_le (D := D) (l := l) (e := e) (f := f) (by omega) hf (by omega)
    refine ⟨fun g => absurd g (nI_ge (by omega) (by omega)), fun _ => ⟨vp_in_nI (by omega) (by omega), vp_in_nI (by omega) (by omega), fun g v hv => ?_, fun g => rf_dependencyOf (wf_eqv hs.eqv hw) (PO_e hs.eqv po) (by omega) (by omega) hl ⟨fun g2 v hv => ?_, fun g2 => ⟨vp_in_nI (by omega) (by omega), vp_in_nI (by omega) (by omega), fun σ9 h9 v hv => ?_⟩⟩⟩⟩
    · rw [hv, nI_1]
      refine ih (e + 1) σ (by omega) hs (fun j q1 q2 => ?_)
      rw [cc, if_neg (fun r => r.1 (cl.mp g))]
      exact hr j q1 q2
    · rw [hv, nI_1]
      refine ih (e + 1) σ (by omega) hs (fun j q1 q2 => ?_)
      rw [lkV_e hs.eqv] at g2
      rw [cc, if_neg (fun r => r.2 (by rw [hD (e + 1) (by omega) (by omega)]; exact g2))]
      exact hr j q1 q2
    · rw [lkV_e hs.eqv] at g2
      rw [hv, nI_1, h9]
      refine ih (e + 1) _ (by omega) ⟨hs.1, fun k hk => ?_⟩ (fun j q1 q2 => ?_)
      · rw [← hs.2 k hk]
        exact u2_ne _ _ _ hk
      · have cd : ¬ (chI D l e f (e + 1) < chI D l e f l) ∧ ¬ D (e + 1) l = 0 := ⟨fun r => g (cl.mpr r), by rw [hD (e + 1) (by omega) (by omega)]; exact g2⟩
        rw [cc, if_pos cd]
        simp only [sA, u2, if_pos]
        by_cases q : j = l
        · rw [if_pos q, if_pos q, hr (e + 1) (by omega) (by omega)]
        · rw [if_neg q, if_neg q]; exact hr j q1 q2
theorem rf_lco (hw : WF σ0 M C N) (po : PO σ0 M) (D : Nat → Nat → Int32) {P : Int32 → Sg → Prop} (hD : ∀ e l, 1 ≤ e → e < l → l ≤ C → D e l = lkV σ0 e l) (hp : ∀ σ, sc22 σ σ0 → P (chO D C).2 σ) : ∀ n l (σ : Sg), l + n = C → sc22 σ σ0 → (∀ j, 1 ≤ j → j ≤ l → σ.2 22 j = (chO D l).1 j) → bv_X6_longestChain_9 P (n + 1) σ (chO D l).2 (nI (l + 1)) := by
  have hC := hw.2.2.2.1
  intro n
  induction n with
  | zero =>
    intro l σ hl hs hr
    have q : l = C := by omega
    subst q
    rw [bv_X6_longestChain_9]
    dsimp only
    rw [hs.1, hw.2.2.1]
    exact ⟨fun _ => hp σ hs, fun g => absurd (nI_lt (by omega) (by omega)) g⟩
  | succ n ih =>
    intro l σ hl hs hr
    rw [bv_X6_longestChain_9]
    dsimp only
    rw [hs.1, hw.2.2.1, ix_nI (by omega)]
    refine ⟨fun g => absurd g (nI_nl (by omega) (by omega)), fun _ => ⟨vp_in_nI (by omega) (by omega), fun σ5 h5 => ⟨l + 1, ?_⟩⟩⟩
    rw [h5]
    refine rf_lci hw po D (l := l + 1) (f := fun j => if j = l + 1 then 1 else (chO D l).1 j) (by omega) (by omega) (fun j q1 q2 => ?_) (fun e q1 q2 => hD e (l + 1) q1 q2 (by omega)) (fun σ' h' hr' => ?_) l 0 _ (by omega) ⟨hs.1, fun k hk => ?_⟩ (fun j q1 q2 => ?_)
    · dsimp only
      by_cases q : j = l + 1
      · rw [if_pos q]; exact ⟨1, by omega, rfl⟩
      · rw [if_neg q]; exact chO_B l (by omega) j q1 (by omega)
    · exact ih (l + 1) σ' (by omega) h' hr'
    · rw [← hs.2 k hk]
      exact u2_ne _ _ _ hk
    · rw [chI]
      simp only [sA, u2, if_pos]
      by_cases q : j = l + 1
      · rw [if_pos q, if_pos q]
      · rw [if_neg q, if_neg q]; exact hr j q1 (by omega)
end LCR
theorem sp_longestChain : Sp_longestChain := by
  intro S l1 l2 l3 l4 loc ow σ M C N post h hp
  have h : Mid S l1 l2 l3 l4 loc ow σ σ M C N := h
  refine ⟨C + 1, cl_lco (lkV σ) (fun _ _ _ _ _ => rfl) (fun S' h' => hp _ S' σ ?_ ⟨loc, ow, M, C, N, h'⟩) C 0 S (by omega) h (fun j q1 q2 => by omega)⟩
  unfold v_X6_longestChain
  intro σ1 e1
  rw [e1]
  refine ⟨C + 1, rf_lco (wf_eqv (eqv.th σ 0) h.wf) (PO_e (eqv.th σ 0) h.po) (lkV σ) (fun e l _ _ _ => (lkV_e (eqv.th σ 0) e l).symm) (fun σ2 hs => ⟨hs.eqv.tr (eqv.th σ 0), rfl⟩) C 0 _ (by omega) ⟨rfl, fun _ _ => rfl⟩ (fun j q1 q2 => by omega)⟩
