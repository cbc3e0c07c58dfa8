/-! the parts of a commit -/
theorem isum_nI {P : Nat → Prop} : ∀ n, n ≤ 1000 → ∃ m : Nat, m ≤ n ∧ isum (fun o => bI (P o)) n = nI m ∧ (m = 0 ↔ ¬ exq P n)
  | 0, _ => ⟨0, Nat.le_refl 0, rfl, ⟨fun _ => exq_0, fun _ => rfl⟩⟩
  | n + 1, hn => by
    obtain ⟨m, h1, h2, h3⟩ := isum_nI (P := P) n (by omega)
    rw [isum, h2]
    rcases Classical.em (P n) with q | q
    · refine ⟨m + 1, by omega, by rw [bI_1 q, nI_1], ⟨fun e => by omega, fun e => absurd (exq_s.mpr (Or.inr q)) e⟩⟩
    · refine ⟨m, by omega, by rw [bI_0 q, i32_add0], ⟨fun e r => (exq_s.mp r).elim (h3.mp e) q, fun e => h3.mpr (fun r => e (exq_s.mpr (Or.inl r)))⟩⟩
/-- t loses to one of its rivals -/
def Ls (σ : Sg) (M C t : Nat) : Prop := ¬ σ.1 13 = nI t ∧ ¬ σ.1 18 = 1 ∧ exq (fun o => Riv σ C t o ∧ (σ.1 18 = 2 → ¬ σ.2 7 o ≤ σ.2 7 t)) M
section LSS
variable {S S' : MS} {l1 l2 l3 l4 : Nat} {loc ow : Nat → Nat} {σ σ1 : Sg} {M C N : Nat}
theorem cl_ls_loop (h : Mid S l1 l2 l3 l4 loc ow σ σ1 M C N) {t : Nat} (ht : t < M) {tb : Int32} (htb : ∀ o, o < M → (¬ σ1.2 7 o ≤ tb ↔ (σ1.1 18 = 2 → ¬ σ1.2 7 o ≤ σ1.2 7 t))) {post : Int32 → MS → Prop} (hp : post (bI (exq (fun o => Riv σ1 C t o ∧ (σ1.1 18 = 2 → ¬ σ1.2 7 o ≤ σ1.2 7 t)) M)) S) : ∀ n i, i + n = M → ¬ exq (fun o => Riv σ1 C t o ∧ (σ1.1 18 = 2 → ¬ σ1.2 7 o ≤ σ1.2 7 t)) i → b_X5_losesToRivals_40 post (n + 1) S l1 (loc (200 + t)) tb (nI i) := by
  have hM := h.M80
  obtain ⟨t1, t2, t3⟩ := h.trs
  intro n
  induction n with
  | zero =>
    intro i hi hno
    have e : i = M := by omega
    subst e
    rw [b_X5_losesToRivals_40]
    dsimp only
    rw [h.many]
    exact ⟨h.k1, fun _ => pb0 hp hno, fun q => absurd (Int32.le_refl _) q⟩
  | succ n ih =>
    intro i hi hno
    have hi' : i < M := by omega
    obtain ⟨b1, b2, b3, b4, b5, b6, b7, b8, b9, b10, b11, b12, b13, b14, b15, b16, b17, b18⟩ := h.tx hi'
    rw [b_X5_losesToRivals_40]
    dsimp only
    simp only [b_X5_losesToRivals_82]
    rw [h.many, t1, t3, ix_nI (by omega), b2]
    refine ⟨h.k1, fun q => absurd q (nI_ge hi' (by omega)), fun _ => ⟨t2, vp_in_nI (by omega) (by omega), fun r4 hr4 => ?_⟩⟩
    rw [hr4, b14]
    have go : ¬ (Riv σ1 C t i ∧ (σ1.1 18 = 2 → ¬ σ1.2 7 i ≤ σ1.2 7 t)) → ∀ v : Int32, v = nI i + 1 → b_X5_losesToRivals_40 post (n + 1) S l1 (loc (200 + t)) tb v := fun hn v hv => by
      rw [hv, nI_1]
      exact ih (i + 1) (by omega) (fun r => (exq_s.mp r).elim hno hn)
    exact ⟨fun q => absurd q (h.nz (us_t hi').1), fun _ => ⟨b1, fun g => go (fun r => (htb i hi').mpr r.2 g), fun g => cl_isRival h ht hi' ⟨fun g2 => go (fun r => bI_z.mp g2 r.1), fun g2 => pb1 hp ⟨i, hi', bI_nz.mp g2, (htb i hi').mp g⟩⟩⟩⟩
theorem cl_losesToRivals (h : Mid S l1 l2 l3 l4 loc ow σ σ1 M C N) {t : Nat} (ht : t < M) {post : Int32 → MS → Prop} (hp : post (bI (Ls σ1 M C t)) S) : w_X5_losesToRivals S l1 (loc (200 + t)) post := by
  have hM := h.M80
  obtain ⟨b1, b2, b3, b4, b5, b6, b7, b8, b9, b10, b11, b12, b13, b14, b15, b16, b17, b18⟩ := h.tx ht
  have sc := h.mr.scal
  unfold w_X5_losesToRivals b_X5_losesToRivals_19 b_X5_losesToRivals_37
  rw [sc.2.2.2.2.2.1, sc.2.2.2.1, b12, b14]
  refine ⟨h.k1, b1, fun q => pb0 hp (fun r => r.1 q), fun q => ⟨fun q1 => ⟨fun q2 => ⟨M + 1, ?_⟩, fun q2 => ⟨M + 1, ?_⟩⟩, fun q1 => pb0 hp (fun r => r.2.1 q1)⟩⟩
  · refine cl_ls_loop h ht (fun o ho => ⟨fun _ x => absurd x q2, fun _ x => ?_⟩) (by
      have e : Ls σ1 M C t ↔ exq (fun o => Riv σ1 C t o ∧ (σ1.1 18 = 2 → ¬ σ1.2 7 o ≤ σ1.2 7 t)) M := ⟨fun r => r.2.2, fun r => ⟨q, q1, r⟩⟩
      rw [← bI_c e]; exact hp) M 0 (by omega) exq_0
    obtain ⟨z, h24, hz, -⟩ := h.sz ho
    rw [hz] at x
    have x2 : nI z < 0 := by
      have e1 : (-1 : Int32).toInt = -1 := by decide
      rw [fa_le, e1] at x
      rw [fa_lt]
      have e0 : (0 : Int32).toInt = 0 := by decide
      omega
    exact nI_pos (by omega) x2
  · exact cl_ls_loop h ht (fun o ho => ⟨fun x _ => x, fun x => x q2⟩) (by
      have e : Ls σ1 M C t ↔ exq (fun o => Riv σ1 C t o ∧ (σ1.1 18 = 2 → ¬ σ1.2 7 o ≤ σ1.2 7 t)) M := ⟨fun r => r.2.2, fun r => ⟨q, q1, r⟩⟩
      rw [← bI_c e]; exact hp) M 0 (by omega) exq_0
/-- the ticket's holder forbids it -/
def Bk (σ : Sg) (C t : Nat) : Prop := ∃ u : Nat, u < 80 ∧ σ.1 13 = nI u ∧ Riv σ C t u
theorem cl_isBlocked (h : Mid S l1 l2 l3 l4 loc ow σ σ1 M C N) {t : Nat} (ht : t < M) {post : Int32 → MS → Prop} (hp : post (bI (Bk σ1 C t)) S) : w_X5_isBlocked S l1 (loc (200 + t)) post := by
  have hM := h.M80
  have sc := h.mr.scal
  obtain ⟨t1, t2, t3⟩ := h.trs
  unfold w_X5_isBlocked b_X5_isBlocked_39 b_X5_isBlocked_40
  rw [sc.2.2.2.2.2.1, h.many, t1, t3]
  rcases h.wf.2.2.2.2.2.2.2.2.2.2.1 with q | ⟨u, hu, q1, q2⟩
  · rw [q]
    refine ⟨h.k1, fun _ => ⟨zb0, pb0 hp ?_⟩, fun x => absurd (by decide) x⟩
    rintro ⟨u, hu, e, -⟩
    rw [q] at e
    exact nIm1 (show u < 2 ^ 31 by omega) e.symm
  · rw [q1, ix_nI (by omega), (h.tx hu).2.1]
    refine ⟨h.k1, fun x => absurd x (nI_pos (by omega)), fun _ => ⟨fun x => absurd x (nI_ge hu (by omega)), fun _ => ⟨t2, vp_in_nI (by omega) (by omega), cl_isRival h ht hu ⟨fun g => ⟨zb0, pb0 hp ?_⟩, fun g => ⟨zb1, pb1 hp ⟨u, by omega, q1, bI_nz.mp g⟩⟩⟩⟩⟩⟩
    rintro ⟨u2, hu2, e, r⟩
    rw [q1, nI_eq (by omega) (by omega)] at e
    rw [← e] at r
    exact bI_z.mp g r
/-- why a commit fails: 0, it doesn't -/
def Rs (σ : Sg) (M C N t z : Nat) (r : Int32) : Prop := (σ.1 17 = 0 ∧ ((exq (KS σ C t) 32 ∧ r = 1) ∨ (¬ exq (KS σ C t) 32 ∧ exq (TS σ C t) z ∧ r = 2) ∨ (¬ exq (KS σ C t) 32 ∧ ¬ exq (TS σ C t) z ∧ exq (Vi σ (vwd σ C t)) N ∧ r = 4) ∨ (¬ exq (KS σ C t) 32 ∧ ¬ exq (TS σ C t) z ∧ ¬ exq (Vi σ (vwd σ C t)) N ∧ r = 0))) ∨ (σ.1 17 = 1 ∧ ((Ls σ M C t ∧ r = 3) ∨ (¬ Ls σ M C t ∧ exq (Vi σ (vwd σ C t)) N ∧ r = 4) ∨ (¬ Ls σ M C t ∧ ¬ exq (Vi σ (vwd σ C t)) N ∧ r = 0)))
theorem cl_reason (h : Mid S l1 l2 l3 l4 loc ow σ σ1 M C N) {t z : Nat} (ht : t < M) (hz : σ1.2 7 t = nI z) (h24 : z ≤ 24) {post : Int32 → MS → Prop} (hp : ∀ r S', Rs σ1 M C N t z r → Mid S' l1 l2 l3 l4 loc ow σ σ1 M C N → post r S') : w_X5_reasonToAbort S l1 (loc (200 + t)) post := by
  have sc := h.mr.scal
  obtain ⟨a1, a2, a3⟩ := h.his
  have vio : (exq (Vi σ1 (vwd σ1 C t)) N → ∀ S', Mid S' l1 l2 l3 l4 loc ow σ σ1 M C N → post 4 S') → (¬ exq (Vi σ1 (vwd σ1 C t)) N → ∀ S', Mid S' l1 l2 l3 l4 loc ow σ σ1 M C N → post 0 S') → b_X5_reasonToAbort_35 post S l1 (loc (200 + t)) := fun h4 h0 => by
    unfold b_X5_reasonToAbort_35 b_X5_reasonToAbort_52
    refine ⟨h.k1, cl_viewOf h ht (fun S2 h2 _ v2 => ⟨h2.k1, cl_violates h2 h2.vwr.2.1 h2.vwr.2.2 v2 ⟨fun g => h0 (bI_z.mp g) S2 h2, fun g => h4 (bI_nz.mp g) S2 h2⟩⟩)⟩
  unfold w_X5_reasonToAbort
  rw [sc.2.2.1, a1]
  have pol := h.wf.2.2.2.2.2.2.2.2.2.2.2.1
  refine ⟨h.k1, fun q => ?_, fun q => ⟨a2, ?_⟩⟩
  · have q1 : σ1.1 17 = 1 := pol.elim (fun x => absurd x q) id
    exact cl_losesToRivals h ht ⟨fun g => vio (fun v S' h' => hp 4 S' (Or.inr ⟨q1, Or.inr (Or.inl ⟨bI_z.mp g, v, rfl⟩)⟩) h') (fun v S' h' => hp 0 S' (Or.inr ⟨q1, Or.inr (Or.inr ⟨bI_z.mp g, v, rfl⟩)⟩) h'), fun g => hp 3 S (Or.inr ⟨q1, Or.inl ⟨bI_nz.mp g, rfl⟩⟩) h⟩
  · exact cl_stalenessOf h ht hz h24 (fun g => ⟨fun x => absurd x ne10, fun _ => hp 1 S (Or.inl ⟨q, Or.inl ⟨g, rfl⟩⟩) h⟩) (fun g g2 => ⟨fun x => absurd x ne20, fun _ => hp 2 S (Or.inl ⟨q, Or.inr (Or.inl ⟨g, g2, rfl⟩)⟩) h⟩) (fun g g2 => ⟨fun _ => vio (fun v S' h' => hp 4 S' (Or.inl ⟨q, Or.inr (Or.inr (Or.inl ⟨g, g2, v, rfl⟩))⟩) h') (fun v S' h' => hp 0 S' (Or.inl ⟨q, Or.inr (Or.inr (Or.inr ⟨g, g2, v, rfl⟩))⟩) h'), fun x => absurd rfl x⟩)
end LSS
/-! the rivals end -/
noncomputable def aR (σ : Sg) (C t : Nat) : Nat → Sg
  | 0 => σ
  | i + 1 => @ite Sg (Riv σ C t i) (Classical.propDecidable _) (eW (aR σ C t i) i 3) (aR σ C t i)
theorem eW_row (σ : Sg) (t : Nat) (r : Int32) : (∀ j, j ≠ 13 → (eW σ t r).1 j = σ.1 j) ∧ (∀ j, j ≠ 2 → j ≠ 4 → (eW σ t r).2 j = σ.2 j) ∧ (∀ u, u ≠ t → (eW σ t r).2 2 u = σ.2 2 u) := by
  refine ⟨fun j h => ?_, fun j h2 h4 => ?_, fun u hu => ?_⟩
  · show (if j = 13 then _ else σ.1 j) = _
    rw [if_neg h]
  · show (sA (sA σ 2 t 2) 4 t r).2 j = _
    rw [sA_ne _ h4, sA_ne _ h2]
  · show (sA (sA σ 2 t 2) 4 t r).2 2 u = _
    rw [sA_ne _ (by decide), sA_at, if_neg hu]
theorem aR_row (σ : Sg) (C t : Nat) : ∀ i, (∀ j, j ≠ 13 → (aR σ C t i).1 j = σ.1 j) ∧ (∀ j, j ≠ 2 → j ≠ 4 → (aR σ C t i).2 j = σ.2 j) ∧ (∀ u, i ≤ u ∨ u = t → (aR σ C t i).2 2 u = σ.2 2 u)
  | 0 => ⟨fun _ _ => rfl, fun _ _ _ => rfl, fun _ _ => rfl⟩
  | i + 1 => by
    obtain ⟨a1, a2, a3⟩ := aR_row σ C t i
    rw [aR]
    by_cases q : Riv σ C t i
    · rw [@if_pos _ (Classical.propDecidable _) q]
      obtain ⟨e1, e2, e3⟩ := eW_row (aR σ C t i) i 3
      refine ⟨fun j h => (e1 j h).trans (a1 j h), fun j h2 h4 => (e2 j h2 h4).trans (a2 j h2 h4), fun u hu => ?_⟩
      have hui : u ≠ i := by
        rcases hu with hu | hu
        · omega
        · intro e; exact q.1 (by omega)
      rw [e3 u hui]
      exact a3 u (by omega)
    · rw [@if_neg _ (Classical.propDecidable _) q]
      exact ⟨a1, a2, fun u hu => a3 u (by omega)⟩
theorem Hit_5 {σ' σ : Sg} (h : ∀ j, j ≠ 2 → j ≠ 4 → σ'.2 j = σ.2 j) (t w : Nat) (bf : Nat → Int32) : Hit σ' t w bf = Hit σ t w bf := by
  have hc := cP_8 (h 8 (by decide) (by decide))
  simp only [Hit, TB, Tc, Wk, Rk, isPr, hc, h 7 (by decide) (by decide), h 8 (by decide) (by decide), h 9 (by decide) (by decide), h 10 (by decide) (by decide), h 11 (by decide) (by decide)]
theorem aR_riv {σ : Sg} {C t i : Nat} : Riv (aR σ C t i) C t i ↔ Riv σ C t i := by
  obtain ⟨a1, a2, a3⟩ := aR_row σ C t i
  unfold Riv
  rw [Hit_5 a2, a3 i (Or.inl (Nat.le_refl i))]
  have : stf (aR σ C t i) C = stf σ C := by unfold stf; rw [a2 15 (by decide) (by decide)]
  rw [this]
theorem PO_5 {σ' σ : Sg} {M : Nat} (h : ∀ j, j ≠ 2 → j ≠ 4 → σ'.2 j = σ.2 j) (hp : PO σ M) : PO σ' M := by
  have hc := cP_8 (h 8 (by decide) (by decide))
  simp only [PO, isPr, hc, h 7 (by decide) (by decide), h 8 (by decide) (by decide), h 11 (by decide) (by decide)] at hp ⊢
  exact hp
section ARS
variable {S S' : MS} {l1 l2 l3 l4 : Nat} {loc ow : Nat → Nat} {σ σ1 : Sg} {M C N : Nat}
theorem wf_aR (hw : WF σ1 M C N) {t : Nat} : ∀ i, i ≤ M → WF (aR σ1 C t i) M C N
  | 0, _ => hw
  | i + 1, hi => by
    have ih := wf_aR hw (t := t) i (by omega)
    rw [aR]
    by_cases q : Riv σ1 C t i
    · rw [@if_pos _ (Classical.propDecidable _) q]
      refine wf_eW ih (by omega) (fun c h1 hc e => ?_) 3
      have := (ih.com h1 hc).2.2.1
      rw [e, (aR_row σ1 C t i).2.2 i (Or.inl (Nat.le_refl i)), q.2.1] at this
      exact absurd this (by decide)
    · rw [@if_neg _ (Classical.propDecidable _) q]; exact ih
theorem cl_ar_loop (hw : WF σ1 M C N) {t : Nat} (ht : t < M) {post : MS → Prop} (hp : ∀ S', Mid S' l1 l2 l3 l4 loc ow σ (aR σ1 C t M) M C N → post S') : ∀ n i (S : MS), i + n = M → Mid S l1 l2 l3 l4 loc ow σ (aR σ1 C t i) M C N → b_X5_abortRivals_2 post (n + 1) S l1 (loc (200 + t)) (nI i) := by
  intro n
  induction n with
  | zero =>
    intro i S hi h
    have e : i = M := by omega
    subst e
    rw [b_X5_abortRivals_2]
    dsimp only
    rw [h.many]
    exact ⟨h.k1, fun _ => hp S h, fun q => absurd (Int32.le_refl _) q⟩
  | succ n ih =>
    intro i S hi h
    have hM := h.M80
    have hi' : i < M := by omega
    obtain ⟨t1, t2, t3⟩ := h.trs
    rw [b_X5_abortRivals_2]
    dsimp only
    simp only [b_X5_abortRivals_36]
    rw [h.many, t1, t3, ix_nI (by omega), (h.tx hi').2.1]
    refine ⟨h.k1, fun q => absurd q (nI_ge hi' (by omega)), fun _ => ⟨t2, vp_in_nI (by omega) (by omega), fun r4 hr4 => ?_⟩⟩
    rw [hr4]
    refine ⟨fun q => absurd q (h.nz (us_t hi').1), fun _ => cl_isRival h ht hi' ⟨fun g v hv => ?_, fun g => ⟨h.k1, cl_endInAbort h.mr hi' (fun S8 h8 v hv => ?_)⟩⟩⟩
    · rw [hv, nI_1]
      have q : ¬ Riv σ1 C t i := fun x => bI_z.mp g (aR_riv.mpr x)
      refine ih (i + 1) S (by omega) ?_
      rw [aR, @if_neg _ (Classical.propDecidable _) q]; exact h
    · rw [hv, nI_1]
      have q : Riv σ1 C t i := aR_riv.mp (bI_nz.mp g)
      refine ih (i + 1) S8 (by omega) ?_
      have w := wf_aR hw (t := t) (i + 1) (by omega)
      rw [aR, @if_pos _ (Classical.propDecidable _) q] at w ⊢
      exact h8.mid w
/-! the writes of t over a row, once more, from the cells alone -/
theorem cl_aw2 {T V b t : Nat} {f0 : Nat → Int32} (hTb : T ≠ b) (hVb : V ≠ b) (S0 : MS) (k1 : kT S0 T = 5) (k2 : sR S0 T 4 = V) (k3 : kT S0 V = 9) (k4 : kL S0 V = 32) (ky : ∀ k, k < 32 → (hb (sI S0 T 7) k ↔ Wk σ1 t k) ∧ (Wk σ1 t k → sI S0 V k = σ1.2 10 (32 * t + k))) (hb' : kT S0 b = 9 ∧ kL S0 b = 32) {post : MS → Prop} (hp : ∀ S', (∀ a, a ≠ b → Sm S0 S' a) → S'.1 = S0.1 → (∀ k, k < 32 → sI S' b k = if σ1.2 10 (32 * t + k) = -5000 then f0 k else σ1.2 10 (32 * t + k)) → post S') : ∀ n i (S : MS), i + n = 32 → (∀ a, a ≠ b → Sm S0 S a) → S.1 = S0.1 → (∀ k, k < i → sI S b k = if σ1.2 10 (32 * t + k) = -5000 then f0 k else σ1.2 10 (32 * t + k)) → (∀ k, i ≤ k → k < 32 → sI S b k = f0 k) → b_X4_applyWrites_2 post (n + 1) S T b (nI i) := by
  intro n
  induction n with
  | zero =>
    intro i S hi hsm hk h1 h2
    have e : i = 32 := by omega
    subst e
    rw [b_X4_applyWrites_2]
    exact ⟨fun _ => hp S hsm hk (fun k hk => h1 k hk), fun q => absurd (Int32.le_refl _) q⟩
  | succ n ih =>
    intro i S hi hsm hk h1 h2
    have sT := hsm T hTb
    have sV := hsm V hVb
    have hi32 : i < 32 := by omega
    have kb : kT S b = 9 ∧ kL S b = 32 := by
      unfold kT kL at hb' ⊢
      rw [hk]; exact hb'
    obtain ⟨y1, y2⟩ := ky i hi32
    rw [← sT.2.1] at y1
    rw [b_X4_applyWrites_2]
    simp only [b_X4_applyWrites_25]
    refine ⟨fun q => absurd q (i32_lt32 hi32), fun _ => ⟨by rw [sT.T]; exact k1, ?_⟩⟩
    unfold w_X4_hasWritten b_X4_hasWritten_16
    refine ⟨by rw [sT.T]; exact k1, fun g => ⟨zb0, fun _ v hv => ?_, fun x => absurd rfl x⟩, fun g => ⟨zb1, fun x => absurd x ne10, fun _ => ?_⟩⟩
    · rw [hv, nI_1]
      have g' : σ1.2 10 (32 * t + i) = -5000 := Classical.byContradiction (fun x => y1.mpr x g)
      refine ih (i + 1) S (by omega) hsm hk (fun k hk => ?_) (fun k h3 h4 => h2 k (by omega) h4)
      by_cases e : k = i
      · rw [e, if_pos g']; exact h2 i (by omega) (by omega)
      · exact h1 k (by omega)
    · have g' : Wk σ1 t i := y1.mp g
      rw [sT.2.2, k2, sV.L, k4, ix_nI (by omega), kb.2, sV.2.1, y2 g']
      refine ⟨by rw [sT.T]; exact k1, by rw [sV.T]; exact k3, vp_in_nI (by omega) (by omega), kb.1, vp_in_nI (by omega) (by omega), fun S9 e9 v hv => ?_⟩
      rw [hv, nI_1, e9]
      refine ih (i + 1) _ (by omega) (fun a ha => (hsm a ha).tr (sm_pI ha)) hk (fun k hk => ?_) (fun k h3 h4 => ?_)
      · rw [sI_pI, if_pos rfl]
        by_cases e : k = i
        · rw [if_pos e, e, if_neg g']
        · rw [if_neg e]; exact h1 k (by omega)
      · rw [sI_pI, if_pos rfl, if_neg (by omega)]; exact h2 k (by omega) h4
end ARS
