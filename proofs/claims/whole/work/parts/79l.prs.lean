/-! the class reads the script -/
def nv (g : Nat → Int32) (p : Nat) : Nat → Nat
  | 0 => 0
  | m + 1 => 10 * nv g p m + dv g (p + m)
def NmOk (g : Nat → Int32) (y p m : Nat) : Prop := 1 ≤ m ∧ m ≤ 3 ∧ (∀ i, i < m → Dg g y (p + i)) ∧ (m = 3 ∨ ¬ Dg g y (p + m))
theorem nv_lt {g : Nat → Int32} {y p : Nat} : ∀ m, (∀ i, i < m → Dg g y (p + i)) → nv g p m < 10 ^ m
  | 0, _ => by simp [nv]
  | m + 1, h => by
    have := nv_lt m (fun i hi => h i (by omega))
    have d := (dg_nI (h m (by omega))).1
    rw [nv, Nat.pow_succ]
    omega
theorem nv_999 {g : Nat → Int32} {y p m : Nat} (h : ∀ i, i < m → Dg g y (p + i)) (h3 : m ≤ 3) : nv g p m < 1000 :=
  Nat.lt_of_lt_of_le (nv_lt m h) (Nat.pow_le_pow_right (by omega) h3)
theorem NmOk.bd {g : Nat → Int32} {y p m : Nat} (h : NmOk g y p m) : p + m ≤ y ∧ nv g p m < 1000 := by
  obtain ⟨h1, h2, h3, -⟩ := h
  have := (h3 (m - 1) (by omega)).1
  exact ⟨by omega, nv_999 h3 h2⟩
/-- a step read from p to p' -/
def StOk (g : Nat → Int32) (y p : Nat) (s : Nat × Nat × Nat × Int32) (p' : Nat) : Prop := ∃ p1, KyOk g y (p + 1) s.2.1 p1 ∧
  ((Is g y p 114 ∧ s.1 = 0 ∧ s.2.2.1 = s.2.1 ∧ s.2.2.2 = 0 ∧ p' = p1) ∨
   (Is g y p 100 ∧ s.1 = 4 ∧ s.2.2.1 = s.2.1 ∧ s.2.2.2 = 0 ∧ p' = p1) ∨
   (Is g y p 115 ∧ s.1 = 2 ∧ Is g y p1 45 ∧ KyOk g y (p1 + 1) s.2.2.1 p' ∧ s.2.2.2 = -999) ∨
   (Is g y p 119 ∧ s.1 = 3 ∧ s.2.2.1 = s.2.1 ∧ Is g y p1 61 ∧ ∃ m, (Is g y (p1 + 1) 45 ∧ NmOk g y (p1 + 2) m ∧ s.2.2.2 = -nI (nv g (p1 + 2) m) ∧ p' = p1 + 2 + m) ∨ (¬ Is g y (p1 + 1) 45 ∧ NmOk g y (p1 + 1) m ∧ s.2.2.2 = nI (nv g (p1 + 1) m) ∧ p' = p1 + 1 + m)) ∨
   (Is g y p 97 ∧ s.1 = 5 ∧ s.2.2.1 = s.2.1 ∧ ∃ m, NmOk g y (p1 + 1) m ∧ p' = p1 + 1 + m ∧ ((Is g y p1 45 ∧ s.2.2.2 = -nI (nv g (p1 + 1) m)) ∨ (Is g y p1 43 ∧ s.2.2.2 = nI (nv g (p1 + 1) m)))))
/-- no step: the place of the fault -/
def StNo (g : Nat → Int32) (y p fp : Nat) : Prop := (¬ Is g y p 114 ∧ ¬ Is g y p 119 ∧ ¬ Is g y p 100 ∧ ¬ Is g y p 97 ∧ ¬ Is g y p 115 ∧ fp = p) ∨
  (∃ c, (c = 114 ∨ c = 119 ∨ c = 100 ∨ c = 97 ∨ c = 115) ∧ Is g y p c ∧ (KyNo g y (p + 1) fp ∨ ∃ v p1, KyOk g y (p + 1) v p1 ∧
    ((c = 115 ∧ ((¬ Is g y p1 45 ∧ fp = p1) ∨ (Is g y p1 45 ∧ KyNo g y (p1 + 1) fp))) ∨
     (c = 119 ∧ ((¬ Is g y p1 61 ∧ fp = p1) ∨ (Is g y p1 61 ∧ Is g y (p1 + 1) 45 ∧ ¬ Dg g y (p1 + 2) ∧ fp = p1 + 2) ∨ (Is g y p1 61 ∧ ¬ Is g y (p1 + 1) 45 ∧ ¬ Dg g y (p1 + 1) ∧ fp = p1 + 1))) ∨
     (c = 97 ∧ ((¬ Is g y p1 45 ∧ ¬ Is g y p1 43 ∧ fp = p1) ∨ (Is g y p1 45 ∧ ¬ Dg g y (p1 + 1) ∧ fp = p1 + 1) ∨ (Is g y p1 43 ∧ ¬ Dg g y (p1 + 1) ∧ fp = p1 + 1))))))
theorem StOk.bd {g : Nat → Int32} {y p p' : Nat} {s : Nat × Nat × Nat × Int32} (h : StOk g y p s p') : p + 2 ≤ p' ∧ p' ≤ y ∧ s.2.1 < 32 ∧ s.2.2.1 < 32 := by
  obtain ⟨p1, k, h⟩ := h
  obtain ⟨k1, k2, k3⟩ := k.bd
  rcases h with ⟨a, b, c, d, e⟩ | ⟨a, b, c, d, e⟩ | ⟨a, b, c, d, e⟩ | ⟨a, b, c, d, m, ⟨e, f, g', i⟩ | ⟨e, f, g', i⟩⟩ | ⟨a, b, c, m, d, e, f⟩
  · omega
  · omega
  · obtain ⟨d1, d2, d3⟩ := d.bd
    omega
  · have := f.bd.1
    omega
  · have := f.bd.1
    omega
  · have := d.bd.1
    omega
section PRS
variable {S S' : MS} {l1 l2 l3 l4 : Nat} {loc ow : Nat → Nat} {σ σ1 σ2 : Sg} {M C N : Nat} {p n y : Nat} {tp : Nat → Nat × Nat × Nat × Int32}
theorem cl_pd_end (h : PS S l1 l2 l3 l4 loc ow σ σ1 M C N p n tp) {kd k : Int32} {neg v m : Int32} (hm : ¬ m = 0) {post : Nat → MS → Prop} (h1 : ∀ S' q, PS S' l1 l2 l3 l4 loc ow σ σ1 M C N p n tp → Opq S' loc σ1 M N q kd k k (if neg = 0 then v else -v) → (∀ j, j < n → sR S' (loc 11) j ≠ q) → post q S') : b_X3_parseDigits_53 post S (loc 5) kd k neg v m := by
  unfold b_X3_parseDigits_53 b_X3_parseDigits_81 b_X3_parseDigits_84
  refine ⟨fun _ q kq zq S2 e2 => ⟨fun x => ?_, fun x => ?_⟩, fun x => absurd x hm⟩
  · rw [if_pos x] at h1
    rw [e2]
    exact ⟨kT_nw _ _ _ _, cl_newOp h kq zq (fun S' h' o f => h1 S' q h' o f)⟩
  · rw [if_neg x] at h1
    rw [e2]
    exact ⟨kT_nw _ _ _ _, cl_newOp h kq zq (fun S' h' o f => h1 S' q h' o f)⟩
theorem cl_pd_loop (hy : Ty σ1 y) {kd k neg : Int32} {p0 : Nat} {post : Nat → MS → Prop} (h1 : ∀ m S' q, NmOk (σ1.2 24) y p0 m → PS S' l1 l2 l3 l4 loc ow σ σ1 M C N (p0 + m) n tp → Opq S' loc σ1 M N q kd k k (if neg = 0 then nI (nv (σ1.2 24) p0 m) else -nI (nv (σ1.2 24) p0 m)) → (∀ j, j < n → sR S' (loc 11) j ≠ q) → post q S') (h0 : ∀ S', ¬ Dg (σ1.2 24) y p0 → PS S' l1 l2 l3 l4 loc ow σ σ1 M C N p0 n tp → post 0 S') : ∀ f m (S : MS), m + f = 3 → p0 + m ≤ y → (∀ i, i < m → Dg (σ1.2 24) y (p0 + i)) → PS S l1 l2 l3 l4 loc ow σ σ1 M C N (p0 + m) n tp → b_X3_parseDigits_6 post (f + 1) S (loc 5) kd k neg (nI (nv (σ1.2 24) p0 m)) (nI m) := by
  intro f
  induction f with
  | zero =>
    intro m S hm hpy hd h
    have e : m = 3 := by omega
    subst e
    rw [b_X3_parseDigits_6]
    dsimp only
    exact ⟨fun _ => cl_pd_end h (by decide) (fun S' q h' o fr => h1 3 S' q ⟨by omega, by omega, hd, Or.inl rfl⟩ h' o fr), fun q => absurd (Int32.le_refl _) q⟩
  | succ f ih =>
    intro m S hm hpy hd h
    have k5 := h.1.scr.2.1
    rw [b_X3_parseDigits_6]
    dsimp only
    refine ⟨fun q => absurd q (nI_ge (b := 3) (by omega) (by omega)), fun _ => ⟨k5, cl_current h.1 hy h.2.1 hpy (cl_isDigit (fun d => ⟨fun q => absurd q ne10, fun _ => ⟨k5, cl_current h.1 hy h.2.1 hpy (fun v9 hv9 => ⟨k5, fun S11 e11 v13 hv13 => ?_⟩)⟩⟩) (fun d => ⟨fun _ => ?_, fun q => absurd rfl q⟩))⟩⟩
    · rw [h.2.1, nI_1] at e11
      obtain ⟨d1, d2⟩ := dg_nI d
      have ec : cu (σ1.2 24) y (p0 + m) = nI (48 + dv (σ1.2 24) (p0 + m)) := by rw [cu, if_pos d.1]; exact d2
      rw [ec, sub48, mul10, nI_add] at hv9
      rw [hv9, hv13, nI_1, e11]
      exact ih (m + 1) _ (by omega) d.1 (fun i hi => by
        by_cases e : i = m
        · rw [e]; exact d
        · exact hd i (by omega)) (ps_pos h)
    · by_cases e : m = 0
      · subst e
        unfold b_X3_parseDigits_53 b_X3_parseDigits_84
        exact ⟨fun q => absurd rfl q, fun _ => h0 S d h⟩
      · refine cl_pd_end h (fun q => e ((nI_eq (a := m) (b := 0) (by omega) (by omega)).mp q)) (fun S' q h' o fr => h1 m S' q ⟨by omega, by omega, hd, Or.inr d⟩ h' o fr)
theorem cl_parseDigits (h : PS S l1 l2 l3 l4 loc ow σ σ1 M C N p n tp) (hy : Ty σ1 y) (hpy : p ≤ y) {kd k neg : Int32} {post : Nat → MS → Prop} (h1 : ∀ m S' q, NmOk (σ1.2 24) y p m → PS S' l1 l2 l3 l4 loc ow σ σ1 M C N (p + m) n tp → Opq S' loc σ1 M N q kd k k (if neg = 0 then nI (nv (σ1.2 24) p m) else -nI (nv (σ1.2 24) p m)) → (∀ j, j < n → sR S' (loc 11) j ≠ q) → post q S') (h0 : ∀ S', ¬ Dg (σ1.2 24) y p → PS S' l1 l2 l3 l4 loc ow σ σ1 M C N p n tp → post 0 S') : w_X3_parseDigits S (loc 5) kd k neg post :=
  ⟨4, cl_pd_loop hy h1 h0 3 0 S (by omega) (by omega) (fun i hi => absurd hi (by omega)) h⟩
theorem cl_kindOf {g : Nat → Int32} {post : Int32 → MS → Prop} (hr : Is g y p 114 → post 0 S) (hw : Is g y p 119 → post 3 S) (hd : Is g y p 100 → post 4 S) (ha : Is g y p 97 → post 5 S) (hs : Is g y p 115 → post 2 S) (hn : ¬ Is g y p 114 → ¬ Is g y p 119 → ¬ Is g y p 100 → ¬ Is g y p 97 → ¬ Is g y p 115 → post (-1) S) : w_X3_kindOf S (cu g y p) post := by
  unfold w_X3_kindOf b_X3_kindOf_43
  rw [cu_is (by decide), cu_is (by decide), cu_is (by decide), cu_is (by decide), cu_is (by decide)]
  exact ⟨fun n1 => ⟨fun n2 => ⟨fun n3 => ⟨fun n4 => ⟨fun n5 => hn n1 n2 n3 n4 n5, hs⟩, ha⟩, hd⟩, hw⟩, hr⟩
theorem cl_parseStep (h : PS S l1 l2 l3 l4 loc ow σ σ1 M C N p n tp) (hy : Ty σ1 y) (hpy : p ≤ y) {post : Nat → MS → Prop} (h1 : ∀ s p' q S', StOk (σ1.2 24) y p s p' → PS S' l1 l2 l3 l4 loc ow σ σ1 M C N p' n tp → Opq S' loc σ1 M N q (nI s.1) (nI s.2.1) (nI s.2.2.1) s.2.2.2 → (∀ j, j < n → sR S' (loc 11) j ≠ q) → post q S') (h0 : ∀ p' S', StNo (σ1.2 24) y p p' → PS S' l1 l2 l3 l4 loc ow σ σ1 M C N p' n tp → post 0 S') : w_X3_parseStep S (loc 5) post := by
  have k5 := h.1.scr.2.1
  have go : ∀ {c kd : Int32}, (c = 114 ∨ c = 119 ∨ c = 100 ∨ c = 97 ∨ c = 115) → Is (σ1.2 24) y p c → ¬ kd = -1 → (∀ v p1 S9, KyOk (σ1.2 24) y (p + 1) v p1 → PS S9 l1 l2 l3 l4 loc ow σ σ1 M C N p1 n tp → ((kd.toInt = 2 → kT S9 (loc 5) = 4 ∧ w_X3_parseSum S9 (loc 5) (nI v) (fun r13 S12 => post r13 S12)) ∧ (kd.toInt = 3 → kT S9 (loc 5) = 4 ∧ w_X3_parseWrite S9 (loc 5) (nI v) (fun r16 S15 => post r16 S15)) ∧ (kd.toInt = 4 → b_X3_parseStep_86 post S9 (loc 5) kd (nI v)) ∧ (kd.toInt = 5 → kT S9 (loc 5) = 4 ∧ w_X3_parseAdd S9 (loc 5) (nI v) (fun r19 S18 => post r19 S18)) ∧ (kd.toInt < 2 ∨ 5 < kd.toInt → b_X3_parseStep_86 post S9 (loc 5) kd (nI v)))) → ((¬ kd = ((-1)) → kT S (loc 5) = 4 ∧ ∀ S7 : MS, S7 = pI S (loc 5) 2 ((sI S (loc 5) 2) + 1) → w_X3_parseKey S7 (loc 5) (fun r10 S9 => ((¬ r10 = ((-1)) → ((kd.toInt = 2 → kT S9 (loc 5) = 4 ∧ w_X3_parseSum S9 (loc 5) r10 (fun r13 S12 => post r13 S12)) ∧ (kd.toInt = 3 → kT S9 (loc 5) = 4 ∧ w_X3_parseWrite S9 (loc 5) r10 (fun r16 S15 => post r16 S15)) ∧ (kd.toInt = 4 → b_X3_parseStep_86 post S9 (loc 5) kd r10) ∧ (kd.toInt = 5 → kT S9 (loc 5) = 4 ∧ w_X3_parseAdd S9 (loc 5) r10 (fun r19 S18 => post r19 S18)) ∧ (kd.toInt < 2 ∨ 5 < kd.toInt → b_X3_parseStep_86 post S9 (loc 5) kd r10))) ∧ (r10 = ((-1)) → post 0 S9)))) ∧ (kd = ((-1)) → post 0 S)) := fun {c kd} hc hi hk hgo => by
    refine ⟨fun _ => ⟨k5, fun S7 e7 => ?_⟩, fun q => absurd q hk⟩
    rw [h.2.1, nI_1] at e7
    rw [e7]
    refine cl_parseKey (ps_pos h) hy hi.1 (fun v p1 S9 ky h9 => ⟨fun _ => hgo v p1 S9 ky h9, fun q => absurd q (nIm1 (by have := ky.bd.1; omega))⟩) (fun p' S9 ky h9 => ⟨fun q => absurd rfl q, fun _ => h0 p' S9 (Or.inr ⟨c, hc, hi, Or.inl ky⟩) h9⟩)
  have t0 : (0 : Int32).toInt = 0 := by decide
  have t2 : (2 : Int32).toInt = 2 := by decide
  have t3 : (3 : Int32).toInt = 3 := by decide
  have t4 : (4 : Int32).toInt = 4 := by decide
  have t5 : (5 : Int32).toInt = 5 := by decide
  have plain : ∀ {kd : Nat} {v p1 : Nat} {S9 : MS}, KyOk (σ1.2 24) y (p + 1) v p1 → (StOk (σ1.2 24) y p (kd, v, v, 0) p1) → PS S9 l1 l2 l3 l4 loc ow σ σ1 M C N p1 n tp → b_X3_parseStep_86 post S9 (loc 5) (nI kd) (nI v) := fun {kd v p1 S9} ky hs h9 => by
    unfold b_X3_parseStep_86
    intro q kq zq S2 e2
    rw [e2]
    exact cl_newOp h9 kq zq (fun S' h' o f => h1 (kd, v, v, 0) p1 q S' hs h' o f)
  refine ⟨k5, cl_current h.1 hy h.2.1 hpy (cl_kindOf (fun i => go (c := 114) (by simp) i (by decide) (fun v p1 S9 ky h9 => ?_)) (fun i => go (c := 119) (by simp) i (by decide) (fun v p1 S9 ky h9 => ?_)) (fun i => go (c := 100) (by simp) i (by decide) (fun v p1 S9 ky h9 => ?_)) (fun i => go (c := 97) (by simp) i (by decide) (fun v p1 S9 ky h9 => ?_)) (fun i => go (c := 115) (by simp) i (by decide) (fun v p1 S9 ky h9 => ?_)) (fun n1 n2 n3 n4 n5 => ⟨fun q => absurd rfl q, fun _ => h0 p S (Or.inl ⟨n1, n2, n3, n4, n5, rfl⟩) h⟩))⟩
  · rw [t0]
    exact ⟨fun q => absurd q (by decide), fun q => absurd q (by decide), fun q => absurd q (by decide), fun q => absurd q (by decide), fun _ => plain (kd := 0) ky ⟨p1, ky, Or.inl ⟨i, rfl, rfl, rfl, rfl⟩⟩ h9⟩
  · rw [t3]
    have k9 := h9.1.scr.2.1
    obtain ⟨kb1, kb2, kb3⟩ := ky.bd
    refine ⟨fun q => absurd q (by decide), fun _ => ⟨k9, k9, cl_pass h9 hy kb3 (by decide) (fun S2 i1 h2 => ⟨fun _ => ?_, fun q => absurd q ne10⟩) (fun i1 => ⟨fun q => absurd rfl q, fun _ => h0 p1 S9 (Or.inr ⟨119, by simp, i, Or.inr ⟨v, p1, ky, Or.inr (Or.inl ⟨rfl, Or.inl ⟨i1, rfl⟩⟩)⟩⟩) h9⟩)⟩, fun q => absurd q (by decide), fun q => absurd q (by decide), fun q => absurd q (by decide)⟩
    have k2 := h2.1.scr.2.1
    refine ⟨k2, cl_pass h2 hy i1.1 (by decide) (fun S5 i2 h5 => ⟨h5.1.scr.2.1, cl_parseDigits h5 hy i2.1 (fun m S' q hm h' o f => h1 (3, v, v, -nI (nv (σ1.2 24) (p1 + 2) m)) (p1 + 2 + m) q S' ⟨p1, ky, Or.inr (Or.inr (Or.inr (Or.inl ⟨i, rfl, rfl, i1, m, Or.inl ⟨i2, hm, rfl, rfl⟩⟩)))⟩ h' o f) (fun S' hd h' => h0 (p1 + 2) S' (Or.inr ⟨119, by simp, i, Or.inr ⟨v, p1, ky, Or.inr (Or.inl ⟨rfl, Or.inr (Or.inl ⟨i1, i2, hd, rfl⟩)⟩)⟩⟩) h')⟩) (fun i2 => ⟨k2, cl_parseDigits h2 hy i1.1 (fun m S' q hm h' o f => h1 (3, v, v, nI (nv (σ1.2 24) (p1 + 1) m)) (p1 + 1 + m) q S' ⟨p1, ky, Or.inr (Or.inr (Or.inr (Or.inl ⟨i, rfl, rfl, i1, m, Or.inr ⟨i2, hm, rfl, rfl⟩⟩)))⟩ h' o f) (fun S' hd h' => h0 (p1 + 1) S' (Or.inr ⟨119, by simp, i, Or.inr ⟨v, p1, ky, Or.inr (Or.inl ⟨rfl, Or.inr (Or.inr ⟨i1, i2, hd, rfl⟩)⟩)⟩⟩) h')⟩)⟩
  · rw [t4]
    exact ⟨fun q => absurd q (by decide), fun q => absurd q (by decide), fun _ => plain (kd := 4) ky ⟨p1, ky, Or.inr (Or.inl ⟨i, rfl, rfl, rfl, rfl⟩)⟩ h9, fun q => absurd q (by decide), fun q => absurd q (by decide)⟩
  · rw [t5]
    have k9 := h9.1.scr.2.1
    obtain ⟨kb1, kb2, kb3⟩ := ky.bd
    refine ⟨fun q => absurd q (by decide), fun q => absurd q (by decide), fun q => absurd q (by decide), fun _ => ⟨k9, k9, cl_pass h9 hy kb3 (by decide) (fun S2 i1 h2 => ⟨fun _ => ⟨h2.1.scr.2.1, cl_parseDigits h2 hy i1.1 (fun m S' q hm h' o f => h1 (5, v, v, -nI (nv (σ1.2 24) (p1 + 1) m)) (p1 + 1 + m) q S' ⟨p1, ky, Or.inr (Or.inr (Or.inr (Or.inr ⟨i, rfl, rfl, m, hm, rfl, Or.inl ⟨i1, rfl⟩⟩)))⟩ h' o f) (fun S' hd h' => h0 (p1 + 1) S' (Or.inr ⟨97, by simp, i, Or.inr ⟨v, p1, ky, Or.inr (Or.inr ⟨rfl, Or.inr (Or.inl ⟨i1, hd, rfl⟩)⟩)⟩⟩) h')⟩, fun q => absurd q ne10⟩) (fun i1 => ⟨fun q => absurd rfl q, fun _ => ⟨k9, cl_pass h9 hy kb3 (by decide) (fun S2 i2 h2 => ⟨fun _ => ⟨h2.1.scr.2.1, cl_parseDigits h2 hy i2.1 (fun m S' q hm h' o f => h1 (5, v, v, nI (nv (σ1.2 24) (p1 + 1) m)) (p1 + 1 + m) q S' ⟨p1, ky, Or.inr (Or.inr (Or.inr (Or.inr ⟨i, rfl, rfl, m, hm, rfl, Or.inr ⟨i2, rfl⟩⟩)))⟩ h' o f) (fun S' hd h' => h0 (p1 + 1) S' (Or.inr ⟨97, by simp, i, Or.inr ⟨v, p1, ky, Or.inr (Or.inr ⟨rfl, Or.inr (Or.inr ⟨i2, hd, rfl⟩)⟩)⟩⟩) h')⟩, fun q => absurd q ne10⟩) (fun i2 => ⟨fun q => absurd rfl q, fun _ => h0 p1 S9 (Or.inr ⟨97, by simp, i, Or.inr ⟨v, p1, ky, Or.inr (Or.inr ⟨rfl, Or.inl ⟨i1, i2, rfl⟩⟩)⟩⟩) h9⟩)⟩⟩)⟩, fun q => absurd q (by decide)⟩
  · rw [t2]
    have k9 := h9.1.scr.2.1
    obtain ⟨kb1, kb2, kb3⟩ := ky.bd
    refine ⟨fun _ => ⟨k9, k9, cl_pass h9 hy kb3 (by decide) (fun S2 i1 h2 => ⟨fun _ => ⟨h2.1.scr.2.1, cl_parseKey h2 hy i1.1 (fun v2 p2 S5 ky2 h5 => ⟨fun _ q kq zq S8 e8 => ?_, fun q => absurd q (nIm1 (by have := ky2.bd.1; omega))⟩) (fun p2 S5 ky2 h5 => ⟨fun q => absurd rfl q, fun _ => h0 p2 S5 (Or.inr ⟨115, by simp, i, Or.inr ⟨v, p1, ky, Or.inl ⟨rfl, Or.inr ⟨i1, ky2⟩⟩⟩⟩) h5⟩)⟩, fun q => absurd q ne10⟩) (fun i1 => ⟨fun q => absurd rfl q, fun _ => h0 p1 S9 (Or.inr ⟨115, by simp, i, Or.inr ⟨v, p1, ky, Or.inl ⟨rfl, Or.inl ⟨i1, rfl⟩⟩⟩⟩) h9⟩)⟩, fun q => absurd q (by decide), fun q => absurd q (by decide), fun q => absurd q (by decide), fun q => absurd q (by decide)⟩
    rw [e8]
    exact cl_newOp h5 kq zq (fun S' h' o f => h1 (2, v, v2, -999) p2 q S' ⟨p1, ky, Or.inr (Or.inr (Or.inl ⟨i, rfl, i1, ky2, rfl⟩))⟩ h' o f)
end PRS
