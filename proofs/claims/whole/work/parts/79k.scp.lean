/-! the script's cells -/
section SCP
variable {S S' : MS} {l1 l2 l3 l4 : Nat} {loc ow : Nat → Nat} {σ σ1 σ2 : Sg} {M C N : Nat}
theorem mr_scp (h : MR S l1 l2 l3 l4 loc ow σ σ1 M C N) (hk : S'.1 = S.1) (hs : ∀ a, a ≠ loc 5 → a ≠ loc 11 → Sm S S' a) (r5 : sR S' (loc 5) = sR S (loc 5)) (i3 : sI S' (loc 5) 3 = σ2.1 25) (i5 : sI S' (loc 5) 5 = σ2.1 28) (e2 : σ2.2 = σ1.2) (e1 : ∀ j, j ≠ 25 → j ≠ 28 → σ2.1 j = σ1.1 j) (hy : σ2.1 25 = σ1.1 25 ∨ σ2.1 25 = 0) : MR S' l1 l2 l3 l4 loc ow σ σ2 M C N := by
  obtain ⟨hM, hC, hN⟩ := h.bd
  have kt : ∀ x, kT S' x = kT S x := fun x => by unfold kT; rw [hk]
  have kl : ∀ x, kL S' x = kL S x := fun x => by unfold kL; rw [hk]
  have u5 : Us σ1 M N 5 := us_s (by omega) (by omega)
  have u11 : Us σ1 M N 11 := us_s (by omega) (by omega)
  have sm : ∀ {r}, Us σ1 M N r → r ≠ 5 → r ≠ 11 → Sm S S' (loc r) := fun hr h5 h11 => hs _ (h.ne hr u5 h5) (h.ne hr u11 h11)
  have hus : ∀ {r}, Us σ2 M N r → Us σ1 M N r := fun hr => us_r7 (by rw [e2]) hr
  refine mr_mk h (fun _ _ => rfl) rfl (hs 0 (Ne.symm (h.nz u5)) (Ne.symm (h.nz u11))) (fun r hr h5 => sm hr (by omega) (by omega)) (fun r hr => by rw [kt]; exact h.owr r (hus hr)) (fun a ha => h.2.2.2.2.2.2.2.2.2.1 a (by rw [← kt]; exact ha)) ⟨hM, hC, hN⟩ ?_
  have hcP := cP_8 (σ' := σ2) (σ := σ1) (by rw [e2])
  obtain ⟨r1, r2, r3, r4, r5', r6, r7, r8, r9⟩ := h.rc
  have q1 := sm (r := 1) (us_s (by omega) (by omega)) (by omega) (by omega)
  have q2 := sm (r := 2) (us_s (by omega) (by omega)) (by omega) (by omega)
  have q3 := sm (r := 3) (us_s (by omega) (by omega)) (by omega) (by omega)
  have q4 := sm (r := 4) (us_s (by omega) (by omega)) (by omega) (by omega)
  have q8 := sm (r := 8) (us_s (by omega) (by omega)) (by omega) (by omega)
  have q9 := sm (r := 9) (us_s (by omega) (by omega)) (by omega) (by omega)
  have q10 := sm (r := 10) (us_s (by omega) (by omega)) (by omega) (by omega)
  refine ⟨?_, fun c hc => ?_, fun t ht => ?_, fun t ht k hk => ?_, fun t ht i z hz h24 hi => ?_, fun c hc k hk => ?_, fun c h1 hc t ht hq => ?_, fun i hi => ?_, fun y i hy' h60 hi => ?_⟩
  · unfold StR at r1 ⊢
    simp only [kt, kl]
    rw [q1.2.2, q2.2.2, r5, q1.2.1, q2.2.1, i3, i5, e1 1 (by decide) (by decide), e1 21 (by decide) (by decide), e1 17 (by decide) (by decide), e1 18 (by decide) (by decide), e1 19 (by decide) (by decide), e1 13 (by decide) (by decide), e1 14 (by decide) (by decide)]
    obtain ⟨a1, a2, a3, a4, a5, a6, a7, a8, a9, a10, a11, a12, a13, a14, a15, a16, a17, a18, a19, p1, p2, p3, p4, p5, p6, p7, p8, p9, p10, s1, s2, s3, s4, s5, s6, s7, s8, s9⟩ := r1
    exact ⟨a1, a2, a3, a4, a5, a6, a7, a8, a9, a10, a11, a12, a13, a14, a15, a16, a17, a18, a19, p1, p2, p3, p4, p5, p6, p7, p8, p9, p10, s1, s2, s3, s4, s5, s6, s7, rfl, rfl⟩
  · have := r2 c hc
    unfold RwR at this ⊢
    rw [kt, kl, q8.2.2]; exact this
  · have := r3 t ht
    have p1 := sm (us_t (σ := σ1) (N := N) ht).1 (by omega) (by omega)
    unfold TxR at this ⊢
    rw [kt, kt, kl, kt, kl, kt, kl, q3.2.2, p1.2.2, p1.2.1, e2]; exact this
  · have := r4 t ht k hk
    have p1 := sm (us_t (σ := σ1) (N := N) ht).1 (by omega) (by omega)
    have p3 := sm (us_t (σ := σ1) (N := N) ht).2.2.1 (by omega) (by omega)
    have p4 := sm (us_t (σ := σ1) (N := N) ht).2.2.2 (by omega) (by omega)
    unfold KyR at this ⊢
    rw [p1.2.1, p3.2.1, p4.2.1, e2]; exact this
  · rw [e2] at hz
    have := r5' t ht i z hz h24 hi
    have p2 := sm (us_t (σ := σ1) (N := N) ht).2.1 (by omega) (by omega)
    have p := sm (us_z ht hz h24 hi) (by omega) (by omega)
    unfold OpR at this ⊢
    rw [p2.2.2, p.T, p.2.1, e2, hcP]; exact this
  · rw [(sm (r := 100 + c) (us_r (by omega)) (by omega) (by omega)).2.1, e2]
    exact r6 c hc k hk
  · rw [e2] at hq
    rw [q9.2.2]
    exact r7 c h1 hc t ht hq
  · have := r8 i hi
    have p := sm (us_c (σ := σ1) (M := M) hi) (by omega) (by omega)
    unfold CnR at this ⊢
    rw [q4.2.2, p.T, p.2.1, e2]; exact this
  · rw [q10.2.1, e2]
    rcases hy with q | q
    · rw [q] at hy'; exact r9 y i hy' h60 hi
    · rw [q] at hy'
      have : 0 = y := (nI_eq (a := 0) (b := y) (by omega) (by omega)).mp hy'
      omega
/-- the texts's signs -/
def Dg (g : Nat → Int32) (y p : Nat) : Prop := p < y ∧ 48 ≤ g p ∧ g p ≤ 57
def Is (g : Nat → Int32) (y p : Nat) (c : Int32) : Prop := p < y ∧ g p = c
def dv (g : Nat → Int32) (p : Nat) : Nat := ix (g p) - 48
theorem dg_nI {g : Nat → Int32} {y p : Nat} (h : Dg g y p) : dv g p < 10 ∧ g p = nI (48 + dv g p) := by
  obtain ⟨-, h1, h2⟩ := h
  rw [fa_le] at h1 h2
  have e1 : (48 : Int32).toInt = 48 := by decide
  have e2 : (57 : Int32).toInt = 57 := by decide
  obtain ⟨k, hk⟩ : ∃ k : Nat, (g p).toInt = (k : Int) := ⟨(g p).toInt.toNat, by omega⟩
  have e : g p = nI k := Int32.toInt_inj.mp (by rw [hk, nI_toInt (by omega)])
  have : dv g p = k - 48 := by
    unfold dv
    rw [e, ix_nI (by omega)]
  rw [this]
  exact ⟨by omega, by rw [e]; congr 1; omega⟩
def cu (g : Nat → Int32) (y p : Nat) : Int32 := if p < y then g p else 0
theorem cu_is {g : Nat → Int32} {y p : Nat} {c : Int32} (hc : ¬ c = 0) : cu g y p = c ↔ Is g y p c := by
  unfold cu Is
  by_cases q : p < y
  · rw [if_pos q]; exact ⟨fun e => ⟨q, e⟩, fun e => e.2⟩
  · rw [if_neg q]; exact ⟨fun e => absurd e.symm hc, fun e => absurd e.1 q⟩
theorem cl_isDigit {g : Nat → Int32} {y p : Nat} {post : Int32 → MS → Prop} (h1 : Dg g y p → post 1 S) (h0 : ¬ Dg g y p → post 0 S) : w_X3_isDigit S (cu g y p) post := by
  unfold w_X3_isDigit b_X3_isDigit_16 b_X3_isDigit_17
  by_cases q : p < y
  · have e : cu g y p = g p := if_pos q
    rw [e]
    refine ⟨fun x => ⟨zb0, h0 (fun r => (fa_of_lt x).2.1 r.2.1)⟩, fun x => ⟨fun x2 => ⟨zb0, h0 (fun r => (fa_of_lt x2).2.1 r.2.2)⟩, fun x2 => ⟨zb1, h1 ⟨q, ?_, ?_⟩⟩⟩⟩
    · exact Int32.not_lt.mp x
    · exact Int32.not_lt.mp x2
  · have e : cu g y p = 0 := if_neg q
    rw [e]
    exact ⟨fun _ => ⟨zb0, h0 (fun r => q r.1)⟩, fun x => absurd (by decide) x⟩
theorem nar_c0 : ∀ k, k < 127 → narrow .char (.int (nI k)) = .int (nI k) := by decide +kernel
def Std (S : MS) (loc : Nat → Nat) (σ : Sg) (M N i n : Nat) (tp : Nat → Nat × Nat × Nat × Int32) : Prop := (∀ j, i ≤ j → j < n → Opq S loc σ M N (sR S (loc 11) j) (nI (tp j).1) (nI (tp j).2.1) (nI (tp j).2.2.1) (tp j).2.2.2) ∧ (∀ j k, i ≤ j → j < k → k < n → sR S (loc 11) j ≠ sR S (loc 11) k)
/-- the parser at place p, n steps stored -/
def PS (S : MS) (l1 l2 l3 l4 : Nat) (loc ow : Nat → Nat) (σ σ1 : Sg) (M C N p n : Nat) (tp : Nat → Nat × Nat × Nat × Int32) : Prop := Mid S l1 l2 l3 l4 loc ow σ σ1 M C N ∧ sI S (loc 5) 2 = nI p ∧ Std S loc σ1 M N 0 n tp
/-- the text has y signs -/
def Ty (σ : Sg) (y : Nat) : Prop := σ.1 25 = nI y ∧ y ≤ 60 ∧ ∀ i, i < y → ∃ k : Nat, 33 ≤ k ∧ k ≤ 126 ∧ σ.2 24 i = nI k
variable {p n y : Nat} {tp : Nat → Nat × Nat × Nat × Int32}
theorem Mid.scr (h : Mid S l1 l2 l3 l4 loc ow σ σ1 M C N) : sR S l1 3 = loc 5 ∧ kT S (loc 5) = 4 ∧ sR S (loc 5) 0 = loc 10 ∧ sR S (loc 5) 1 = loc 11 ∧ kT S (loc 10) = 8 ∧ kL S (loc 10) = 60 ∧ kT S (loc 11) = 12 ∧ kL S (loc 11) = 30 ∧ sI S (loc 5) 3 = σ1.1 25 ∧ sI S (loc 5) 5 = σ1.1 28 := by
  obtain ⟨a1, a2, a3, a4, a5, a6, a7, a8, a9, a10, a11, a12, a13, a14, a15, a16, a17, a18, a19, p1, p2, p3, p4, p5, p6, p7, p8, p9, p10, s1, s2, s3, s4, s5, s6, s7, s8, s9⟩ := h.mr.st
  rw [← h.1]
  exact ⟨p4, a7, p9, p10, a16, a17, a18, a19, s8, s9⟩
theorem cl_current (h : Mid S l1 l2 l3 l4 loc ow σ σ1 M C N) (hy : Ty σ1 y) (hp : sI S (loc 5) 2 = nI p) (hpy : p ≤ y) {post : Int32 → MS → Prop} (hpo : post (cu (σ1.2 24) y p) S) : w_X3_current S (loc 5) post := by
  obtain ⟨c1, c2, c3, c4, c5, c6, c7, c8, c9, c10⟩ := h.scr
  obtain ⟨y1, y2, y3⟩ := hy
  unfold w_X3_current b_X3_current_24
  rw [c9, y1, hp, c3, c6, ix_nI (by omega)]
  refine ⟨c2, fun q => ?_, fun q => ⟨c5, vp_in_nI ?_ (by omega), ?_⟩⟩
  · have : ¬ p < y := fun x => nI_ge x (by omega) q
    rw [cu, if_neg this] at hpo
    exact ⟨rfl, hpo⟩
  · have : p < y := Classical.byContradiction (fun x => q (nI_le (by omega) (by omega)))
    omega
  · have hlt : p < y := Classical.byContradiction (fun x => q (nI_le (by omega) (by omega)))
    rw [cu, if_pos hlt] at hpo
    rw [h.rc.2.2.2.2.2.2.2.2 y p y1 y2 hlt]
    obtain ⟨k, -, hk, e⟩ := y3 p hlt
    rw [e] at hpo ⊢
    exact ⟨nar_c0 k (by omega), hpo⟩
theorem mid_pos (h : Mid S l1 l2 l3 l4 loc ow σ σ1 M C N) {k : Nat} {v : Int32} (hk : k = 2 ∨ k = 4) : Mid (pI S (loc 5) k v) l1 l2 l3 l4 loc ow σ σ1 M C N := by
  obtain ⟨c1, c2, c3, c4, c5, c6, c7, c8, c9, c10⟩ := h.scr
  refine (mr_scp (S' := pI S (loc 5) k v) (σ2 := σ1) h.mr rfl (fun a h5 h11 => sm_pI h5) rfl ?_ ?_ rfl (fun _ _ _ => rfl) (Or.inl rfl)).mid h.wf
  · rw [sI_pI, if_pos rfl, if_neg (by omega)]; exact c9
  · rw [sI_pI, if_pos rfl, if_neg (by omega)]; exact c10
theorem mid_stp (h : Mid S l1 l2 l3 l4 loc ow σ σ1 M C N) {k v : Nat} : Mid (pR S (loc 11) k v) l1 l2 l3 l4 loc ow σ σ1 M C N := by
  obtain ⟨c1, c2, c3, c4, c5, c6, c7, c8, c9, c10⟩ := h.scr
  refine (mr_scp (S' := pR S (loc 11) k v) (σ2 := σ1) h.mr rfl (fun a h5 h11 => sm_pR h11) ?_ c9 c10 rfl (fun _ _ _ => rfl) (Or.inl rfl)).mid h.wf
  exact (sm_pR (h.ne (us_s (r := 5) (by omega) (by omega)) (us_s (r := 11) (by omega) (by omega)) (by omega))).2.2
theorem ps_pos (h : PS S l1 l2 l3 l4 loc ow σ σ1 M C N p n tp) {q : Nat} : PS (pI S (loc 5) 2 (nI q)) l1 l2 l3 l4 loc ow σ σ1 M C N q n tp := by
  obtain ⟨h1, h2, h3, h4⟩ := h
  refine ⟨mid_pos h1 (Or.inl rfl), by rw [sI_pI, if_pos rfl, if_pos rfl], fun j a b => ?_, h4⟩
  have o := h3 j a b
  exact o.sm (sm_pI (Ne.symm (o.2.2.1 5 (us_s (by omega) (by omega)))))
theorem ps_new (h : PS S l1 l2 l3 l4 loc ow σ σ1 M C N p n tp) {q : Nat} (hq : kT S q = 0) (h' : Mid S' l1 l2 l3 l4 loc ow σ σ1 M C N) (hs : ∀ x, x ≠ q → Sm S S' x) : PS S' l1 l2 l3 l4 loc ow σ σ1 M C N p n tp ∧ ∀ j, j < n → sR S' (loc 11) j ≠ q := by
  obtain ⟨h1, h2, h3, h4⟩ := h
  have s5 := hs (loc 5) (h1.fresh hq 5 (us_s (by omega) (by omega)))
  have s11 := hs (loc 11) (h1.fresh hq 11 (us_s (by omega) (by omega)))
  have ne : ∀ j, j < n → sR S (loc 11) j ≠ q := fun j hj e => by
    have o := (h3 j (by omega) hj).1
    rw [e, hq] at o
    exact absurd o (by decide)
  refine ⟨⟨h', by rw [s5.2.1]; exact h2, fun j a b => ?_, fun j k a b c => ?_⟩, fun j hj => by rw [s11.2.2]; exact ne j hj⟩
  · rw [s11.2.2]
    exact (h3 j a b).sm (hs _ (ne j b))
  · rw [s11.2.2]; exact h4 j k a b c
/-- a new step's operation -/
theorem cl_newOp (h : PS S l1 l2 l3 l4 loc ow σ σ1 M C N p n tp) {q : Nat} (hq : kT S q = 0) (hz : ¬ q = 0) {a b c d : Int32} {post : MS → Prop} (hp : ∀ S', PS S' l1 l2 l3 l4 loc ow σ σ1 M C N p n tp → Opq S' loc σ1 M N q a b c d → (∀ j, j < n → sR S' (loc 11) j ≠ q) → post S') : w_X2_init (nw S q 3 0) q a b c d post := cl_opInit h.1 hq hz (fun S' h' o hs => by
  obtain ⟨x1, x2⟩ := ps_new h hq h' hs
  exact hp S' x1 o x2)
theorem cl_pass (h : PS S l1 l2 l3 l4 loc ow σ σ1 M C N p n tp) (hy : Ty σ1 y) (hpy : p ≤ y) {c : Int32} (hc : ¬ c = 0) {post : Int32 → MS → Prop} (h1 : ∀ S', Is (σ1.2 24) y p c → PS S' l1 l2 l3 l4 loc ow σ σ1 M C N (p + 1) n tp → post 1 S') (h0 : ¬ Is (σ1.2 24) y p c → post 0 S) : w_X3_pass S (loc 5) c post := by
  have k5 := h.1.scr.2.1
  refine ⟨k5, cl_current h.1 hy h.2.1 hpy ⟨fun q => ⟨k5, fun S5 e5 => ?_⟩, fun q => h0 (fun x => q ((cu_is hc).mpr x))⟩⟩
  rw [h.2.1, nI_1] at e5
  rw [e5]
  exact h1 _ ((cu_is hc).mp q) (ps_pos h)
def KyOk (g : Nat → Int32) (y p v p' : Nat) : Prop := Dg g y p ∧ ((Dg g y (p + 1) ∧ 10 * dv g p + dv g (p + 1) < 32 ∧ v = 10 * dv g p + dv g (p + 1) ∧ p' = p + 2) ∨ (¬ Dg g y (p + 1) ∧ v = dv g p ∧ p' = p + 1))
def KyNo (g : Nat → Int32) (y p p' : Nat) : Prop := (¬ Dg g y p ∧ p' = p) ∨ (Dg g y p ∧ Dg g y (p + 1) ∧ ¬ 10 * dv g p + dv g (p + 1) < 32 ∧ p' = p + 1)
theorem KyOk.bd {g : Nat → Int32} {v p' : Nat} (h : KyOk g y p v p') : v < 32 ∧ p < p' ∧ p' ≤ y := by
  obtain ⟨h1, ⟨h2, h3, h4, h5⟩ | ⟨h2, h4, h5⟩⟩ := h
  · exact ⟨by omega, by omega, by have := h2.1; omega⟩
  · exact ⟨by have := (dg_nI h1).1; omega, by omega, by have := h1.1; omega⟩
theorem KyNo.bd {g : Nat → Int32} {p' : Nat} (hp : p ≤ y) (h : KyNo g y p p') : p' ≤ y := by
  rcases h with ⟨_, e⟩ | ⟨_, h, _, e⟩
  · omega
  · have := h.1; omega
theorem sub48 (d : Nat) : nI (48 + d) - 48 = nI d := by
  have e : nI (48 + d) = nI d + nI 48 := by rw [nI_add, Nat.add_comm]
  rw [e]
  show nI d + 48 - 48 = _
  exact Int32.add_sub_cancel _ _
theorem mul10 (v : Nat) : nI v * 10 = nI (10 * v) := by
  rw [show (10 : Int32) = nI 10 from rfl, pk_mul, Nat.mul_comm]
theorem cl_parseKey (h : PS S l1 l2 l3 l4 loc ow σ σ1 M C N p n tp) (hy : Ty σ1 y) (hpy : p ≤ y) {post : Int32 → MS → Prop} (h1 : ∀ v p' S', KyOk (σ1.2 24) y p v p' → PS S' l1 l2 l3 l4 loc ow σ σ1 M C N p' n tp → post (nI v) S') (h0 : ∀ p' S', KyNo (σ1.2 24) y p p' → PS S' l1 l2 l3 l4 loc ow σ σ1 M C N p' n tp → post (-1) S') : w_X3_parseKey S (loc 5) post := by
  have k5 := h.1.scr.2.1
  have y60 := hy.2.1
  refine ⟨k5, cl_current h.1 hy h.2.1 hpy (cl_isDigit (fun d => ⟨fun _ => ⟨k5, cl_current h.1 hy h.2.1 hpy (fun v9 hv9 => ⟨k5, fun S11 e11 => ?_⟩)⟩, fun q => absurd q ne10⟩) (fun d => ⟨fun q => absurd rfl q, fun _ => h0 p S (Or.inl ⟨d, rfl⟩) h⟩))⟩
  rw [h.2.1, nI_1] at e11
  rw [e11]
  have hp1 := ps_pos (q := p + 1) h
  obtain ⟨d1, d2⟩ := dg_nI d
  have ec : cu (σ1.2 24) y p = nI (48 + dv (σ1.2 24) p) := by rw [cu, if_pos d.1]; exact d2
  rw [ec, sub48] at hv9
  have hpy1 : p + 1 ≤ y := d.1
  have k5' := hp1.1.scr.2.1
  refine cl_current hp1.1 hy hp1.2.1 hpy1 (cl_isDigit (fun d' => ⟨fun _ => ⟨k5', cl_current hp1.1 hy hp1.2.1 hpy1 (fun v20 hv20 => ?_)⟩, fun q => absurd q ne10⟩) (fun d' => ⟨fun q => absurd rfl q, fun _ => ?_⟩))
  · obtain ⟨d3, d4⟩ := dg_nI d'
    have ec' : cu (σ1.2 24) y (p + 1) = nI (48 + dv (σ1.2 24) (p + 1)) := by rw [cu, if_pos d'.1]; exact d4
    rw [ec', sub48, hv9, mul10, nI_add] at hv20
    rw [hv20]
    refine ⟨fun q => ⟨k5', fun S22 e22 => ?_⟩, fun q => h0 (p + 1) _ (Or.inr ⟨d, d', fun x => q (nI_lt (b := 32) x (by omega)), rfl⟩) hp1⟩
    rw [hp1.2.1, nI_1] at e22
    rw [e22]
    exact h1 _ (p + 2) _ ⟨d, Or.inl ⟨d', Classical.byContradiction (fun x => nI_nl (a := 32) (by omega) (by omega) q), rfl, rfl⟩⟩ (ps_pos hp1)
  · rw [hv9]
    exact h1 _ (p + 1) _ ⟨d, Or.inr ⟨d', rfl, rfl⟩⟩ hp1
end SCP
