/-! the steps are performed -/
section ST2
variable {S S' : MS} {l1 l2 l3 l4 : Nat} {loc ow : Nat → Nat} {σ σ1 : Sg} {M C N : Nat}
theorem cl_start2 (h : MR S l1 l2 l3 l4 loc ow σ σ1 M C N) (hM : M < 80) (h1 : σ1.1 1 = nI M) (hf : σ1.2 4 M = 0 ∧ σ1.2 5 M = 0 ∧ σ1.2 6 M = 0) (hcm : ∀ c, 1 ≤ c → c ≤ C → ∃ t : Nat, t < M ∧ σ1.2 16 c = nI t) {a : Int32} {post : Nat → MS → Prop} (hp : ∀ S' loc' ow', MR S' l1 l2 l3 l4 loc' ow' σ (bG σ1 M a) (M + 1) C N → (∀ x, kT S x ≠ 0 → x ≠ l1 → x ≠ loc 3 → Sm S S' x) → (∀ r, Us σ1 M N r → loc' r = loc r) → (∀ r, Us (bG σ1 M a) (M + 1) N r → Us σ1 M N r ∨ kT S (loc' r) = 0) → post (loc' (200 + M)) S') : w_X5_start S l1 a post := by
  have u1 : Us σ1 M N 1 := us_s (by omega) (by omega)
  have u3 : Us σ1 M N 3 := us_s (by omega) (by omega)
  have e1 : loc 1 = l1 := h.1
  have hk1 := h.k1
  have hk3 : sR S l1 1 = loc 3 ∧ kT S (loc 3) = 13 ∧ kL S (loc 3) = 80 := by
    obtain ⟨-, -, x, y, -, -, -, -, -, -, -, -, -, -, -, -, -, -, -, -, e, -⟩ := h.st
    rw [← e1]; exact ⟨e, x, y⟩
  unfold w_X5_start
  intro q1 kq1 zq1 S2 e2
  have nq1 : l1 ≠ q1 := fun e => by rw [e, kq1] at hk1; exact absurd hk1 (by decide)
  rw [e2]
  refine ⟨by rw [(sm_nw nq1).T]; exact hk1, ?_⟩
  rw [(sm_nw nq1).2.1, h.scal.1, h1]
  refine cl_txInit kq1 zq1 (fun S5 q6 q13 q22 hn => ?_)
  have hr := mr_start h hM h1 hf hcm hn
  obtain ⟨n1, -, ⟨o1, o6, o13, o22⟩, -, c1, -⟩ := id hn
  have fr : ∀ {r}, Us σ1 M N r → Sm S S5 (loc r) := fun {r} hr => by
    have k := (h.owr r hr).2
    exact n1 _ (fun e => k (by rw [e]; exact o1)) (fun e => k (by rw [e]; exact o6)) (fun e => k (by rw [e]; exact o13)) (fun e => k (by rw [e]; exact o22))
  have s1 := fr u1
  rw [e1] at s1
  have s3 := fr u3
  rw [s1.T, s1.2.1, h.scal.1, h1, s1.2.2, hk3.1, s3.T, s3.L, hk3.2.2, ix_nI (by omega)]
  refine ⟨hk1, fun q => absurd q (show ¬ nI 80 ≤ nI M from nI_ge hM (by omega)), fun _ => ⟨hk3.2.1, c1, vp_in_nI (by omega) (by omega), fun S11 e11 S15 e15 => ?_⟩⟩
  have e6 : sI S11 l1 6 + 1 = nI (M + 1) := by
    rw [e11]
    show sI S5 l1 6 + 1 = _
    rw [s1.2.1, h.scal.1, h1, nI_1]
  rw [e6, e11] at e15
  have x1 : ∀ x, kT S x ≠ 0 → x ≠ l1 → x ≠ loc 3 → Sm S (pI (pR S5 (loc 3) M q1) l1 6 (nI (M + 1))) x := fun x hx h1 h3 => (n1 x (fun e => hx (by rw [e]; exact o1)) (fun e => hx (by rw [e]; exact o6)) (fun e => hx (by rw [e]; exact o13)) (fun e => hx (by rw [e]; exact o22))).tr ((sm_pR h3).tr (sm_pI h1))
  have hN := h.bd.2.2
  have x2 : ∀ r, Us σ1 M N r → locT loc M q1 q6 q13 q22 r = loc r := fun r hr' => by
    obtain ⟨g1, g2, g3, g4⟩ := us_old hM hr' hN
    unfold locT
    rw [if_neg g1, if_neg g2, if_neg g3, if_neg g4]
  have x3 : ∀ r, Us (bG σ1 M a) (M + 1) N r → Us σ1 M N r ∨ kT S (locT loc M q1 q6 q13 q22 r) = 0 := fun r hr' => by
    rcases us_new (σ2 := bG σ1 M a) hM (fun i => (bR_row σ1 M a).2.2.2.2.1 i) hr' with g | g | g | g | g
    · exact Or.inl g
    · right; unfold locT; rw [if_pos g]; exact o1
    · right; unfold locT; rw [if_neg (by omega), if_pos g]; exact o6
    · right; unfold locT; rw [if_neg (by omega), if_neg (by omega), if_pos g]; exact o13
    · right; unfold locT; rw [if_neg (by omega), if_neg (by omega), if_neg (by omega), if_pos g]; exact o22
  have L1 : locT loc M q1 q6 q13 q22 (200 + M) = q1 := by unfold locT; rw [if_pos rfl]
  have hb0 := (bR_row σ1 M a).1
  unfold b_X5_start_42 b_X5_start_66
  rw [e15]
  have sc := hr.scal
  have v13 : (sF (bR σ1 M a) 1 (nI (M + 1))).1 13 = σ1.1 13 := by show (bR σ1 M a).1 13 = _; rw [hb0]
  have v19 : (sF (bR σ1 M a) 1 (nI (M + 1))).1 19 = σ1.1 19 := by show (bR σ1 M a).1 19 = _; rw [hb0]
  rw [sc.2.2.2.2.2.1, sc.2.2.2.2.1, v13, v19]
  have stay : ¬ (¬ a ≤ σ1.1 19 ∧ σ1.1 13 = -1) → bG σ1 M a = sF (bR σ1 M a) 1 (nI (M + 1)) := fun q => by
    unfold bG
    rw [if_neg q, ← hb0, sF_same]
  refine ⟨hr.k1, fun q => ?_, fun q => ⟨fun q2 => ?_, fun q2 => ?_⟩⟩
  · have := hp _ (locT loc M q1 q6 q13 q22) (owT ow M q1 q6 q13 q22) (by rw [stay (fun r => q r.2)]; exact hr) x1 x2 x3
    rw [L1] at this; exact this
  · have := hp _ (locT loc M q1 q6 q13 q22) (owT ow M q1 q6 q13 q22) (by rw [stay (fun r => r.1 q2)]; exact hr) x1 x2 x3
    rw [L1] at this; exact this
  · have tx := hr.tx (show M < M + 1 by omega)
    have tx1 := tx.1
    have tx2 := tx.2.2.2.2.2.2.2.2.2.2.2.1
    rw [L1] at tx1 tx2
    refine ⟨tx1, fun S3 e3 => ?_⟩
    rw [tx2] at e3
    rw [e3]
    have hp2 := hp (pI (pI (pR S5 (loc 3) M q1) l1 6 (nI (M + 1))) l1 11 (nI M)) (locT loc M q1 q6 q13 q22) (owT ow M q1 q6 q13 q22)
    rw [L1] at hp2
    refine hp2 ?_ (fun x hx h1 h3 => (x1 x hx h1 h3).tr (sm_pI h1)) x2 x3
    have := mr_x (σ2 := sF (sF (bR σ1 M a) 1 (nI (M + 1))) 13 (nI M)) (k := 11) (v := nI M) hr rfl rfl rfl rfl rfl rfl rfl rfl rfl rfl
    unfold bG
    rw [if_pos ⟨q2, q⟩, sF_comm _ (by decide)]
    exact this
end ST2
theorem opG_7 (σ : Sg) (C t z p kd lo hi : Nat) (num r : Int32) : ∀ i, (opG σ C t z p kd lo hi num r).2 7 i = if i = t then nI (z + 1) else σ.2 7 i := fun i => by
  have b2 := (gL_row σ C t z p kd lo hi num r).2.2.1
  rw [opG_eq]
  unfold gR
  split <;> split
  · rw [sA_ne _ (by decide), sA_ne _ (by decide)]; exact b2 i
  · rw [sA_ne _ (by decide)]; exact b2 i
  · rw [sA_ne _ (by decide)]; exact b2 i
  · exact b2 i
def Alw (σ : Sg) (C t : Nat) (s : Nat × Nat × Nat × Int32) : Prop := gd (nI s.2.1) (nI s.2.2.1) s.2.2.2 ∧ adO σ C t s.1 s.2.1 s.2.2.2
/-- the pure state behind a step -/
def oS (σ : Sg) (C t i : Nat) (s : Nat × Nat × Nat × Int32) : Sg := opG σ C t i (cP σ t i) s.1 s.2.1 s.2.2.1 s.2.2.2 (caV s.1 s.2.1 s.2.2.1 s.2.2.2 (vwd σ C t))
/-- the steps' outcome -/
def SRun (M C N t : Nat) (tp : Nat → Nat × Nat × Nat × Int32) : Nat → Nat → Sg → Int32 → Sg → Nat → Prop
  | 0, i, σ, r, σ', C' => CmO σ M C N t i r σ' C'
  | k + 1, i, σ, r, σ', C' => (¬ Alw σ C t (tp i) ∧ r = -2 ∧ σ' = eW σ t 5 ∧ C' = C) ∨ (Alw σ C t (tp i) ∧ WF (oS σ C t i (tp i)) M C N ∧ PO (oS σ C t i (tp i)) M ∧ SRun M C N t tp k (i + 1) (oS σ C t i (tp i)) r σ' C')
section RUN
variable {S S' : MS} {l1 l2 l3 l4 : Nat} {loc ow : Nat → Nat} {σ σ1 : Sg} {M C N : Nat} {tp : Nat → Nat × Nat × Nat × Int32}
theorem cl_isAllowed (h : Mid S l1 l2 l3 l4 loc ow σ σ1 M C N) {t z q : Nat} {s : Nat × Nat × Nat × Int32} (ht : t < M) (hst : σ1.2 2 t = 0) (hz : σ1.2 7 t = nI z) (h24 : z < 24) (hs : Sv s) (o : Opq S loc σ1 M N q (nI s.1) (nI s.2.1) (nI s.2.2.1) s.2.2.2) {post : Int32 → MS → Prop} (h1 : ∀ S', Mid S' l1 l2 l3 l4 loc ow σ σ1 M C N → (∀ a, a ≠ loc 6 → Sm S S' a) → Alw σ1 C t s → post 1 S') (h0 : ∀ S', Mid S' l1 l2 l3 l4 loc ow σ σ1 M C N → ¬ Alw σ1 C t s → post 0 S') : w_X5_isAllowed S l1 (loc (200 + t)) q post := by
  have u6 : Us σ1 M N 6 := us_s (by omega) (by omega)
  obtain ⟨v1, v2, v3, -⟩ := hs
  unfold w_X5_isAllowed b_X5_isAllowed_30 b_X5_isAllowed_31
  refine ⟨o.1, cl_wellFormed o (fun g => ⟨fun q => absurd q ne10, fun _ => ⟨(h.tx ht).1, cl_canOperate h ht (fun z' _ _ _ => ⟨fun q => absurd q ne10, fun _ => ⟨h.k1, cl_viewOf h ht (fun S2 h2 sm2 w2 => ?_)⟩⟩) (fun g2 => absurd ⟨hst, ?_⟩ g2)⟩⟩) (fun g => ⟨fun _ => ⟨zb0, h0 S h (fun r => g r.1)⟩, fun q => absurd rfl q⟩)⟩
  · have q6 : q ≠ loc 6 := Ne.symm (o.2.2.1 6 u6)
    have o2 := o.sm (sm2 q q6)
    obtain ⟨x1, x2, x3⟩ := h2.vwr
    refine ⟨o2.1, cl_stays o2 (by omega) v2 x2 x3 w2 (fun g3 => ⟨fun q => absurd q ne10, fun _ => ⟨zb1, h1 S2 h2 sm2 ⟨g, g3⟩⟩⟩) (fun g3 => ⟨fun _ => ⟨zb0, h0 S2 h2 (fun r => g3 r.2)⟩, fun q => absurd rfl q⟩)⟩
  · rw [hz]
    exact fun e => by have := (nI_eq (a := z) (b := 24) (by omega) (by omega)).mp e; omega
theorem cl_stepAt (h : Mid S l1 l2 l3 l4 loc ow σ σ1 M C N) {i n : Nat} (hi : i < n) (hn : n ≤ 20) (hc : sI S (loc 5) 4 = nI n) {post : Nat → MS → Prop} (hp : post (sR S (loc 11) i) S) : w_X3_stepAt S (loc 5) (nI i) post := by
  obtain ⟨c1, c2, c3, c4, c5, c6, c7, c8, c9, c10⟩ := h.scr
  unfold w_X3_stepAt b_X3_stepAt_21 b_X3_stepAt_22
  rw [hc, c4, c8, ix_nI (by omega)]
  exact ⟨fun q => absurd q (nI_pos (by omega)), fun _ => ⟨c2, fun q => absurd q (nI_ge hi (by omega)), fun _ => ⟨c7, vp_in_nI (by omega) (by omega), hp⟩⟩⟩
theorem cl_run_loop {t n : Nat} (ht : t < M) (hn : n ≤ 20) (hv : ∀ j, j < n → Sv (tp j)) {post : Int32 → MS → Prop} : ∀ k i (S : MS) (loc ow : Nat → Nat) (σ1 : Sg), i + k = n → Mid S l1 l2 l3 l4 loc ow σ σ1 M C N → σ1.2 2 t = 0 → σ1.2 7 t = nI i → Std S loc σ1 M N i n tp → sI S (loc 5) 4 = nI n →
    (∀ S' loc' ow' σ', Mid S' l1 l2 l3 l4 loc' ow' σ σ' M C N → loc' (200 + t) = loc (200 + t) → σ'.2 2 t = 0 → σ'.2 7 t = nI n → (∀ r σ2 C2, CmO σ' M C N t n r σ2 C2 → SRun M C N t tp k i σ1 r σ2 C2) → post 1 S') →
    (∀ S' loc' ow' σ', Mid S' l1 l2 l3 l4 loc' ow' σ σ' M C N → SRun M C N t tp k i σ1 (-2) σ' C → post 0 S') → b_X5_performSteps_2 post (k + 1) S l1 (loc (200 + t)) (nI i) := by
  intro k
  induction k with
  | zero =>
    intro i S loc ow σ1 hi h hst hz hstd hc h1 h0
    obtain ⟨c1, c2, -⟩ := h.scr
    have e : i = n := by omega
    subst e
    rw [b_X5_performSteps_2]
    dsimp only
    rw [c1, hc]
    exact ⟨h.k1, c2, fun _ => h1 S loc ow σ1 h rfl hst hz (fun r σ2 C2 hr => hr), fun q => absurd (Int32.le_refl _) q⟩
  | succ k ih =>
    intro i S loc ow σ1 hi h hst hz hstd hc h1 h0
    obtain ⟨c1, c2, -⟩ := h.scr
    have hM := h.M80
    have hN := h.mr.bd.2.2
    have hin : i < n := by omega
    have o := hstd.1 i (Nat.le_refl i) hin
    have sv := hv i hin
    have u5 : Us σ1 M N 5 := us_s (by omega) (by omega)
    have u6 : Us σ1 M N 6 := us_s (by omega) (by omega)
    have u11 : Us σ1 M N 11 := us_s (by omega) (by omega)
    obtain ⟨ut1, ut2, ut3, ut4⟩ := us_t (σ := σ1) (N := N) ht
    rw [b_X5_performSteps_2]
    dsimp only
    simp only [b_X5_performSteps_35]
    rw [c1, hc]
    refine ⟨h.k1, c2, fun q => absurd q (nI_ge hin (by omega)), fun _ => cl_stepAt h hin hn hc ⟨fun q => absurd q o.2.1, fun _ => ⟨h.k1, cl_isAllowed h ht hst hz (by omega) sv o (fun S6 h6 sm6 al => ⟨fun _ => ⟨h6.k1, ?_⟩, fun q => absurd q ne10⟩) (fun S6 h6 al => ⟨fun q => absurd rfl q, fun _ => ⟨h6.k1, cl_endInAbort h6.mr ht (fun S8 h8 => h0 S8 loc ow (eW σ1 t 5) (h8.mid (wf_eW h.wf ht (fun c hc1 hcc e => ?_) 5)) (Or.inl ⟨al, rfl, rfl, rfl⟩))⟩⟩)⟩⟩⟩
    · have o6 := o.sm (sm6 _ (Ne.symm (o.2.2.1 6 u6)))
      obtain ⟨a', b', hab, hb, ea, eb⟩ := gd_nI al.1
      refine cl_perform h6 ht hst hz (by omega) (by have := sv.1; omega) sv.2.1 sv.2.2.1 o6 al.1.2 al.2 (fun S9 h9 sm9 v11 hv11 => ?_)
      rw [hv11, nI_1]
      have n5 : (5 : Nat) ≠ 1000 + (24 * t + i) := by omega
      have L : ∀ r, r ≠ 1000 + (24 * t + i) → locO loc (1000 + (24 * t + i)) (sR S (loc 11) i) r = loc r := fun r hr => if_neg hr
      have sm : ∀ x, x ≠ sR S (loc 11) i → x ≠ loc 6 → x ≠ loc (200 + t) → x ≠ loc (300 + t) → x ≠ loc (400 + t) → x ≠ loc (500 + t) → Sm S S9 x := fun x g1 g2 g3 g4 g5 g6 => (sm6 x g2).tr (sm9 x g1 g2 g3 g4 g5 g6)
      have s5 := sm (loc 5) (o.2.2.1 5 u5) (h.ne u5 u6 (by omega)) (h.ne u5 ut1 (by omega)) (h.ne u5 ut2 (by omega)) (h.ne u5 ut3 (by omega)) (h.ne u5 ut4 (by omega))
      have s11 := sm (loc 11) (o.2.2.1 11 u11) (h.ne u11 u6 (by omega)) (h.ne u11 ut1 (by omega)) (h.ne u11 ut2 (by omega)) (h.ne u11 ut3 (by omega)) (h.ne u11 ut4 (by omega))
      obtain ⟨g0, g7, gr⟩ := opG_1 σ1 C t i (cP σ1 t i) (tp i).1 (tp i).2.1 (tp i).2.2.1 (tp i).2.2.2 (caV (tp i).1 (tp i).2.1 (tp i).2.2.1 (tp i).2.2.2 (vwd σ1 C t))
      have h9' : Mid S9 l1 l2 l3 l4 (locO loc (1000 + (24 * t + i)) (sR S (loc 11) i)) (owO ow (1000 + (24 * t + i)) (sR S (loc 11) i)) σ (oS σ1 C t i (tp i)) M C N := h9
      have Lt := L (200 + t) (by omega)
      rw [← Lt]
      refine ih (i + 1) S9 _ _ (oS σ1 C t i (tp i)) (by omega) h9' ((congrFun (gr 2 (by decide) (by decide) (by decide) (by decide) (by decide) (by decide)) t).trans hst) g7 ⟨fun j a b => ?_, fun j j' a b c => ?_⟩ (by rw [L 5 n5, s5.2.1]; exact hc) (fun S' loc' ow' σ' hm hl hs2 hs7 hr => h1 S' loc' ow' σ' hm (hl.trans Lt) hs2 hs7 (fun r σ2 C2 hcm => Or.inr ⟨al, h9'.wf, h9'.po, hr r σ2 C2 hcm⟩)) (fun S' loc' ow' σ' hm hr => h0 S' loc' ow' σ' hm (Or.inr ⟨al, h9'.wf, h9'.po, hr⟩))
      · rw [L 11 (by omega), s11.2.2]
        have oj := hstd.1 j (by omega) b
        have ne := hstd.2 i j (Nat.le_refl i) (by omega) b
        have smj := sm (sR S (loc 11) j) (Ne.symm ne) (Ne.symm (oj.2.2.1 6 u6)) (Ne.symm (oj.2.2.1 _ ut1)) (Ne.symm (oj.2.2.1 _ ut2)) (Ne.symm (oj.2.2.1 _ ut3)) (Ne.symm (oj.2.2.1 _ ut4))
        obtain ⟨y1, y2, y3, y4⟩ := oj.sm smj
        refine ⟨y1, y2, fun r hr => ?_, y4⟩
        rcases us_op ht hz (by omega) (opG_7 σ1 C t i (cP σ1 t i) (tp i).1 (tp i).2.1 (tp i).2.2.1 (tp i).2.2.2 (caV (tp i).1 (tp i).2.1 (tp i).2.2.1 (tp i).2.2.2 (vwd σ1 C t))) hr with g | g
        · rw [L r (us_opn hM hN ht hz (by omega) g)]; exact y3 r g
        · rw [g]
          show (if 1000 + (24 * t + i) = 1000 + (24 * t + i) then sR S (loc 11) i else _) ≠ _
          rw [if_pos rfl]; exact ne
      · rw [L 11 (by omega), s11.2.2]
        exact hstd.2 j j' (by omega) b c
    · have := (h.wf.com hc1 hcc).2.2.1
      rw [e, hst] at this
      exact absurd this (by decide)
end RUN
