/-! the start: what the two constructors leave -/
def AL (S : MS) (loc ow : Nat → Nat) (U : Nat → Prop) : Prop := ∀ r, U r → ow (loc r) = r ∧ kT S (loc r) ≠ 0
theorem al_bulk {Sb S : MS} {loc ow : Nat → Nat} {U K : Nat → Prop} {h : Nat → Nat} (al : AL Sb loc ow U) (mono : ∀ a, kT Sb a ≠ 0 → kT S a ≠ 0) (hk : ∀ r, K r → kT Sb (h r) = 0 ∧ kT S (h r) ≠ 0) (inj : ∀ r q, K r → K q → h r = h q → r = q) (dis : ∀ r, U r → ¬ K r) : ∃ loc' ow' : Nat → Nat, (∀ r, U r → loc' r = loc r) ∧ (∀ r, K r → loc' r = h r) ∧ AL S loc' ow' (fun r => U r ∨ K r) := by
  refine ⟨fun r => @ite _ (K r) (Classical.propDecidable _) (h r) (loc r), fun a => @dite _ (∃ r, K r ∧ h r = a) (Classical.propDecidable _) (fun e => Classical.choose e) (fun _ => ow a), fun r hr => @if_neg _ (Classical.propDecidable _) (dis r hr) _ _ _, fun r hr => @if_pos _ (Classical.propDecidable _) hr _ _ _, fun r hr => ?_⟩
  dsimp only
  by_cases q : K r
  · rw [show (@ite _ (K r) (Classical.propDecidable _) (h r) (loc r)) = h r from @if_pos _ (Classical.propDecidable _) q _ _ _]
    refine ⟨?_, (hk r q).2⟩
    have ex : ∃ r', K r' ∧ h r' = h r := ⟨r, q, rfl⟩
    rw [@dif_pos _ (Classical.propDecidable _) ex]
    have sp := Classical.choose_spec ex
    exact inj _ _ sp.1 q sp.2
  · have hu : U r := hr.elim id (fun x => absurd x q)
    rw [show (@ite _ (K r) (Classical.propDecidable _) (h r) (loc r)) = loc r from @if_neg _ (Classical.propDecidable _) q _ _ _]
    obtain ⟨o1, o2⟩ := al r hu
    refine ⟨?_, mono _ o2⟩
    have nex : ¬ ∃ r', K r' ∧ h r' = loc r := fun ⟨r', k1, k2⟩ => o2 (by rw [← k2]; exact (hk r' k1).1)
    rw [@dif_neg _ (Classical.propDecidable _) nex]
    exact o1
theorem al_one {Sb S : MS} {loc ow : Nat → Nat} {U : Nat → Prop} {q r0 : Nat} (al : AL Sb loc ow U) (mono : ∀ a, kT Sb a ≠ 0 → kT S a ≠ 0) (hk : kT Sb q = 0) (hk' : kT S q ≠ 0) (dis : ¬ U r0) : ∃ loc' ow' : Nat → Nat, (∀ r, U r → loc' r = loc r) ∧ loc' r0 = q ∧ AL S loc' ow' (fun r => U r ∨ r = r0) := by
  obtain ⟨l', o', a, b, c⟩ := al_bulk (K := fun r => r = r0) (h := fun _ => q) al mono (fun r _ => ⟨hk, hk'⟩) (fun r q' h1 h2 _ => h1.trans h2.symm) (fun r hr e => dis (e ▸ hr))
  exact ⟨l', o', a, b r0 rfl, c⟩
/-- old cells stay, but x -/
def Fr (x : Nat) (Sb S : MS) : Prop := ∀ a, (a = 0 ∨ kT Sb a ≠ 0) → a ≠ x → Sm Sb S a
theorem Fr.rf (x : Nat) (S : MS) : Fr x S S := fun a _ _ => Sm.rf S a
theorem Fr.tr {x : Nat} {S1 S2 S3 : MS} (h1 : Fr x S1 S2) (h2 : Fr x S2 S3) : Fr x S1 S3 := fun a ha hx => by
  have s := h1 a ha hx
  exact s.tr (h2 a (ha.imp id (fun k => by rw [s.T]; exact k)) hx)
theorem Fr.nw {x : Nat} {Sb S : MS} (h : Fr x Sb S) {q t n : Nat} (hq : kT S q = 0) (hz : q ≠ 0) : Fr x Sb (nw S q t n) := fun a ha hx => by
  have s := h a ha hx
  refine s.tr (sm_nw (fun e => ?_))
  rcases ha with e0 | k
  · exact hz (e ▸ e0)
  · rw [← s.T, e] at k; exact k hq
theorem Fr.pR {x : Nat} {Sb S : MS} (h : Fr x Sb S) {k v : Nat} : Fr x Sb (pR S x k v) := fun a ha hx => (h a ha hx).tr (sm_pR hx)
theorem Fr.pI {x : Nat} {Sb S : MS} (h : Fr x Sb S) {k : Nat} {v : Int32} : Fr x Sb (pI S x k v) := fun a ha hx => (h a ha hx).tr (sm_pI hx)
theorem Fr.kt {x : Nat} {Sb S : MS} (h : Fr x Sb S) (hx : kT S x ≠ 0) : ∀ a, kT Sb a ≠ 0 → kT S a ≠ 0 := fun a ha => by
  by_cases e : a = x
  · rw [e]; exact hx
  · rw [(h a (Or.inr ha) e).T]; exact ha
theorem mem_rows {a N : Nat} {r : Nat → Nat} : a ∈ (List.range N).map r ↔ ∃ i, i < N ∧ r i = a := by
  simp [List.mem_map, List.mem_range]
section HIN
variable {S : MS}
theorem cl_fill {b : Nat} {v : Int32} (S0 : MS) (hb : kT S0 b = 9 ∧ kL S0 b = 32) {post : MS → Prop} (hp : ∀ S', (∀ a, a ≠ b → Sm S0 S' a) → S'.1 = S0.1 → (∀ k, k < 32 → sI S' b k = v) → post S') : ∀ n i (S : MS), i + n = 32 → (∀ a, a ≠ b → Sm S0 S a) → S.1 = S0.1 → (∀ k, k < i → sI S b k = v) → b_J7_fill_53178_5 post (n + 1) S b v (nI i) (nI 32) := by
  intro n
  induction n with
  | zero =>
    intro i S hi hs hk h1
    have e : i = 32 := by omega
    subst e
    rw [b_J7_fill_53178_5]
    exact ⟨fun _ => hp S hs hk h1, fun q => absurd (Int32.le_refl _) q⟩
  | succ n ih =>
    intro i S hi hs hk h1
    have kb : kT S b = 9 ∧ kL S b = 32 := by
      unfold kT kL at hb ⊢
      rw [hk]; exact hb
    rw [b_J7_fill_53178_5]
    dsimp only
    rw [kb.2, ix_nI (by omega)]
    refine ⟨fun q => absurd q (nI_ge (by omega) (by omega)), fun _ => ⟨kb.1, vp_in_nI (by omega) (by omega), fun S3 e3 v5 hv5 => ?_⟩⟩
    rw [hv5, nI_1, e3]
    refine ih (i + 1) _ (by omega) (fun a ha => (hs a ha).tr (sm_pI ha)) hk (fun k hk' => ?_)
    rw [sI_pI, if_pos rfl]
    by_cases e : k = i
    · rw [if_pos e]
    · rw [if_neg e]; exact h1 k (by omega)
/-- a new history -/
def HN (S S' : MS) (q qs qa : Nat) (r : Nat → Nat) : Prop := (∀ a, (a = 0 ∨ kT S a ≠ 0) → Sm S S' a) ∧ (∀ a, kT S' a ≠ 0 → a ≠ 0 ∨ kT S a ≠ 0) ∧ (kT S q = 0 ∧ kT S qs = 0 ∧ kT S qa = 0 ∧ ∀ i, i < 61 → kT S (r i) = 0) ∧ (q ≠ qs ∧ q ≠ qa ∧ qs ≠ qa ∧ (∀ i, i < 61 → r i ≠ q ∧ r i ≠ qs ∧ r i ≠ qa) ∧ ∀ i j, i < 61 → j < 61 → r i = r j → i = j) ∧ (kT S' q = 2 ∧ sR S' q 0 = qs ∧ sR S' q 1 = qa ∧ (∀ j, sI S' q j = 0)) ∧ (kT S' qs = 14 ∧ kL S' qs = 61 ∧ ∀ i, i < 61 → sR S' qs i = r i) ∧ (kT S' qa = 13 ∧ kL S' qa = 61) ∧ (∀ i, i < 61 → kT S' (r i) = 9 ∧ kL S' (r i) = 32) ∧ (∀ k, k < 32 → sI S' (r 0) k = -1000)
theorem cl_hisInit {q : Nat} (hq : kT S q = 0) (hz : ¬ q = 0) {post : MS → Prop} (hp : ∀ S' qs qa r, HN S S' q qs qa r → post S') : w_X1_init (nw S q 2 0) q post := by
  refine ⟨kT_nw _ _ _ _, fun qs r S9 hm => ?_⟩
  obtain ⟨m1, m2, m3, m4, m5⟩ := hm
  have nq : qs ≠ q := fun e => by rw [e, kT_nw] at m1; exact absurd m1 (by decide)
  have nr : ∀ i, i < 61 → r i ≠ q := fun i hi e => by
    have := (m3 i hi).1
    rw [e, kT_nw] at this; exact absurd this (by decide)
  have fs : kT S qs = 0 := by rw [← (sm_nw (S := S) (t := 2) (n := 0) nq).T]; exact m1
  have fr : ∀ i, i < 61 → kT S (r i) = 0 := fun i hi => by rw [← (sm_nw (S := S) (t := 2) (n := 0) (nr i hi)).T]; exact (m3 i hi).1
  have s9 : ∀ a, a ≠ qs → (∀ i, i < 61 → r i ≠ a) → Sm (nw S q 2 0) S9 a := fun a h1 h2 => by
    have hn : ¬ a ∈ (List.range 61).map r := fun x => by
      obtain ⟨i, hi, e⟩ := mem_rows.mp x
      exact h2 i hi e
    rw [m5]
    refine ⟨?_, ?_, ?_⟩
    · simp only [mnaS, if_neg h1, if_neg hn]
    · funext j
      simp only [mnaS, sI, h1, hn, or_self, if_false]
    · funext j
      simp only [mnaS, sR, if_neg h1, if_neg hn]
  have k9s : S9.1 qs = (14, 61) := by rw [m5]; simp only [mnaS, if_pos]
  have r9s : ∀ i, i < 61 → sR S9 qs i = r i := fun i hi => by rw [m5]; simp only [mnaS, sR, if_pos, if_pos hi]
  have k9r : ∀ i, i < 61 → S9.1 (r i) = (9, 32) := fun i hi => by
    have hm : r i ∈ (List.range 61).map r := mem_rows.mpr ⟨i, hi, rfl⟩
    rw [m5]
    simp only [mnaS, if_neg (m3 i hi).2.2, if_pos hm]
  have s9q := s9 q (Ne.symm nq) (fun i hi => nr i hi)
  refine ⟨by rw [s9q.T]; exact kT_nw _ _ _ _, fun S5 e5 q7 k7 z7 S8 e8 S11 e11 => ?_⟩
  have k5 : S5.1 = S9.1 := by rw [e5]; rfl
  have k7' : kT S9 q7 = 0 := by
    unfold kT at k7 ⊢
    rw [← k5]; exact k7
  have n7q : q7 ≠ q := fun e => by rw [e, s9q.T, kT_nw] at k7'; exact absurd k7' (by decide)
  have n7s : q7 ≠ qs := fun e => by
    unfold kT at k7'
    rw [e, k9s] at k7'
    exact absurd k7' (by decide)
  have n7r : ∀ i, i < 61 → r i ≠ q7 := fun i hi e => by
    unfold kT at k7'
    rw [← e, k9r i hi] at k7'
    exact absurd k7' (by decide)
  have f7 : kT S q7 = 0 := by
    rw [← (sm_nw (S := S) (t := 2) (n := 0) n7q).T, ← (s9 q7 n7s n7r).T]; exact k7'
  have s11 : ∀ a, a ≠ q → a ≠ q7 → Sm S9 S11 a := fun a h1 h2 => by
    rw [e11, e8, e5]
    exact (sm_pR h1).tr ((sm_nw h2).tr (sm_pR h1))
  have r11q : ∀ j, sR S11 q j = if j = 1 then q7 else if j = 0 then qs else sR S9 q j := fun j => by
    rw [e11, sR_pR, if_pos rfl, e8, (sm_nw (Ne.symm n7q)).2.2, e5, sR_pR, if_pos rfl]
  have i11q : ∀ j, sI S11 q j = 0 := fun j => by
    have : sI S11 q = sI S9 q := by
      rw [e11]
      show sI S8 q = _
      rw [e8, (sm_nw (Ne.symm n7q)).2.1, e5]
      rfl
    rw [this, s9q.2.1]
    exact sI_nw _ _ _ _ _
  have k11q : kT S11 q = 2 := by
    have : kT S11 q = kT S9 q := by
      rw [e11]
      show kT S8 q = _
      rw [e8, (sm_nw (Ne.symm n7q)).T, e5]
      rfl
    rw [this, s9q.T]; exact kT_nw _ _ _ _
  have k11a : S11.1 q7 = (13, 61) := by
    rw [e11, e8]
    show (if q7 = q7 then (13, 61) else _) = _
    rw [if_pos rfl]
  have t11s := s11 qs nq (Ne.symm n7s)
  have t11r := fun i hi => s11 (r i) (nr i hi) (n7r i hi)
  have a0 : sR S11 q 0 = qs := by rw [r11q, if_neg (by decide), if_pos rfl]
  have a1 : sR S11 qs (ix 0) = r 0 := by
    rw [t11s.2.2]
    exact r9s 0 (by omega)
  have kr0 : kT S11 (r 0) = 9 ∧ kL S11 (r 0) = 32 := by
    rw [(t11r 0 (by omega)).T, (t11r 0 (by omega)).L]
    unfold kT kL
    rw [k9r 0 (by omega)]
    exact ⟨rfl, rfl⟩
  have ks : kT S11 qs = 14 ∧ kL S11 qs = 61 := by
    rw [t11s.T, t11s.L]
    unfold kT kL
    rw [k9s]
    exact ⟨rfl, rfl⟩
  rw [a0, a1, ks.1, ks.2]
  refine ⟨rfl, by unfold vp_in; decide, kr0.1, fun v2 hv2 => ⟨33, ?_⟩⟩
  rw [hv2, kr0.2]
  refine cl_fill S11 kr0 (fun S16 s16 k16 w16 => hp S16 qs q7 r ⟨fun a ha => ?_, fun a ha => ?_, ⟨hq, fs, f7, fr⟩, ⟨Ne.symm nq, Ne.symm n7q, Ne.symm n7s, fun i hi => ⟨nr i hi, (m3 i hi).2.2, n7r i hi⟩, m4⟩, ?_, ?_, ?_, fun i hi => ?_, w16⟩) 32 0 S11 (by omega) (fun a _ => Sm.rf S11 a) rfl (fun k hk => absurd hk (by omega))
  · have x1 : a ≠ q := fun e => ha.elim (fun x => hz (e ▸ x)) (fun x => x (by rw [e]; exact hq))
    have x2 : a ≠ qs := fun e => ha.elim (fun x => m2 (e ▸ x)) (fun x => x (by rw [e]; exact fs))
    have x3 : a ≠ q7 := fun e => ha.elim (fun x => z7 (e ▸ x)) (fun x => x (by rw [e]; exact f7))
    have x4 : ∀ i, i < 61 → r i ≠ a := fun i hi e => ha.elim (fun x => (m3 i hi).2.1 (e.trans x)) (fun x => x (by rw [← e]; exact fr i hi))
    exact (sm_nw x1).tr ((s9 a x2 x4).tr ((s11 a x1 x3).tr (s16 a (Ne.symm (x4 0 (by omega))))))
  · by_cases e0 : a = 0
    · right
      have x1 : a ≠ q := fun e => hz (e ▸ e0)
      have x2 : a ≠ qs := fun e => m2 (e ▸ e0)
      have x3 : a ≠ q7 := fun e => z7 (e ▸ e0)
      have x4 : ∀ i, i < 61 → r i ≠ a := fun i hi e => (m3 i hi).2.1 (e.trans e0)
      rw [← ((sm_nw (S := S) (t := 2) (n := 0) x1).tr ((s9 a x2 x4).tr ((s11 a x1 x3).tr (s16 a (Ne.symm (x4 0 (by omega))))))).T]
      exact ha
    · exact Or.inl e0
  · have sq := s16 q (Ne.symm (nr 0 (by omega)))
    refine ⟨by rw [sq.T]; exact k11q, by rw [sq.2.2]; exact a0, by rw [sq.2.2, r11q, if_pos rfl], fun j => by rw [sq.2.1]; exact i11q j⟩
  · have sq := s16 qs (Ne.symm (m3 0 (by omega)).2.2)
    refine ⟨by rw [sq.T]; exact ks.1, by rw [sq.L]; exact ks.2, fun i hi => ?_⟩
    rw [sq.2.2, t11s.2.2]; exact r9s i hi
  · unfold kT kL
    rw [k16, k11a]
    exact ⟨rfl, rfl⟩
  · unfold kT kL
    rw [k16, (t11r i hi).1, k9r i hi]
    exact ⟨rfl, rfl⟩
/-- a new script -/
def SN (S S' : MS) (q qt qp : Nat) : Prop := (∀ a, (a = 0 ∨ kT S a ≠ 0) → Sm S S' a) ∧ (∀ a, kT S' a ≠ 0 → a ≠ 0 ∨ kT S a ≠ 0) ∧ (kT S q = 0 ∧ kT S qt = 0 ∧ kT S qp = 0) ∧ (q ≠ qt ∧ q ≠ qp ∧ qt ≠ qp) ∧ (kT S' q = 4 ∧ sR S' q 0 = qt ∧ sR S' q 1 = qp ∧ sI S' q 3 = 0 ∧ sI S' q 5 = -1) ∧ (kT S' qt = 8 ∧ kL S' qt = 60) ∧ (kT S' qp = 12 ∧ kL S' qp = 30)
theorem cl_scrInit {q : Nat} (hq : kT S q = 0) (hz : ¬ q = 0) {post : MS → Prop} (hp : ∀ S' qt qp, SN S S' q qt qp → post S') : w_X3_init (nw S q 4 0) q post := by
  refine ⟨kT_nw _ _ _ _, fun qt kt zt S3 e3 S6 e6 qp kp zp S10 e10 S14 e14 S18 e18 => ?_⟩
  have nt : qt ≠ q := fun e => by rw [e, kT_nw] at kt; exact absurd kt (by decide)
  have ft : kT S qt = 0 := by rw [← (sm_nw (S := S) (t := 4) (n := 0) nt).T]; exact kt
  have k6 : ∀ a, kT S6 a = kT (nw (nw S q 4 0) qt 8 60) a := fun a => by rw [e6, e3]; rfl
  have npt : qp ≠ qt := fun e => by rw [e, k6, kT_nw] at kp; exact absurd kp (by decide)
  have kp' : kT (nw S q 4 0) qp = 0 := by rw [k6] at kp; rw [← (sm_nw (S := nw S q 4 0) (t := 8) (n := 60) npt).T]; exact kp
  have np : qp ≠ q := fun e => by rw [e, kT_nw] at kp'; exact absurd kp' (by decide)
  have fp : kT S qp = 0 := by rw [← (sm_nw (S := S) (t := 4) (n := 0) np).T]; exact kp'
  have eq : S18 = pI (pR (nw (pR (nw (nw S q 4 0) qt 8 60) q 0 qt) qp 12 30) q 1 qp) q 5 (-1) := by rw [e18, e14, e10, e6, e3]
  clear e18 e14 e10 e6 e3
  subst eq
  have sm : ∀ a, a ≠ q → a ≠ qt → a ≠ qp → Sm S (pI (pR (nw (pR (nw (nw S q 4 0) qt 8 60) q 0 qt) qp 12 30) q 1 qp) q 5 (-1)) a := fun a h1 h2 h3 => (sm_nw h1).tr ((sm_nw h2).tr ((sm_pR h1).tr ((sm_nw h3).tr ((sm_pR h1).tr (sm_pI h1)))))
  refine hp _ qt qp ⟨fun a ha => ?_, fun a ha => ?_, ⟨hq, ft, fp⟩, ⟨Ne.symm nt, Ne.symm np, Ne.symm npt⟩, ?_, ?_, ?_⟩
  · exact sm a (fun e => ha.elim (fun x => hz (e ▸ x)) (fun x => x (by rw [e]; exact hq))) (fun e => ha.elim (fun x => zt (e ▸ x)) (fun x => x (by rw [e]; exact ft))) (fun e => ha.elim (fun x => zp (e ▸ x)) (fun x => x (by rw [e]; exact fp)))
  · by_cases e0 : a = 0
    · right
      rw [← (sm a (fun e => hz (e ▸ e0)) (fun e => zt (e ▸ e0)) (fun e => zp (e ▸ e0))).T]
      exact ha
    · exact Or.inl e0
  · refine ⟨?_, ?_, ?_, ?_, ?_⟩ <;> simp [kT, sI, sR, nw, pI, pR, u2, nt, np, npt, Ne.symm nt, Ne.symm np, Ne.symm npt]
  · refine ⟨?_, ?_⟩ <;> simp [kT, kL, nw, pI, pR, nt, np, npt, Ne.symm nt, Ne.symm np, Ne.symm npt]
  · refine ⟨?_, ?_⟩ <;> simp [kT, kL, nw, pI, pR, nt, np, npt, Ne.symm nt, Ne.symm np, Ne.symm npt]
end HIN
