/-! the class reads the steps -/
/-- n steps read, each with its ';', to place p -/
def Par (g : Nat → Int32) (y : Nat) (tp : Nat → Nat × Nat × Nat × Int32) : Nat → Nat → Prop
  | 0, p => p = 0
  | n + 1, p => ∃ p0 p1, Par g y tp n p0 ∧ StOk g y p0 (tp n) p1 ∧ ¬ p1 = y ∧ Is g y p1 59 ∧ p = p1 + 1
theorem Par_c {g : Nat → Int32} {y : Nat} {tp tp' : Nat → Nat × Nat × Nat × Int32} : ∀ n p, (∀ j, j < n → tp' j = tp j) → Par g y tp n p → Par g y tp' n p
  | 0, _, _, h => h
  | n + 1, p, hc, ⟨p0, p1, h1, h2, h3, h4, h5⟩ => ⟨p0, p1, Par_c n p0 (fun j hj => hc j (by omega)) h1, by rw [hc n (by omega)]; exact h2, h3, h4, h5⟩
theorem Par_bd {g : Nat → Int32} {y : Nat} {tp : Nat → Nat × Nat × Nat × Int32} : ∀ n p, Par g y tp n p → 3 * n ≤ p ∧ p ≤ y ∧ ∀ j, j < n → ∃ p0 p1, StOk g y p0 (tp j) p1
  | 0, p, h => ⟨by omega, by have : p = 0 := h; omega, fun j hj => absurd hj (by omega)⟩
  | n + 1, p, ⟨p0, p1, h1, h2, h3, h4, h5⟩ => by
    obtain ⟨a, b, c⟩ := Par_bd n p0 h1
    have := h2.bd.1
    have := h4.1
    refine ⟨by omega, by omega, fun j hj => ?_⟩
    by_cases e : j = n
    · rw [e]; exact ⟨p0, p1, h2⟩
    · exact c j (by omega)
def POk (g : Nat → Int32) (y : Nat) (tp : Nat → Nat × Nat × Nat × Int32) (n : Nat) : Prop := ∃ m p0, n = m + 1 ∧ Par g y tp m p0 ∧ StOk g y p0 (tp m) y
def PNo (g : Nat → Int32) (y fp : Nat) : Prop := ∃ tp m p0, Par g y tp m p0 ∧ (StNo g y p0 fp ∨ ∃ s, StOk g y p0 s fp ∧ ¬ fp = y ∧ ¬ Is g y fp 59)
section PSS
variable {S S' : MS} {l1 l2 l3 l4 : Nat} {loc ow : Nat → Nat} {σ σ1 σ2 : Sg} {M C N : Nat} {p n y : Nat} {tp : Nat → Nat × Nat × Nat × Int32}
def upt (tp : Nat → Nat × Nat × Nat × Int32) (i : Nat) (s : Nat × Nat × Nat × Int32) : Nat → Nat × Nat × Nat × Int32 := fun j => if j = i then s else tp j
theorem ps_put (h : PS S l1 l2 l3 l4 loc ow σ σ1 M C N p n tp) {q : Nat} {s : Nat × Nat × Nat × Int32} (o : Opq S loc σ1 M N q (nI s.1) (nI s.2.1) (nI s.2.2.1) s.2.2.2) (f : ∀ j, j < n → sR S (loc 11) j ≠ q) {v : Int32} : PS (pI (pR S (loc 11) n q) (loc 5) 4 v) l1 l2 l3 l4 loc ow σ σ1 M C N p (n + 1) (upt tp n s) := by
  obtain ⟨h1, h2, h3, h4⟩ := h
  have u5 : Us σ1 M N 5 := us_s (by omega) (by omega)
  have u11 : Us σ1 M N 11 := us_s (by omega) (by omega)
  have hm := mid_pos (k := 4) (v := v) (mid_stp (k := n) (v := q) h1) (Or.inr rfl)
  have r11 : ∀ j, sR (pI (pR S (loc 11) n q) (loc 5) 4 v) (loc 11) j = if j = n then q else sR S (loc 11) j := fun j => by
    show sR (pR S (loc 11) n q) (loc 11) j = _
    rw [sR_pR, if_pos rfl]
  have sm : ∀ x, x ≠ loc 5 → x ≠ loc 11 → Sm S (pI (pR S (loc 11) n q) (loc 5) 4 v) x := fun x h5 h11 => (sm_pR h11).tr (sm_pI h5)
  refine ⟨hm, ?_, fun j a b => ?_, fun j k a b c => ?_⟩
  · rw [sI_pI, if_pos rfl, if_neg (by decide)]; exact h2
  · rw [r11]
    unfold upt
    by_cases e : j = n
    · rw [if_pos e, if_pos e]
      exact o.sm (sm q (Ne.symm (o.2.2.1 5 u5)) (Ne.symm (o.2.2.1 11 u11)))
    · rw [if_neg e, if_neg e]
      have oj := h3 j a (by omega)
      exact oj.sm (sm _ (Ne.symm (oj.2.2.1 5 u5)) (Ne.symm (oj.2.2.1 11 u11)))
  · rw [r11, r11, if_neg (by omega)]
    by_cases e : k = n
    · rw [if_pos e]; exact f j (by omega)
    · rw [if_neg e]; exact h4 j k a b (by omega)
theorem cl_ps_loop (hy : Ty σ1 y) {post : Int32 → MS → Prop} (h1 : ∀ n tp S', POk (σ1.2 24) y tp n → Mid S' l1 l2 l3 l4 loc ow σ σ1 M C N → Std S' loc σ1 M N 0 n tp → sI S' (loc 5) 4 = nI n → post 1 S') (h0 : ∀ fp S', PNo (σ1.2 24) y fp → fp ≤ y → Mid S' l1 l2 l3 l4 loc ow σ σ1 M C N → sI S' (loc 5) 2 = nI fp → post 0 S') (hno : ∀ p fp, p ≤ y → StNo (σ1.2 24) y p fp → fp ≤ y) : ∀ f i p tp (S : MS), i + f = 30 → Par (σ1.2 24) y tp i p → PS S l1 l2 l3 l4 loc ow σ σ1 M C N p i tp → b_X3_parseSteps_2 post (f + 1) S (loc 5) (nI i) := by
  have y60 := hy.2.1
  intro f
  induction f with
  | zero =>
    intro i p tp S hi hpar h
    have := (Par_bd i p hpar).1
    have := (Par_bd i p hpar).2.1
    omega
  | succ f ih =>
    intro i p tp S hi hpar h
    obtain ⟨b1, b2, -⟩ := Par_bd i p hpar
    have k5 := h.1.scr.2.1
    rw [b_X3_parseSteps_2]
    dsimp only
    refine ⟨fun q => absurd q (nI_ge (b := 30) (by omega) (by omega)), fun _ => ⟨k5, cl_parseStep h hy b2 (fun s p' q S2 hs h2 o fr => ⟨fun _ => ?_, fun e => absurd e o.2.1⟩) (fun p' S2 hs h2 => ⟨fun e => absurd rfl e, fun _ => h0 p' S2 ⟨tp, i, p, hpar, Or.inl hs⟩ (hno p p' b2 hs) h2.1 h2.2.1⟩)⟩⟩
    obtain ⟨c1, c2, c3, c4, c5, c6, c7, c8, c9, c10⟩ := h2.1.scr
    obtain ⟨e1, e2, e3, e4⟩ := hs.bd
    rw [c4, c8, ix_nI (by omega)]
    refine ⟨c2, c7, o.1, vp_in_nI (by omega) (by omega), fun S8 e8 S12 e12 => ?_⟩
    rw [nI_1, e8] at e12
    have h12 := ps_put (v := nI (i + 1)) h2 o fr
    rw [← e12] at h12
    have hpar' : Par (σ1.2 24) y (upt tp i s) i p := Par_c i p (fun j hj => if_neg (by omega)) hpar
    have us : upt tp i s i = s := if_pos rfl
    have p3 : sI S12 (loc 5) 3 = nI y := by rw [h12.1.scr.2.2.2.2.2.2.2.2.1]; exact hy.1
    rw [h12.2.1, p3, nI_eq (by omega) (by omega)]
    refine ⟨fun ne => cl_pass h12 hy e2 (by decide) (fun S16 i1 h16 => ⟨fun _ v18 hv18 => ?_, fun e => absurd e ne10⟩) (fun i1 => ⟨fun e => absurd rfl e, fun _ => h0 p' S12 ⟨tp, i, p, hpar, Or.inr ⟨s, hs, ne, i1⟩⟩ e2 h12.1 h12.2.1⟩), fun e => h1 (i + 1) (upt tp i s) S12 ⟨i, p, rfl, hpar', by rw [us]; have hs' := hs; rw [e] at hs'; exact hs'⟩ h12.1 h12.2.2 ?_⟩
    · rw [hv18, nI_1]
      exact ih (i + 1) (p' + 1) (upt tp i s) S16 (by omega) ⟨p, p', hpar', by rw [us]; exact hs, ne, i1, rfl⟩ h16
    · rw [e12, sI_pI, if_pos rfl, if_pos rfl]
theorem StNo_bd {g : Nat → Int32} {fp : Nat} (hp : p ≤ y) (h : StNo g y p fp) : fp ≤ y := by
  rcases h with ⟨_, _, _, _, _, e⟩ | ⟨c, hc, i, k | ⟨v, p1, k, h⟩⟩
  · omega
  · exact k.bd i.1
  · obtain ⟨k1, k2, k3⟩ := k.bd
    rcases h with ⟨_, ⟨_, e⟩ | ⟨i1, k⟩⟩ | ⟨_, ⟨_, e⟩ | ⟨i1, i2, _, e⟩ | ⟨i1, _, _, e⟩⟩ | ⟨_, ⟨_, _, e⟩ | ⟨i1, _, e⟩ | ⟨i1, _, e⟩⟩
    · omega
    · exact k.bd i1.1
    · omega
    · have := i2.1; omega
    · have := i1.1; omega
    · omega
    · have := i1.1; omega
    · have := i1.1; omega
/-- the text is empty, the place of the fault kept -/
def eT (σ : Sg) (v : Int32) : Sg := sF (sF σ 25 0) 28 v
theorem wf_eT (hw : WF σ1 M C N) (v : Int32) : WF (eT σ1 v) M C N := by
  have hcP := cP_8 (σ' := eT σ1 v) (σ := σ1) rfl
  obtain ⟨w1, w2, w3, w4, w5, w6, w7, w8, w9, w10, w11, w12, w13, w14, w15, w16, w17⟩ := hw
  refine ⟨w1, w2, w3, w4, w5, w6, ?_, w8, w9, w10, w11, w12, w13, w14, w15, ⟨0, by omega, rfl, fun i hi => absurd hi (by omega)⟩, w17⟩
  simp only [hcP]; exact w7
theorem cl_pe_end (h : Mid S l1 l2 l3 l4 loc ow σ σ1 M C N) {r v : Int32} (hr : r = 0 ∨ r = 1) {post : Int32 → MS → Prop} (hp : ∀ S', Mid S' l1 l2 l3 l4 loc ow σ (eT σ1 v) M C N → (∀ x, x ≠ loc 5 → Sm S S' x) → sI S' (loc 5) 4 = sI S (loc 5) 4 → post r S') : b_X3_parseAndEmpty_28 post S (loc 5) r v (loc 5) := by
  have k5 := h.scr.2.1
  refine ⟨k5, fun S2 e2 => ⟨by rw [e2]; exact k5, fun S5 e5 => ⟨by rcases hr with e | e <;> rw [e] <;> rfl, hp S5 ?_ (fun x hx => ?_) ?_⟩⟩⟩
  · rw [e5, e2]
    refine (mr_scp (S' := pI (pI S (loc 5) 5 v) (loc 5) 3 0) (σ2 := eT σ1 v) h.mr rfl (fun a h5 h11 => (sm_pI h5).tr (sm_pI h5)) rfl ?_ ?_ rfl (fun j h25 h28 => ?_) (Or.inr rfl)).mid (wf_eT h.wf v)
    · rw [sI_pI, if_pos rfl, if_pos rfl]; rfl
    · rw [sI_pI, if_pos rfl, if_neg (by decide), sI_pI, if_pos rfl, if_pos rfl]; rfl
    · show (if j = 28 then v else if j = 25 then 0 else σ1.1 j) = _
      rw [if_neg h28, if_neg h25]
  · rw [e5, e2]; exact (sm_pI hx).tr (sm_pI hx)
  · rw [e5, sI_pI, if_pos rfl, if_neg (by decide), e2, sI_pI, if_pos rfl, if_neg (by decide)]
theorem WF.ty (hw : WF σ1 M C N) : ∃ y, Ty σ1 y := by
  obtain ⟨y, h60, e, h⟩ := hw.2.2.2.2.2.2.2.2.2.2.2.2.2.2.2.1
  refine ⟨y, e, h60, fun i hi => ?_⟩
  obtain ⟨a, b⟩ := h i hi
  obtain ⟨k, h1, h2, ek, -⟩ := ch_nI (a := σ1.2 24 i) ⟨by rw [fa_le]; exact a, by rw [fa_le]; exact b⟩
  exact ⟨k, h1, h2, ek⟩
theorem cl_parseAndEmpty (h : Mid S l1 l2 l3 l4 loc ow σ σ1 M C N) (hy : Ty σ1 y) {post : Int32 → MS → Prop} (h1 : ∀ n tp S', POk (σ1.2 24) y tp n → Mid S' l1 l2 l3 l4 loc ow σ (eT σ1 (-1)) M C N → Std S' loc (eT σ1 (-1)) M N 0 n tp → sI S' (loc 5) 4 = nI n → post 1 S') (h0 : ∀ fp S', PNo (σ1.2 24) y fp → fp ≤ y → Mid S' l1 l2 l3 l4 loc ow σ (eT σ1 (nI fp)) M C N → post 0 S') : w_X3_parseAndEmpty S (loc 5) post := by
  have k5 := h.scr.2.1
  refine ⟨k5, fun S2 e2 S4 e4 => ⟨31, Nat.le_refl 31, ?_⟩⟩
  have h4 : Mid S4 l1 l2 l3 l4 loc ow σ σ1 M C N := by
    rw [e4, e2]
    exact mid_pos (mid_pos h (Or.inl rfl)) (Or.inr rfl)
  have v4 : sI S4 (loc 5) 2 = nI 0 := by
    rw [e4, sI_pI, if_pos rfl, if_neg (by decide), e2, sI_pI, if_pos rfl, if_pos rfl]
    rfl
  have u5 : Us σ1 M N 5 := us_s (by omega) (by omega)
  have u11 : Us σ1 M N 11 := us_s (by omega) (by omega)
  refine cl_ps_loop (y := y) (l1 := l1) (l2 := l2) (l3 := l3) (l4 := l4) (ow := ow) (σ := σ) (M := M) (C := C) (N := N) hy (fun n tp S' hok h' st cn => ⟨fun e => absurd e ne10, fun _ => cl_pe_end h' (Or.inr rfl) (fun S5 h5 sm c5 => h1 n tp S5 hok h5 ?_ (c5.trans cn))⟩) (fun fp S' hno hfp h' hp => ⟨fun _ => ⟨h'.scr.2.1, ?_⟩, fun e => absurd rfl e⟩) (fun p fp hp hs => StNo_bd hp hs) 30 0 0 (fun _ => (0, 0, 0, 0)) S4 (by omega) rfl ⟨h4, v4, fun j a b => absurd b (by omega), fun j k a b c => absurd c (by omega)⟩
  · have s11 := sm (loc 11) (h'.ne u11 u5 (by omega))
    refine ⟨fun j a b => ?_, fun j k a b c => ?_⟩
    · rw [s11.2.2]
      have o := st.1 j a b
      exact o.sm (sm _ (Ne.symm (o.2.2.1 5 u5)))
    · rw [s11.2.2]; exact st.2 j k a b c
  · rw [hp]
    exact cl_pe_end h' (Or.inl rfl) (fun S5 h5 _ _ => h0 fp S5 hno hfp h5)
end PSS
