/-! the committed operations done again -/
def opK (σ : Sg) (p : Nat) : Nat := ix (σ.2 8 (5 * p))
def opL (σ : Sg) (p : Nat) : Nat := ix (σ.2 8 (5 * p + 1))
def opH (σ : Sg) (p : Nat) : Nat := ix (σ.2 8 (5 * p + 2))
def VI (σ : Sg) (t : Nat) (f0 : Nat → Int32) : Nat → Nat → Int32
  | 0 => f0
  | i + 1 => caF (opK σ (24 * t + i)) (opL σ (24 * t + i)) (opN σ (opK σ (24 * t + i)) (24 * t + i)) (VI σ t f0 i)
def Fl (σ : Sg) (t : Nat) (f0 : Nat → Int32) (i : Nat) : Prop := ¬ (opK σ (24 * t + i) = 3 ∨ opK σ (24 * t + i) = 4) ∧ ¬ caV (opK σ (24 * t + i)) (opL σ (24 * t + i)) (opH σ (24 * t + i)) (opN σ (opK σ (24 * t + i)) (24 * t + i)) (VI σ t f0 i) = σ.2 8 (5 * (24 * t + i) + 4)
theorem caF_c {kd lo : Nat} (hlo : lo < 32) {num : Int32} {f f' : Nat → Int32} (h : ∀ k, k < 32 → f k = f' k) : ∀ k, k < 32 → caF kd lo num f k = caF kd lo num f' k := by
  intro k hk
  unfold caF
  split <;> first | exact h k hk | (unfold fset; rw [h k hk]; try rw [h lo hlo])
section SER
variable {S : MS} {l1 l2 l3 l4 : Nat} {loc ow : Nat → Nat} {σ σ1 : Sg} {M C N : Nat}
theorem mid_scr2 {S' : MS} (h : Mid S l1 l2 l3 l4 loc ow σ σ1 M C N) {r : Nat} (hr : r = 6 ∨ r = 7) (h1 : S'.1 = S.1) (h2 : ∀ x, x ≠ loc r → sI S' x = sI S x) (h3 : sR S' = sR S) : Mid S' l1 l2 l3 l4 loc ow σ σ1 M C N := by
  have u : Us σ1 M N r := us_s (by omega) (by omega)
  obtain ⟨e1, e2⟩ := h.neM u (by omega)
  have kt : ∀ a, kT S' a = kT S a := fun a => by unfold kT; rw [h1]
  have kl : ∀ a, kL S' a = kL S a := fun a => by unfold kL; rw [h1]
  have hsm : ∀ a, a ≠ loc r → Sm S S' a := fun a ha => ⟨by rw [h1], h2 a ha, by rw [h3]⟩
  have hne := fun q (hq : Us σ1 M N q) (hqr : q ≠ r) => h.ne hq u hqr
  obtain ⟨m1, m2, m3, m4, m5, m6, m7, m8, m9, m10, m11, m12, m13, m14⟩ := h
  refine ⟨m1, m2, m3, m4, by rw [kt]; exact m5, by rw [kl]; exact m6, by rw [kt]; exact m7, by rw [kl]; exact m8, fun q hq => by rw [kt]; exact m9 q hq, fun a ha => m10 a (by rw [← kt]; exact ha), m11, rc_same m11.2.1 m11.2.2.2.1 m11.2.2.2.2.2.1 ⟨fun q hq hlt h6 h7 => hsm _ (hne q hq (by omega)), by rw [h1], by rw [h1]⟩ m12, rm_same m13 (fun j => hsm _ (Ne.symm (e2 j))) (hsm _ (Ne.symm e1)), fun k => by rw [h3]; exact m14 k⟩
theorem Mid.vwr (h : Mid S l1 l2 l3 l4 loc ow σ σ1 M C N) : sR S l1 4 = loc 6 ∧ kT S (loc 6) = 9 ∧ kL S (loc 6) = 32 := by
  obtain ⟨-, -, -, -, -, -, -, a, b, -, -, -, -, -, -, -, -, -, -, -, -, -, -, e, -⟩ := h.st
  rw [← h.1]
  exact ⟨e, a, b⟩
theorem ix32 : ix 32 = 32 := ix_nI (n := 32) (by omega)
theorem ix0' : ix 0 = 0 := ix_nI (n := 0) (by omega)
theorem sI_cpI {a b : Nat} {k : Nat} (hk : k < 32) : sI (cpI S a b 32) b k = sI S a k := by
  show (if b = b then va_cpy (sI S a) (sI S b) (ix 0) (ix 0) (ix 32) else sI S b) k = _
  rw [if_pos rfl, ix0', ix32]
  unfold va_cpy
  rw [if_pos ⟨by omega, by omega⟩]
  congr 1
  omega
theorem mid_cpI (h : Mid S l1 l2 l3 l4 loc ow σ σ1 M C N) {a : Nat} {n : Int32} : Mid (cpI S a (loc 6) n) l1 l2 l3 l4 loc ow σ σ1 M C N := mid_scr2 h (r := 6) (Or.inl rfl) rfl (fun x hx => if_neg hx) rfl
theorem caV_n {kd lo hi : Nat} {num num' : Int32} {f : Nat → Int32} (h : kd = 1 ∨ kd = 3 ∨ kd = 5 → num = num') (hkd : kd < 6) : caV kd lo hi num f = caV kd lo hi num' f ∧ caF kd lo num f = caF kd lo num' f := by
  by_cases e : kd = 1 ∨ kd = 3 ∨ kd = 5
  · rw [h e]; exact ⟨rfl, rfl⟩
  · rcases (show kd = 0 ∨ kd = 2 ∨ kd = 4 by omega) with e | e | e <;> subst e
    · exact ⟨by simp only [caV], by simp only [caF]⟩
    · exact ⟨by simp only [caV], by simp only [caF]⟩
    · exact ⟨by simp only [caV], by simp only [caF]⟩
/-- what the operation's cells say, by its kind -/
theorem op_data {t i : Nat} (o : OpR S loc σ1 t i) : σ1.2 8 (5 * (24 * t + i)) = nI (opK σ1 (24 * t + i)) ∧ opK σ1 (24 * t + i) < 6 ∧ σ1.2 8 (5 * (24 * t + i) + 1) = nI (opL σ1 (24 * t + i)) ∧ opL σ1 (24 * t + i) < 32 ∧ (opK σ1 (24 * t + i) = 1 ∨ opK σ1 (24 * t + i) = 2 → σ1.2 8 (5 * (24 * t + i) + 2) = nI (opH σ1 (24 * t + i)) ∧ opH σ1 (24 * t + i) < 32 ∧ sI S (loc (1000 + (24 * t + i))) 2 = nI (opH σ1 (24 * t + i)) ∧ -999 ≤ sI S (loc (1000 + (24 * t + i))) 3) ∧ (opK σ1 (24 * t + i) = 1 ∨ opK σ1 (24 * t + i) = 3 ∨ opK σ1 (24 * t + i) = 5 → sI S (loc (1000 + (24 * t + i))) 3 = opN σ1 (opK σ1 (24 * t + i)) (24 * t + i)) ∧ (opK σ1 (24 * t + i) = 3 ∨ opK σ1 (24 * t + i) = 4 → σ1.2 8 (5 * (24 * t + i) + 4) = 0 ∧ caV (opK σ1 (24 * t + i)) 0 0 (sI S (loc (1000 + (24 * t + i))) 3) (fun _ => 0) = sI S (loc (1000 + (24 * t + i))) 5) ∧ (¬ (opK σ1 (24 * t + i) = 3 ∨ opK σ1 (24 * t + i) = 4) → sI S (loc (1000 + (24 * t + i))) 5 = σ1.2 8 (5 * (24 * t + i) + 4)) := by
  obtain ⟨o1, o2, o3, o4, ⟨q, hq, eq⟩, ⟨lo, hlo, elo⟩, o7, o8, o9, o10, o11, o12, o13, o14⟩ := o
  have eK : opK σ1 (24 * t + i) = q := by unfold opK; rw [eq, ix_nI (by omega)]
  have eL : opL σ1 (24 * t + i) = lo := by unfold opL; rw [elo, ix_nI (by omega)]
  rw [eK, eL]
  have num : ∀ {n : Nat}, q = n → σ1.2 8 (5 * (24 * t + i)) = nI n := fun e => by rw [eq, e]
  refine ⟨eq, hq, elo, hlo, fun h => ?_, fun h => ?_, fun h => ?_, fun h => ?_⟩
  · have h' : σ1.2 8 (5 * (24 * t + i)) = 1 ∨ σ1.2 8 (5 * (24 * t + i)) = 2 := h.imp (fun e => num e) (fun e => num e)
    obtain ⟨p1, ⟨hi, hhi, ehi⟩, p3, p4, p5, p6, p7, p8⟩ := o11 h'
    have eH : opH σ1 (24 * t + i) = hi := by unfold opH; rw [ehi, ix_nI (by omega)]
    rw [eH]
    exact ⟨ehi, hhi, p1.trans ehi, p8⟩
  · unfold opN
    rcases h with e | e | e
    · rw [if_pos e]; exact o12 (num e)
    · rw [if_neg (by omega)]; exact o8 (Or.inl (num e))
    · rw [if_neg (by omega)]; exact o8 (Or.inr (num e))
  · refine ⟨o13 (h.imp (fun e => num e) (fun e => num e)), ?_⟩
    rcases h with e | e <;> subst e
    · exact (o9 (num rfl)).symm
    · exact (o10 (num rfl)).symm
  · refine o7 ?_
    rcases (show q = 0 ∨ q = 1 ∨ q = 2 ∨ q = 5 by omega) with e | e | e | e
    · exact Or.inl (num e)
    · exact Or.inr (Or.inl (num e))
    · exact Or.inr (Or.inr (Or.inl (num e)))
    · exact Or.inr (Or.inr (Or.inr (num e)))
theorem cl_again (h : Mid S l1 l2 l3 l4 loc ow σ σ1 M C N) {t i z : Nat} (ht : t < M) (hz : σ1.2 7 t = nI z) (h24 : z ≤ 24) (hi : i < z) {f0 : Nat → Int32} (hf : ∀ k, k < 32 → sI S (loc 6) k = VI σ1 t f0 i k) {post : Int32 → MS → Prop} (hp : ∀ r S', Mid S' l1 l2 l3 l4 loc ow σ σ1 M C N → (∀ k, k < 32 → sI S' (loc 6) k = VI σ1 t f0 (i + 1) k) → (r = sI S' (loc (1000 + (24 * t + i))) 5 ↔ ¬ Fl σ1 t f0 i) → post r S') : w_X2_carryOut S (loc (1000 + (24 * t + i))) (loc 6) post := by
  have hM := h.M80
  have o := h.op ht hz h24 hi
  obtain ⟨d1, d2, d3, d4, d5, d6, d7, d8⟩ := op_data o
  obtain ⟨v1, v2, v3⟩ := h.vwr
  have hne : loc (1000 + (24 * t + i)) ≠ loc 6 := h.ne (us_z ht hz h24 hi) (us_s (by omega) (by omega)) (by omega)
  refine cl_carryOut hne o.1 (o.2.2.1.trans d1) d2 (o.2.2.2.1.trans d3) d4 (hi := opH σ1 (24 * t + i)) (fun q => ⟨(d5 q).2.2.1, (d5 q).2.1⟩) rfl (fun q => (d5 (Or.inl q)).2.2.2) v2 v3 hf (fun S' hS' hv' => ?_)
  have hM' : Mid S' l1 l2 l3 l4 loc ow σ σ1 M C N ∧ sI S' (loc (1000 + (24 * t + i))) 5 = sI S (loc (1000 + (24 * t + i))) 5 := by
    rcases hS' with e | ⟨v, e⟩
    · rw [e]; exact ⟨h, rfl⟩
    · rw [e]; exact ⟨mid_scr h (Or.inl rfl), by rw [show sI (pI S (loc 6) (opL σ1 (24 * t + i)) v) (loc (1000 + (24 * t + i))) = sI S (loc (1000 + (24 * t + i))) from u2_ne _ _ _ hne]⟩
  obtain ⟨n1, n2⟩ := caV_n (lo := opL σ1 (24 * t + i)) (hi := opH σ1 (24 * t + i)) (f := VI σ1 t f0 i) d6 d2
  refine hp _ S' hM'.1 (fun k hk => by rw [hv' k hk, n2]; rfl) ?_
  rw [hM'.2]
  unfold Fl
  by_cases q : opK σ1 (24 * t + i) = 3 ∨ opK σ1 (24 * t + i) = 4
  · refine ⟨fun _ r => r.1 q, fun _ => ?_⟩
    rw [← (d7 q).2]
    rcases q with q | q <;> rw [q] <;> rfl
  · rw [d8 q, n1]
    exact ⟨fun r x => x.2 r, fun r => Classical.byContradiction (fun x => r ⟨q, x⟩)⟩
theorem cl_ra_loop {t z : Nat} (ht : t < M) (hz : σ1.2 7 t = nI z) (h24 : z ≤ 24) {f0 : Nat → Int32} {post : Int32 → MS → Prop} (hp : ∀ S', Mid S' l1 l2 l3 l4 loc ow σ σ1 M C N → post (bI (¬ exq (Fl σ1 t f0) z)) S') : ∀ n i (S : MS), i + n = z → Mid S l1 l2 l3 l4 loc ow σ σ1 M C N → (∀ k, k < 32 → sI S (loc 6) k = VI σ1 t f0 i k) → ¬ exq (Fl σ1 t f0) i → b_X4_repeatsAlikeOn_2 post (n + 1) S (loc (200 + t)) (loc 6) (nI i) := by
  intro n
  induction n with
  | zero =>
    intro i S hi h hf hno
    obtain ⟨b1, b2, b3, b4, b5, b6, b7, b8, b9, b10, b11, b12, b13, b14, b15, b16, b17, b18⟩ := h.tx ht
    have e : i = z := by omega
    subst e
    rw [b_X4_repeatsAlikeOn_2]
    refine ⟨b1, ?_⟩
    rw [b14, hz]
    exact ⟨fun _ => pb1 (hp S h) hno, fun q => absurd (Int32.le_refl _) q⟩
  | succ n ih =>
    intro i S hi h hf hno
    obtain ⟨b1, b2, b3, b4, b5, b6, b7, b8, b9, b10, b11, b12, b13, b14, b15, b16, b17, b18⟩ := h.tx ht
    have o := h.op ht hz h24 (show i < z by omega)
    rw [b_X4_repeatsAlikeOn_2]
    simp only [b_X4_repeatsAlikeOn_35]
    refine ⟨b1, ?_⟩
    rw [b14, hz, b3, b7, ix_nI (by omega), o.2.1]
    refine ⟨fun q => absurd q (nI_ge (by omega) (by omega)), fun _ => ⟨b6, vp_in_nI (by omega) (by omega), fun r4 hr4 => ?_⟩⟩
    rw [hr4]
    refine ⟨fun q => absurd q (h.nz (us_z ht hz h24 (by omega))), fun _ => ⟨o.1, cl_again h ht hz h24 (by omega) hf (fun r S' h' hf' hr => ⟨(h'.op ht hz h24 (show i < z by omega)).1, fun g v hv => ?_, fun g => ?_⟩)⟩⟩
    · rw [hv, nI_1]
      exact ih (i + 1) S' (by omega) h' hf' (fun q => (exq_s.mp q).elim hno (hr.mp g))
    · exact pb0 (hp S' h') (fun q => q ⟨i, by omega, Classical.byContradiction (fun x => g (hr.mpr x))⟩)
theorem cl_repeats (h : Mid S l1 l2 l3 l4 loc ow σ σ1 M C N) {t z : Nat} (ht : t < M) (hz : σ1.2 7 t = nI z) (h24 : z ≤ 24) {f0 : Nat → Int32} (hf : ∀ k, k < 32 → sI S (loc 6) k = f0 k) {post : Int32 → MS → Prop} (hp : ∀ S', Mid S' l1 l2 l3 l4 loc ow σ σ1 M C N → post (bI (¬ exq (Fl σ1 t f0) z)) S') : w_X4_repeatsAlikeOn S (loc (200 + t)) (loc 6) post := ⟨z + 1, cl_ra_loop ht hz h24 hp z 0 S (by omega) h hf exq_0⟩
def HF (σ : Sg) (c : Nat) : Prop := exq (Fl σ (cm σ c) (stf σ (c - 1))) (ix (σ.2 7 (cm σ c)))
theorem cl_sf_loop {post : Int32 → MS → Prop} (hp : ∀ S', Mid S' l1 l2 l3 l4 loc ow σ σ1 M C N → post (isum (fun j => bI (HF σ1 (j + 1))) C) S') : ∀ n c (S : MS), c + n = C → Mid S l1 l2 l3 l4 loc ow σ σ1 M C N → b_X5_serialFaults_4 post (n + 1) S l1 (isum (fun j => bI (HF σ1 (j + 1))) c) (nI (c + 1)) := by
  intro n
  induction n with
  | zero =>
    intro c S hc h
    have hC := h.C60
    obtain ⟨a1, a2, a3⟩ := h.his
    have e : c = C := by omega
    subst e
    rw [b_X5_serialFaults_4]
    dsimp only
    rw [a1, a3]
    exact ⟨h.k1, a2, fun _ => hp S h, fun g => absurd (nI_lt (by omega) (by omega)) g⟩
  | succ n ih =>
    intro c S hc h
    have hC := h.C60
    obtain ⟨a1, a2, a3⟩ := h.his
    obtain ⟨d1, d2, d3, d4, d5, d6⟩ := h.hst
    obtain ⟨e1, e2⟩ := h.au (c := c + 1) (by omega) (by omega)
    obtain ⟨f1, f2, f3, f4⟩ := h.row (c := c) (by omega)
    obtain ⟨v1, v2, v3⟩ := h.vwr
    have h2 := mid_cpI h (a := loc (100 + c)) (n := 32)
    obtain ⟨z, h24, hz, -⟩ := h.sz e1
    rw [b_X5_serialFaults_4]
    dsimp only
    simp only [b_X5_serialFaults_63]
    rw [a1, a3]
    have ez : ix (σ1.2 7 (cm σ1 (c + 1))) = z := by rw [hz, ix_nI (by omega)]
    refine ⟨h.k1, a2, fun g => absurd g (nI_nl (by omega) (by omega)), fun _ => ?_⟩
    unfold w_X1_authorOf
    rw [d4, d6, ix_nI (by omega), e2]
    refine ⟨a2, d5, vp_in_nI (by omega) (by omega), h.k1, by rw [a1]; exact a2, ?_⟩
    rw [nI_pred, a1]
    refine cl_storeAfter h (by omega) ?_
    rw [v1, f2, v3, ix0', ix32]
    refine ⟨h.k1, f1, v2, by omega, by omega, fun S14 h14 => ⟨fun q => absurd q (h.nz (us_t e1).1), fun _ => ?_⟩⟩
    rw [h14, h2.vwr.1]
    refine ⟨(h2.tx e1).1, cl_repeats h2 e1 hz h24 (f0 := stf σ1 c) (fun k hk => by rw [sI_cpI hk]; exact f3 k hk) (fun S' h' => ?_)⟩
    have hs := ih (c + 1) S' (by omega) h'
    rw [isum] at hs
    refine ⟨fun g v hv => ?_, fun g v hv v2 hv2 => ?_⟩
    · rw [hv, nI_1]
      have : ¬ HF σ1 (c + 1) := by unfold HF; rw [ez]; exact bI_nz.mp g
      rw [bI_0 this, i32_add0] at hs
      exact hs
    · rw [hv2, hv, nI_1]
      have : HF σ1 (c + 1) := by unfold HF; rw [ez]; exact Classical.not_not.mp (bI_z.mp g)
      rw [bI_1 this] at hs
      exact hs
end SER
/-! the reference's side -/
theorem VI_e {σ' σ : Sg} (h : σ'.2 8 = σ.2 8) (t : Nat) (f0 : Nat → Int32) : ∀ i, VI σ' t f0 i = VI σ t f0 i
  | 0 => rfl
  | i + 1 => by
    rw [VI, VI, VI_e h t f0 i]
    unfold opK opL opN
    rw [h]
theorem Fl_e {σ' σ : Sg} (h : σ'.2 8 = σ.2 8) (t : Nat) (f0 : Nat → Int32) : Fl σ' t f0 = Fl σ t f0 := by
  funext i
  unfold Fl
  rw [VI_e h]
  unfold opK opL opN opH
  rw [h]
theorem HF_e {σ' σ : Sg} (h : eqv σ' σ) (c : Nat) : HF σ' c = HF σ c := by
  have h8 : σ'.2 8 = σ.2 8 := h.2.2.2.2.2.2.2.1
  have h7 : σ'.2 7 = σ.2 7 := h.2.2.2.2.2.2.1
  unfold HF
  rw [Fl_e h8, cm_e h, stf_e h, h7]
/-- the operations' row is in order -/
def OO (σ : Sg) (M : Nat) : Prop := ∀ t, t < M → ∀ z i : Nat, σ.2 7 t = nI z → z ≤ 24 → i < z → σ.2 8 (5 * (24 * t + i)) = nI (opK σ (24 * t + i)) ∧ opK σ (24 * t + i) < 6 ∧ σ.2 8 (5 * (24 * t + i) + 1) = nI (opL σ (24 * t + i)) ∧ opL σ (24 * t + i) < 32 ∧ (opK σ (24 * t + i) = 1 ∨ opK σ (24 * t + i) = 2 → σ.2 8 (5 * (24 * t + i) + 2) = nI (opH σ (24 * t + i)) ∧ opH σ (24 * t + i) < 32) ∧ (opK σ (24 * t + i) = 3 ∨ opK σ (24 * t + i) = 4 → σ.2 8 (5 * (24 * t + i) + 4) = 0)
theorem Mid.oo {S : MS} {l1 l2 l3 l4 : Nat} {loc ow : Nat → Nat} {σ σ1 : Sg} {M C N : Nat} (h : Mid S l1 l2 l3 l4 loc ow σ σ1 M C N) : OO σ1 M := fun t ht z i hz h24 hi => by
  obtain ⟨d1, d2, d3, d4, d5, d6, d7, d8⟩ := op_data (h.op ht hz h24 hi)
  exact ⟨d1, d2, d3, d4, fun q => ⟨(d5 q).1, (d5 q).2.1⟩, fun q => (d7 q).1⟩
theorem OO_e {σ' σ : Sg} (h : eqv σ' σ) {M : Nat} (ho : OO σ M) : OO σ' M := by
  have h8 : σ'.2 8 = σ.2 8 := h.2.2.2.2.2.2.2.1
  have h7 : σ'.2 7 = σ.2 7 := h.2.2.2.2.2.2.1
  unfold OO opK opL opH at ho ⊢
  rw [h8, h7]
  exact ho
section SERR
variable {σ0 : Sg} {M C N : Nat}
theorem rf_hf_loop (hw : WF σ0 M C N) (oo : OO σ0 M) {t z : Nat} {c : Int32} (ht : t < M) (hz : σ0.2 7 t = nI z) (h24 : z ≤ 24) {f0 : Nat → Int32} {P : Int32 → Sg → Prop} (hp : ∀ σ, sc23 σ σ0 → P (bI (exq (Fl σ0 t f0) z)) σ) : ∀ n i (σ : Sg), i + n = z → sc23 σ σ0 → (∀ k, k < 32 → σ.2 23 k = VI σ0 t f0 i k) → ¬ exq (Fl σ0 t f0) i → bv_X6_hasFault_37 P (n + 1) σ c (nI t) (nI i) := by
  have hM := hw.2.1
  intro n
  induction n with
  | zero =>
    intro i σ hi hs hf hno
    have e : i = z := by omega
    subst e
    rw [bv_X6_hasFault_37]
    dsimp only
    rw [ix_nI (by omega), hs.2 7 (by decide), hz]
    exact ⟨vp_in_nI (by omega) (by omega), fun _ => pb0 (hp σ hs) hno, fun q => absurd (Int32.le_refl _) q⟩
  | succ n ih =>
    intro i σ hi hs hf hno
    have o := OO_e hs.eqv oo t ht z i (by rw [hs.2 7 (by decide)]; exact hz) h24 (by omega)
    have h8 := hs.2 8 (by decide)
    have eK : opK σ (24 * t + i) = opK σ0 (24 * t + i) := by unfold opK; rw [h8]
    have eL : opL σ (24 * t + i) = opL σ0 (24 * t + i) := by unfold opL; rw [h8]
    have eH : opH σ (24 * t + i) = opH σ0 (24 * t + i) := by unfold opH; rw [h8]
    have eN : ∀ kd p, opN σ kd p = opN σ0 kd p := fun kd p => by unfold opN; rw [h8]
    rw [bv_X6_hasFault_37]
    dsimp only
    rw [ix_nI (by omega), hs.2 7 (by decide), hz]
    refine ⟨vp_in_nI (by omega) (by omega), fun q => absurd q (nI_ge (by omega) (by omega)), fun _ v2 hv2 => ?_⟩
    rw [hv2, mul5]
    obtain ⟨d1, d2, d3, d4, d5, d6⟩ := o
    refine rf_again (by omega) d1 d2 d3 d4 (hi := opH σ (24 * t + i)) d5 hf (fun σ' hs' hf' => ?_)
    have hs2 : sc23 σ' σ0 := ⟨hs'.1.trans hs.1, fun k hk => (hs'.2 k hk).trans (hs.2 k hk)⟩
    rw [nI_4, ix_nI (by omega), hs'.2 8 (by decide)]
    rw [eK, eL, eN] at hf'
    rw [h8] at d6 ⊢
    rw [eK] at d6
    rw [eK, eL, eH, eN]
    have key : (if opK σ0 (24 * t + i) = 3 ∨ opK σ0 (24 * t + i) = 4 then 0 else caV (opK σ0 (24 * t + i)) (opL σ0 (24 * t + i)) (opH σ0 (24 * t + i)) (opN σ0 (opK σ0 (24 * t + i)) (24 * t + i)) (VI σ0 t f0 i)) = σ0.2 8 (5 * (24 * t + i) + 4) ↔ ¬ Fl σ0 t f0 i := by
      unfold Fl
      by_cases q : opK σ0 (24 * t + i) = 3 ∨ opK σ0 (24 * t + i) = 4
      · rw [if_pos q, d6 q]
        exact ⟨fun _ r => r.1 q, fun _ => rfl⟩
      · rw [if_neg q]
        exact ⟨fun r x => x.2 r, fun r => Classical.byContradiction (fun x => r ⟨q, x⟩)⟩
    refine ⟨vp_in_nI (by omega) (by omega), fun g v hv => ?_, fun g => ?_⟩
    · rw [hv, nI_1]
      exact ih (i + 1) σ' (by omega) hs2 hf' (fun q => (exq_s.mp q).elim hno (key.mp g))
    · exact pb1 (hp σ' hs2) ⟨i, by omega, Classical.byContradiction (fun x => g (key.mpr x))⟩
theorem rf_hv_loop (hw : WF σ0 M C N) (oo : OO σ0 M) {t z c : Nat} (hc : c ≤ C) (ht : t < M) (hz : σ0.2 7 t = nI z) (h24 : z ≤ 24) {P : Int32 → Sg → Prop} (hp : ∀ σ, sc23 σ σ0 → P (bI (exq (Fl σ0 t (stf σ0 c)) z)) σ) : ∀ n k (σ : Sg), k + n = 32 → sc23 σ σ0 → (∀ j, j < k → σ.2 23 j = stf σ0 c j) → bv_X6_hasFault_9 P (n + 1) σ (nI (c + 1)) (nI t) (nI k) := by
  have hC := hw.2.2.2.1
  intro n
  induction n with
  | zero =>
    intro k σ hk hs hf
    have e : k = 32 := by omega
    subst e
    rw [bv_X6_hasFault_9]
    exact ⟨fun _ => ⟨z + 1, rf_hf_loop hw oo ht hz h24 hp z 0 σ (by omega) hs hf exq_0⟩, fun q => absurd (Int32.le_refl _) q⟩
  | succ n ih =>
    intro k σ hk hs hf
    rw [bv_X6_hasFault_9]
    dsimp only
    rw [nI_pred]
    refine ⟨fun q => absurd q (i32_lt32 (by omega)), fun _ => rf_stored (by omega) (by omega) ⟨vp_in_nI (by omega) (by omega), fun σ3 h3 v hv => ?_⟩⟩
    rw [hv, nI_1, h3, ix_nI (by omega)]
    refine ih (k + 1) _ (by omega) (hs.put _ _) (fun j hj => ?_)
    rw [sA_at]
    by_cases q : j = k
    · rw [if_pos q, q, hs.2 15 (by decide)]; rfl
    · rw [if_neg q]; exact hf j (by omega)
theorem rf_sf_loop (hw : WF σ0 M C N) (oo : OO σ0 M) {P : Int32 → Sg → Prop} (hp : ∀ σ, sc23 σ σ0 → P (isum (fun j => bI (HF σ0 (j + 1))) C) σ) : ∀ n c (σ : Sg), c + n = C → sc23 σ σ0 → bv_X6_serialFaults_9 P (n + 1) σ (isum (fun j => bI (HF σ0 (j + 1))) c) (nI (c + 1)) := by
  have hM := hw.2.1
  have hC := hw.2.2.2.1
  intro n
  induction n with
  | zero =>
    intro c σ hc hs
    have e : c = C := by omega
    subst e
    rw [bv_X6_serialFaults_9]
    dsimp only
    rw [hs.1, hw.2.2.1]
    exact ⟨fun _ => hp σ hs, fun g => absurd (nI_lt (by omega) (by omega)) g⟩
  | succ n ih =>
    intro c σ hc hs
    obtain ⟨e1, e2, -⟩ := hw.com (c := c + 1) (by omega) (by omega)
    obtain ⟨z, h24, hz, -⟩ := hw.sz e1
    have ez : ix (σ0.2 7 (cm σ0 (c + 1))) = z := by rw [hz, ix_nI (by omega)]
    rw [bv_X6_serialFaults_9]
    dsimp only
    rw [hs.1, hw.2.2.1]
    simp only [bv_X6_serialFaults_31]
    refine ⟨fun g => absurd g (nI_nl (by omega) (by omega)), fun _ => ?_⟩
    unfold v_X6_hasFault
    rw [ix_nI (by omega), hs.2 16 (by decide), e2]
    refine ⟨vp_in_nI (by omega) (by omega), fun v2 hv2 => ⟨33, ?_⟩⟩
    rw [hv2]
    refine rf_hv_loop hw oo (show c ≤ C by omega) e1 hz h24 (fun σ' hs' => ?_) 32 0 σ (by omega) hs (fun j hj => by omega)
    have hs2 := ih (c + 1) σ' (by omega) hs'
    rw [isum] at hs2
    refine ⟨fun g v hv v2 hv2 => ?_, fun g v hv v2 hv2 => ?_⟩
    · rw [hv2, hv, nI_1]
      have : ¬ HF σ0 (c + 1) := by unfold HF; rw [ez]; exact bI_z.mp g
      rw [bI_0 this] at hs2
      exact hs2
    · rw [hv2, hv, nI_1]
      have : HF σ0 (c + 1) := by unfold HF; rw [ez]; exact bI_nz.mp g
      rw [bI_1 this] at hs2
      exact hs2
end SERR
theorem sp_serialFaults : Sp_serialFaults := by
  intro S l1 l2 l3 l4 loc ow σ M C N post h hp
  have h : Mid S l1 l2 l3 l4 loc ow σ σ M C N := h
  refine ⟨C + 1, cl_sf_loop (fun S' h' => hp _ S' σ ?_ ⟨loc, ow, M, C, N, h'⟩) C 0 S (by omega) h⟩
  unfold v_X6_serialFaults
  intro σ1 e1
  rw [e1]
  refine ⟨C + 1, rf_sf_loop (wf_eqv (eqv.th σ 0) h.wf) (OO_e (eqv.th σ 0) h.oo) (fun σ2 hs => ⟨hs.eqv.tr (eqv.th σ 0), ?_⟩) C 0 _ (by omega) ⟨rfl, fun _ _ => rfl⟩⟩
  exact isum_congr (fun j _ => by rw [HF_e (eqv.th σ 0)])
