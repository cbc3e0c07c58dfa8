/-! the reference reads the script, to its end or its fault -/
theorem W29_c {σ σ' : Sg} {m j : Nat} {s : Nat × Nat × Nat × Int32} (h : ∀ i, i < 3 * m → σ'.2 29 i = σ.2 29 i) (hj : j < m) (hw : W29 σ j s) : W29 σ' j s := by
  unfold W29 at hw ⊢
  rw [h _ (by omega), h _ (by omega), h _ (by omega)]
  exact hw
section RSC
variable {σ0 σ σ5 : Sg} {y p n : Nat} {tp : Nat → Nat × Nat × Nat × Int32}
theorem rf_claim {P : Sg → Prop} (hd5 : Rd σ0 σ5 y 0 0) (h60 : y ≤ 60) : ∀ m p, Par (σ0.2 24) y tp m p → ∀ f, (∀ Q : Sg → Prop, (∀ σ', bv_X6_readScript_32 P f σ' → Q σ') → ∀ σ, Rd σ0 σ y p m → (∀ j, j < m → W29 σ j (tp j)) → v_X6_readStep σ Q) → ∀ Q : Sg → Prop, (∀ σ', bv_X6_readScript_32 P (f + m) σ' → Q σ') → v_X6_readStep σ5 Q := by
  intro m
  induction m with
  | zero =>
    intro p hp f H Q hQ
    have e : p = 0 := hp
    subst e
    exact H Q hQ σ5 hd5 (fun j hj => absurd hj (by omega))
  | succ m ih =>
    intro p hp f H Q hQ
    obtain ⟨p0, p1, h1, h2, h3, h4, h5⟩ := hp
    obtain ⟨b1, b2, -⟩ := Par_bd m p0 h1
    refine ih p0 h1 (f + 1) (fun Q' hQ' σ hd hw => rf_step hd b2 h60 (by omega) (fun s p' σ' hs hd' hold w => ?_) (fun fp σ' hs _ => absurd (st_no h2 hs) id)) Q (fun σ' hb => hQ σ' (by rw [show f + (m + 1) = f + 1 + m by omega]; exact hb))
    obtain ⟨es, ep⟩ := st_det hs h2
    rw [es] at w
    subst ep
    refine hQ' σ' ?_
    rw [bv_X6_readScript_32]
    refine rf_goes hd' (Nat.le_of_lt h4.1) h60 (by decide) (fun i => ⟨fun q => absurd q ne10, fun _ => ?_⟩) (fun i => absurd h4 i)
    rw [h5] at H
    refine H _ (fun _ h => h) _ hd'.pos (fun j hj => ?_)
    by_cases e : j = m
    · rw [e]; exact w
    · exact W29_c hold (by omega) (hw j (by omega))
theorem rf_start (hy : Ty σ y) {P : Sg → Prop} (h : ∀ σ5, Rd (sF σ 25 0) σ5 y 0 0 → v_X6_readStep σ5 (fun σ6 => ∃ f32, bv_X6_readScript_32 P f32 σ6)) : v_X6_readScript σ P := by
  unfold v_X6_readScript
  intro σ1 e1 σ2 e2 σ3 e3 σ4 e4 σ5 e5
  refine h σ5 ?_
  rw [hy.1] at e1
  rw [e5, e4, e3, e2, e1]
  refine ⟨⟨rfl, fun j h26 h27 h28 h30 => ?_, fun _ _ => rfl⟩, rfl, rfl, rfl⟩
  show (if j = 30 then (0 : Int32) else if j = 28 then -1 else if j = 27 then 0 else if j = 25 then 0 else if j = 26 then nI y else σ.1 j) = (if j = 25 then 0 else σ.1 j)
  rw [if_neg h30, if_neg h28, if_neg h27, if_neg h26]
theorem rf_scriptOk (hy : Ty σ y) (hok : POk (σ.2 24) y tp n) {P : Sg → Prop} (h : ∀ σ', Rd (sF σ 25 0) σ' y y n → (∀ j, j < n → W29 σ' j (tp j)) → P σ') : v_X6_readScript σ P := by
  obtain ⟨m, p0, en, hpar, hst⟩ := hok
  obtain ⟨b1, b2, -⟩ := Par_bd m p0 hpar
  have h60 := hy.2.1
  refine rf_start hy (fun σ5 hd5 => rf_claim hd5 h60 m p0 hpar 1 (fun Q hQ σ' hd hw => rf_step hd b2 h60 (by omega) (fun s p' σ2 hs hd' hold w => ?_) (fun fp σ2 hs _ => absurd (st_no hst hs) id)) _ (fun σ' hb => ⟨_, hb⟩))
  obtain ⟨es, ep⟩ := st_det hs hst
  rw [es] at w
  subst ep
  refine hQ σ2 ?_
  rw [bv_X6_readScript_32]
  simp only [bv_X6_readScript_63]
  refine rf_goes hd' (Nat.le_refl _) h60 (by decide) (fun i => absurd i.1 (Nat.lt_irrefl _)) (fun i => ⟨fun _ => ?_, fun q => absurd rfl q⟩)
  rw [hd'.1.1, hd'.2.1]
  refine ⟨fun _ => h σ2 (by rw [en]; exact hd') (fun j hj => ?_), fun q => absurd (Int32.le_refl _) q⟩
  by_cases e : j = m
  · rw [e]; exact w
  · exact W29_c hold (by omega) (hw j (by omega))
theorem rf_scriptNo (hy : Ty σ y) {fp : Nat} (hno : PNo (σ.2 24) y fp) (hfp : fp ≤ y) {P : Sg → Prop} (h : ∀ σ', Ff (sF σ 25 0) σ' y fp → P σ') : v_X6_readScript σ P := by
  obtain ⟨tp, m, p0, hpar, hst⟩ := hno
  obtain ⟨b1, b2, -⟩ := Par_bd m p0 hpar
  have h60 := hy.2.1
  refine rf_start hy (fun σ5 hd5 => rf_claim hd5 h60 m p0 hpar 1 (fun Q hQ σ' hd hw => rf_step hd b2 h60 (by omega) (fun s p' σ2 hs hd' hold w => ?_) (fun fp2 σ2 hs hk => ?_)) _ (fun σ' hb => ⟨_, hb⟩))
  · rcases hst with hst | ⟨s', hst, hne, hni⟩
    · exact absurd (st_no hs hst) id
    · obtain ⟨es, ep⟩ := st_det hs hst
      subst ep
      refine hQ σ2 ?_
      rw [bv_X6_readScript_32]
      simp only [bv_X6_readScript_63]
      refine rf_goes hd' hfp h60 (by decide) (fun i => absurd i hni) (fun i => ⟨fun _ => ?_, fun q => absurd rfl q⟩)
      rw [hd'.1.1, hd'.2.1]
      exact ⟨fun q => absurd q (nI_ge (Nat.lt_of_le_of_ne hfp hne) (by omega)), fun _ => rf_fault hd'.2.2.1 hd'.2.1 (h _ hd'.flt)⟩
  · rcases hst with hst | ⟨s', hst, hne, hni⟩
    · have ef := stno_det hs hst
      subst ef
      refine hQ σ2 ?_
      rw [bv_X6_readScript_32]
      simp only [bv_X6_readScript_63]
      refine rfk_goes hk hfp h60 (by decide) (by decide) ⟨fun _ => ?_, fun q => absurd rfl q⟩
      obtain ⟨hb, e | ⟨e, e2, d⟩⟩ := hk
      · exact ⟨fun _ => h σ2 ⟨hb, e⟩, fun _ => rfi_fault (by rw [e]; exact nIm1 (by omega)) (h σ2 ⟨hb, e⟩)⟩
      · rw [hb.1, e2]
        exact ⟨fun q => absurd q (nI_ge d.1 (by omega)), fun _ => rf_fault e e2 (h _ ⟨hb.f (Or.inr (Or.inl rfl)), rfl⟩)⟩
    · exact absurd (st_no hst hs) id
/-- what the reference leaves is what the class means -/
theorem bs_eqv {v : Int32} (h : Bs (sF σ 25 0) σ5 y) (e : σ5.1 28 = v) : eqv σ5 (eT σ v) := by
  obtain ⟨h1, h2, h3⟩ := h
  refine ⟨⟨h2 1 (by decide) (by decide) (by decide) (by decide), h2 13 (by decide) (by decide) (by decide) (by decide), h2 14 (by decide) (by decide) (by decide) (by decide), h2 17 (by decide) (by decide) (by decide) (by decide), h2 18 (by decide) (by decide) (by decide) (by decide), h2 19 (by decide) (by decide) (by decide) (by decide), h2 21 (by decide) (by decide) (by decide) (by decide), h2 25 (by decide) (by decide) (by decide) (by decide), e⟩, h3 2 (by decide), h3 3 (by decide), h3 4 (by decide), h3 5 (by decide), h3 6 (by decide), h3 7 (by decide), h3 8 (by decide), h3 9 (by decide), h3 10 (by decide), h3 11 (by decide), h3 12 (by decide), h3 15 (by decide), h3 16 (by decide), h3 20 (by decide), h3 24 (by decide)⟩
end RSC
/-! a good step's numbers -/
def Sv (s : Nat × Nat × Nat × Int32) : Prop := (s.1 = 0 ∨ s.1 = 2 ∨ s.1 = 3 ∨ s.1 = 4 ∨ s.1 = 5) ∧ s.2.1 < 32 ∧ s.2.2.1 < 32 ∧ (s.1 ≠ 2 → s.2.2.1 = s.2.1) ∧ (s.1 = 2 → s.2.2.2 = -999) ∧ (s.1 = 0 ∨ s.1 = 4 → s.2.2.2 = 0) ∧ -999 ≤ s.2.2.2 ∧ s.2.2.2 ≤ 999
theorem n999 {v : Nat} (h : v < 1000) : (-999 ≤ nI v ∧ nI v ≤ 999) ∧ (-999 ≤ -nI v ∧ -nI v ≤ 999) := by
  have e1 : (-999 : Int32).toInt = -999 := by decide
  have e2 : (999 : Int32).toInt = 999 := by decide
  have ev : (nI v).toInt = (v : Int) := nI_toInt (by omega)
  have en : (-nI v).toInt = -(v : Int) := by rw [fb_negI (by omega), ev]
  simp only [fa_le, e1, e2, ev, en]
  omega
theorem StOk.sv {g : Nat → Int32} {y p p' : Nat} {s : Nat × Nat × Nat × Int32} (h : StOk g y p s p') : Sv s := by
  obtain ⟨-, -, b1, b2⟩ := h.bd
  obtain ⟨p1, k, h⟩ := h
  unfold Sv
  rcases h with ⟨a, b, c, d, e⟩ | ⟨a, b, c, d, e⟩ | ⟨a, b, c, d, e⟩ | ⟨a, b, c, d, m, ⟨e, f, g', i⟩ | ⟨e, f, g', i⟩⟩ | ⟨a, b, c, m, d, e, ⟨f, g'⟩ | ⟨f, g'⟩⟩
  · rw [d]; exact ⟨by omega, b1, b2, fun _ => c, fun q => by omega, fun _ => rfl, by decide, by decide⟩
  · rw [d]; exact ⟨by omega, b1, b2, fun _ => c, fun q => by omega, fun _ => rfl, by decide, by decide⟩
  · rw [e]; exact ⟨by omega, b1, b2, fun q => by omega, fun _ => rfl, fun q => by omega, by decide, by decide⟩
  · rw [g']; exact ⟨by omega, b1, b2, fun _ => c, fun q => by omega, fun q => by omega, (n999 f.bd.2).2⟩
  · rw [g']; exact ⟨by omega, b1, b2, fun _ => c, fun q => by omega, fun q => by omega, (n999 f.bd.2).1⟩
  · rw [g']; exact ⟨by omega, b1, b2, fun _ => c, fun q => by omega, fun q => by omega, (n999 d.bd.2).2⟩
  · rw [g']; exact ⟨by omega, b1, b2, fun _ => c, fun q => by omega, fun q => by omega, (n999 d.bd.2).1⟩
theorem POk.bd {g : Nat → Int32} {y : Nat} {tp : Nat → Nat × Nat × Nat × Int32} {n : Nat} (h60 : y ≤ 60) (h : POk g y tp n) : n ≤ 20 ∧ 1 ≤ n ∧ ∀ j, j < n → Sv (tp j) := by
  obtain ⟨m, p0, en, hp, hs⟩ := h
  obtain ⟨a, b, c⟩ := Par_bd m p0 hp
  have := hs.bd.1
  refine ⟨by omega, by omega, fun j hj => ?_⟩
  by_cases e : j = m
  · rw [e]; exact hs.sv
  · obtain ⟨q0, q1, hq⟩ := c j (by omega)
    exact hq.sv
