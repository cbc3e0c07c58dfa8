/-! the reference reads the script -/
def Bs (σ0 σ : Sg) (y : Nat) : Prop := σ.1 26 = nI y ∧ (∀ j, j ≠ 26 → j ≠ 27 → j ≠ 28 → j ≠ 30 → σ.1 j = σ0.1 j) ∧ (∀ j, j ≠ 29 → σ.2 j = σ0.2 j)
def Rd (σ0 σ : Sg) (y p n : Nat) : Prop := Bs σ0 σ y ∧ σ.1 27 = nI p ∧ σ.1 28 = -1 ∧ σ.1 30 = nI n
def Ff (σ0 σ : Sg) (y fp : Nat) : Prop := Bs σ0 σ y ∧ σ.1 28 = nI fp
def Kf (σ0 σ : Sg) (y fp : Nat) : Prop := Bs σ0 σ y ∧ (σ.1 28 = nI fp ∨ (σ.1 28 = -1 ∧ σ.1 27 = nI fp ∧ Dg (σ0.2 24) y fp))
theorem is_ne {g : Nat → Int32} {y p : Nat} {c c' : Int32} (h : Is g y p c) (hc : ¬ c = c') : ¬ Is g y p c' := fun h' => hc (h.2.symm.trans h'.2)
theorem dg_nis {g : Nat → Int32} {y p : Nat} {c : Int32} (h : Dg g y p) (hc : ¬ (48 ≤ c ∧ c ≤ 57)) : ¬ Is g y p c := fun h' => hc (by rw [← h'.2]; exact h.2)
theorem dig_val (v d : Nat) : ((10 * nI v) + nI (48 + d)) - 48 = nI (10 * v + d) := by
  rw [show (10 : Int32) = nI 10 from rfl, pk_mul, nI_add, show 10 * v + (48 + d) = 48 + (10 * v + d) by omega, sub48]
section RRD
variable {σ0 σ : Sg} {y p n : Nat}
theorem Bs.g (h : Bs σ0 σ y) : σ.2 24 = σ0.2 24 := h.2.2 24 (by decide)
theorem Bs.a29 (h : Bs σ0 σ y) {i : Nat} {v : Int32} : Bs σ0 (sA σ 29 i v) y := ⟨h.1, h.2.1, fun j hj => by rw [sA_ne _ hj]; exact h.2.2 j hj⟩
theorem Bs.f (h : Bs σ0 σ y) {k : Nat} {v : Int32} (hk : k = 27 ∨ k = 28 ∨ k = 30) : Bs σ0 (sF σ k v) y := by
  refine ⟨?_, fun j h26 h27 h28 h30 => ?_, h.2.2⟩
  · show (if 26 = k then v else σ.1 26) = _
    rw [if_neg (by omega)]; exact h.1
  · show (if j = k then v else σ.1 j) = _
    rw [if_neg (by omega)]; exact h.2.1 j h26 h27 h28 h30
theorem Rd.a29 (h : Rd σ0 σ y p n) {i : Nat} {v : Int32} : Rd σ0 (sA σ 29 i v) y p n := ⟨h.1.a29, h.2⟩
theorem Kf.a29 (h : Kf σ0 σ y p) {i : Nat} {v : Int32} : Kf σ0 (sA σ 29 i v) y p := ⟨h.1.a29, h.2⟩
theorem Ff.a29 (h : Ff σ0 σ y p) {i : Nat} {v : Int32} : Ff σ0 (sA σ 29 i v) y p := ⟨h.1.a29, h.2⟩
theorem Rd.pos (h : Rd σ0 σ y p n) {q : Nat} : Rd σ0 (sF σ 27 (nI q)) y q n := ⟨h.1.f (Or.inl rfl), rfl, h.2.2.1, h.2.2.2⟩
theorem Rd.flt (h : Rd σ0 σ y p n) : Ff σ0 (sF σ 28 (nI p)) y p := ⟨h.1.f (Or.inr (Or.inl rfl)), rfl⟩
theorem Ff.kf (h : Ff σ0 σ y p) : Kf σ0 σ y p := ⟨h.1, Or.inl h.2⟩
theorem Ff.ne (h : Ff σ0 σ y p) (hp : p ≤ 60) : ¬ σ.1 28 = -1 := by rw [h.2]; exact nIm1 (by omega)
def sg (g : Nat → Int32) (y p : Nat) : Int32 := if p < y then g p else -1
theorem sg_is {g : Nat → Int32} {c : Int32} (hc : ¬ c = -1) : sg g y p = c ↔ Is g y p c := by
  unfold sg Is
  by_cases q : p < y
  · rw [if_pos q]; exact ⟨fun e => ⟨q, e⟩, fun e => e.2⟩
  · rw [if_neg q]; exact ⟨fun e => absurd e.symm hc, fun e => absurd e.1 q⟩
theorem rf_sign (hb : Bs σ0 σ y) (h27 : σ.1 27 = nI p) (hpy : p ≤ y) (h60 : y ≤ 60) {P : Int32 → Sg → Prop} (h : P (sg (σ0.2 24) y p) σ) : v_X6_sign σ P := by
  unfold v_X6_sign bv_X6_sign_24
  rw [hb.1, h27, hb.g, ix_nI (by omega)]
  refine ⟨fun q => ?_, fun q => ?_⟩
  · rw [sg, if_neg (fun x => nI_ge x (by omega) q)] at h; exact h
  · have hlt : p < y := Classical.byContradiction (fun x => q (nI_le (by omega) (by omega)))
    rw [sg, if_pos hlt] at h
    exact ⟨vp_in_nI (by omega) (by omega), h⟩
theorem rfi_goes (hf : ¬ σ.1 28 = -1) {c : Int32} {P : Int32 → Sg → Prop} (h : P 0 σ) : v_X6_goes σ c P := by
  unfold v_X6_goes bv_X6_goes_20 bv_X6_goes_21 bv_X6_goes_36
  refine ⟨fun _ => ⟨fun _ σ1 e1 => ⟨zb0, ?_⟩, fun q => absurd rfl q⟩, fun q => absurd q hf⟩
  rw [e1, i32_add0, sF_same]; exact h
theorem rf_goes (hd : Rd σ0 σ y p n) (hpy : p ≤ y) (h60 : y ≤ 60) {c : Int32} (hc : ¬ c = -1) {P : Int32 → Sg → Prop} (h1 : Is (σ0.2 24) y p c → P 1 (sF σ 27 (nI (p + 1)))) (h0 : ¬ Is (σ0.2 24) y p c → P 0 σ) : v_X6_goes σ c P := by
  unfold v_X6_goes bv_X6_goes_20 bv_X6_goes_21 bv_X6_goes_36
  refine ⟨fun q => absurd hd.2.2.1 q, fun _ => rf_sign hd.1 hd.2.1 hpy h60 ⟨fun q => ⟨fun _ σ1 e1 => ⟨zb0, ?_⟩, fun q => absurd rfl q⟩, fun q => ⟨fun q => absurd q ne10, fun _ σ1 e1 => ⟨zb1, ?_⟩⟩⟩⟩
  · rw [e1, i32_add0, sF_same]; exact h0 (fun x => q ((sg_is hc).mpr x))
  · rw [e1, hd.2.1, nI_1]; exact h1 ((sg_is hc).mp q)
theorem rfi_fault (hf : ¬ σ.1 28 = -1) {P : Sg → Prop} (h : P σ) : v_X6_fault σ P := by
  unfold v_X6_fault bv_X6_fault_20
  refine ⟨fun _ σ1 e1 => ?_, fun q => absurd q hf⟩
  rw [e1, sF_same]; exact h
theorem rf_fault (h28 : σ.1 28 = -1) (h27 : σ.1 27 = nI p) {P : Sg → Prop} (h : P (sF σ 28 (nI p))) : v_X6_fault σ P := by
  unfold v_X6_fault bv_X6_fault_20
  refine ⟨fun q => absurd h28 q, fun _ σ1 e1 => ?_⟩
  rw [e1, h27]; exact h
theorem rfi_expect (hf : ¬ σ.1 28 = -1) {c : Int32} {P : Sg → Prop} (h : P σ) : v_X6_expect σ c P := by
  unfold v_X6_expect bv_X6_expect_12
  exact rfi_goes hf ⟨fun q => absurd rfl q, fun _ => rfi_fault hf h⟩
theorem rf_expect (hd : Rd σ0 σ y p n) (hpy : p ≤ y) (h60 : y ≤ 60) {c : Int32} (hc : ¬ c = -1) {P : Sg → Prop} (h1 : Is (σ0.2 24) y p c → P (sF σ 27 (nI (p + 1)))) (h0 : ¬ Is (σ0.2 24) y p c → P (sF σ 28 (nI p))) : v_X6_expect σ c P := by
  unfold v_X6_expect bv_X6_expect_12
  exact rf_goes hd hpy h60 hc (fun i => ⟨fun _ => h1 i, fun q => absurd q ne10⟩) (fun i => ⟨fun q => absurd rfl q, fun _ => rf_fault hd.2.2.1 hd.2.1 (h0 i)⟩)
theorem rfi_isDigit (hf : ¬ σ.1 28 = -1) {P : Int32 → Sg → Prop} (h : P 0 σ) : v_X6_isDigit σ P := by
  unfold v_X6_isDigit bv_X6_isDigit_26 bv_X6_isDigit_27
  exact ⟨fun _ => ⟨zb0, h⟩, fun q => absurd q hf⟩
theorem rf_isDigit (hd : Rd σ0 σ y p n) (hpy : p ≤ y) (h60 : y ≤ 60) {P : Int32 → Sg → Prop} (h1 : Dg (σ0.2 24) y p → P 1 σ) (h0 : ¬ Dg (σ0.2 24) y p → P 0 σ) : v_X6_isDigit σ P := by
  unfold v_X6_isDigit bv_X6_isDigit_26 bv_X6_isDigit_27
  refine ⟨fun q => absurd hd.2.2.1 q, fun _ => rf_sign hd.1 hd.2.1 hpy h60 (rf_isIn (fun g => ⟨fun q => absurd q ne10, fun _ => ⟨zb1, h1 ?_⟩⟩) (fun g => ⟨fun _ => ⟨zb0, h0 (fun d => g ?_)⟩, fun q => absurd rfl q⟩))⟩
  · by_cases q : p < y
    · rw [sg, if_pos q] at g; exact ⟨q, g⟩
    · rw [sg, if_neg q] at g; exact absurd g.1 (by decide)
  · rw [sg, if_pos d.1]; exact d.2
theorem rfi_digits (hf : ¬ σ.1 28 = -1) {L : Nat} (hL : 1 ≤ L) (hL3 : L ≤ 3) {b : Int32} {P : Int32 → Sg → Prop} (h : P 0 σ) : v_X6_digits σ (nI L) b P := by
  unfold v_X6_digits bv_X6_digits_11
  have x : ∃ f16, bv_X6_digits_16 P f16 σ (nI L) b 0 0 := ⟨1, by
    rw [bv_X6_digits_16]
    dsimp only
    simp only [bv_X6_digits_74]
    exact ⟨fun _ => h, fun _ => rfi_isDigit hf ⟨fun _ => h, fun q => absurd rfl q⟩⟩⟩
  exact rfi_isDigit hf ⟨fun q => absurd rfl q, fun _ => rfi_fault hf x⟩
theorem rf_dg_loop (hpy : p ≤ y) (h60 : y ≤ 60) {L B : Nat} (hB : B < 1000) (hL : L ≤ 3) {R : Nat → Int32} {P : Int32 → Sg → Prop} (hst : ∀ m σ', m ≤ L → Rd σ0 σ' y (p + m) n → σ'.2 29 = R → (∀ i, i < m → Dg (σ0.2 24) y (p + i)) → nv (σ0.2 24) p m ≤ B → (m = L ∨ ¬ Dg (σ0.2 24) y (p + m) ∨ (Dg (σ0.2 24) y (p + m) ∧ B < nv (σ0.2 24) p (m + 1))) → P (nI (nv (σ0.2 24) p m)) σ') : ∀ f m σ, m + f = L → Rd σ0 σ y (p + m) n → σ.2 29 = R → (∀ i, i < m → Dg (σ0.2 24) y (p + i)) → nv (σ0.2 24) p m ≤ B → p + m ≤ y → bv_X6_digits_16 P (f + 1) σ (nI L) (nI B) (nI (nv (σ0.2 24) p m)) (nI m) := by
  intro f
  induction f with
  | zero =>
    intro m σ hm hd hR hg hnv hpm
    have e : m = L := by omega
    rw [bv_X6_digits_16]
    dsimp only
    simp only [bv_X6_digits_74]
    exact ⟨fun _ => hst m σ (by omega) hd hR hg hnv (Or.inl e), fun q => absurd (nI_le (by omega) (by omega)) q⟩
  | succ f ih =>
    intro m σ hm hd hR hg hnv hpm
    rw [bv_X6_digits_16]
    dsimp only
    simp only [bv_X6_digits_74]
    refine ⟨fun q => absurd q (nI_ge (by omega) (by omega)), fun _ => rf_isDigit hd hpm h60 (fun d => ⟨fun q => absurd q ne10, fun _ => rf_sign hd.1 hd.2.1 hpm h60 ?_⟩) (fun d => ⟨fun _ => hst m σ (by omega) hd hR hg hnv (Or.inr (Or.inl d)), fun q => absurd rfl q⟩)⟩
    obtain ⟨d1, d2⟩ := dg_nI d
    have es : sg (σ0.2 24) y (p + m) = nI (48 + dv (σ0.2 24) (p + m)) := by rw [sg, if_pos d.1]; exact d2
    rw [es, dig_val]
    have nvs : nv (σ0.2 24) p (m + 1) = 10 * nv (σ0.2 24) p m + dv (σ0.2 24) (p + m) := rfl
    rw [← nvs]
    have nb : nv (σ0.2 24) p (m + 1) < 10000 := by rw [nvs]; omega
    refine ⟨fun q => hst m σ (by omega) hd hR hg hnv (Or.inr (Or.inr ⟨d, Classical.byContradiction (fun x => nI_nl (a := nv (σ0.2 24) p (m + 1)) (b := B) (by omega) (by omega) q)⟩)), fun q => rf_sign hd.1 hd.2.1 hpm h60 (fun v4 hv4 σ5 e5 v6 hv6 => ?_)⟩
    rw [es, dig_val, ← nvs] at hv4
    rw [hd.2.1, nI_1] at e5
    rw [hv4, hv6, nI_1, e5]
    refine ih (m + 1) _ (by omega) hd.pos hR (fun i hi => ?_) (Classical.byContradiction (fun x => q (nI_lt (by omega) (by omega)))) d.1
    by_cases e : i = m
    · rw [e]; exact d
    · exact hg i (by omega)
theorem rf_readKey (hd : Rd σ0 σ y p n) (hpy : p ≤ y) (h60 : y ≤ 60) {P : Int32 → Sg → Prop} (hOk : ∀ v p' σ', KyOk (σ0.2 24) y p v p' → Rd σ0 σ' y p' n → σ'.2 29 = σ.2 29 → P (nI v) σ') (hNo : ∀ v p' σ', KyNo (σ0.2 24) y p p' → Kf σ0 σ' y p' → P v σ') : v_X6_readKey σ P := by
  unfold v_X6_readKey v_X6_digits bv_X6_digits_11
  refine rf_isDigit hd hpy h60 (fun d => ⟨fun _ => ⟨3, ?_⟩, fun q => absurd q ne10⟩) (fun d => ⟨fun q => absurd rfl q, fun _ => rf_fault hd.2.2.1 hd.2.1 ⟨1, ?_⟩⟩)
  · refine rf_dg_loop (σ0 := σ0) (n := n) (p := p) (L := 2) (B := 31) (R := σ.2 29) hpy h60 (by omega) (by omega) (fun m σ' hm hd' hR hg hnv hs => ?_) 2 0 σ (by omega) hd rfl (fun i hi => absurd hi (by omega)) (by simp [nv]) (by omega)
    have n1 : nv (σ0.2 24) p 1 = dv (σ0.2 24) p := by simp [nv]
    have n2 : nv (σ0.2 24) p 2 = 10 * dv (σ0.2 24) p + dv (σ0.2 24) (p + 1) := by simp [nv]
    have b0 := (dg_nI d).1
    rcases (by omega : m = 0 ∨ m = 1 ∨ m = 2) with e | e | e
    · subst e
      rcases hs with e | e | ⟨_, e⟩
      · omega
      · exact absurd d e
      · rw [n1] at e; omega
    · subst e
      rcases hs with e | e | ⟨e, e2⟩
      · omega
      · rw [n1]; exact hOk _ (p + 1) σ' ⟨d, Or.inr ⟨e, rfl, rfl⟩⟩ hd' hR
      · exact hNo _ (p + 1) σ' (Or.inr ⟨d, e, by rw [n2] at e2; omega, rfl⟩) ⟨hd'.1, Or.inr ⟨hd'.2.2.1, hd'.2.1, e⟩⟩
    · subst e
      have d' := hg 1 (by omega)
      rw [n2] at hnv ⊢
      exact hOk _ (p + 2) σ' ⟨d, Or.inl ⟨d', by omega, rfl, rfl⟩⟩ hd' hR
  · have nf := hd.flt.ne (by omega)
    rw [bv_X6_digits_16]
    dsimp only
    simp only [bv_X6_digits_74]
    have x := hNo 0 p _ (Or.inl ⟨d, rfl⟩) hd.flt.kf
    exact ⟨fun _ => x, fun _ => rfi_isDigit nf ⟨fun _ => x, fun q => absurd rfl q⟩⟩
theorem rf_digits3 (hd : Rd σ0 σ y p n) (hpy : p ≤ y) (h60 : y ≤ 60) {P : Int32 → Sg → Prop} (hOk : ∀ m σ', NmOk (σ0.2 24) y p m → Rd σ0 σ' y (p + m) n → σ'.2 29 = σ.2 29 → P (nI (nv (σ0.2 24) p m)) σ') (hNo : ¬ Dg (σ0.2 24) y p → P 0 (sF σ 28 (nI p))) : v_X6_digits σ 3 999 P := by
  unfold v_X6_digits bv_X6_digits_11
  refine rf_isDigit hd hpy h60 (fun d => ⟨fun _ => ⟨4, ?_⟩, fun q => absurd q ne10⟩) (fun d => ⟨fun q => absurd rfl q, fun _ => rf_fault hd.2.2.1 hd.2.1 ⟨1, ?_⟩⟩)
  · refine rf_dg_loop (σ0 := σ0) (n := n) (p := p) (L := 3) (B := 999) (R := σ.2 29) hpy h60 (by omega) (by omega) (fun m σ' hm hd' hR hg hnv hs => hOk m σ' ⟨?_, hm, hg, ?_⟩ hd' hR) 3 0 σ (by omega) hd rfl (fun i hi => absurd hi (by omega)) (by simp [nv]) (by omega)
    · rcases Nat.eq_zero_or_pos m with e | e
      · subst e
        have n1 : nv (σ0.2 24) p 1 = dv (σ0.2 24) p := by simp [nv]
        have b0 := (dg_nI d).1
        rcases hs with e | e | ⟨_, e⟩
        · omega
        · exact absurd d e
        · rw [n1] at e; omega
      · exact e
    · rcases hs with e | e | ⟨e, e2⟩
      · exact Or.inl e
      · exact Or.inr e
      · by_cases q : m = 3
        · exact Or.inl q
        · exfalso
          have : nv (σ0.2 24) p (m + 1) < 1000 := nv_999 (y := y) (fun i hi => by
            by_cases e3 : i = m
            · rw [e3]; exact e
            · exact hg i (by omega)) (by omega)
          omega
  · have nf := hd.flt.ne (by omega)
    rw [bv_X6_digits_16]
    dsimp only
    simp only [bv_X6_digits_74]
    exact ⟨fun _ => hNo d, fun _ => rfi_isDigit nf ⟨fun _ => hNo d, fun q => absurd rfl q⟩⟩
end RRD
