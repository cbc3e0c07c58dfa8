/-! the reference reads a step -/
theorem ky_det {g : Nat → Int32} {y p v p' v2 p2 : Nat} (h : KyOk g y p v p') (h2 : KyOk g y p v2 p2) : v = v2 ∧ p' = p2 := by
  obtain ⟨a, ⟨b, c, d, e⟩ | ⟨b, d, e⟩⟩ := h <;> obtain ⟨a', ⟨b', c', d', e'⟩ | ⟨b', d', e'⟩⟩ := h2
  · omega
  · exact absurd b b'
  · exact absurd b' b
  · omega
theorem ky_no {g : Nat → Int32} {y p v p' fp : Nat} (h : KyOk g y p v p') (h2 : KyNo g y p fp) : False := by
  obtain ⟨a, ⟨b, c, d, e⟩ | ⟨b, d, e⟩⟩ := h <;> obtain ⟨a', e'⟩ | ⟨a', b', c', e'⟩ := h2
  · exact a' a
  · exact c' c
  · exact a' a
  · exact b b'
theorem kyno_det {g : Nat → Int32} {y p fp fp2 : Nat} (h : KyNo g y p fp) (h2 : KyNo g y p fp2) : fp = fp2 := by
  obtain ⟨a, e⟩ | ⟨a, b, c, e⟩ := h <;> obtain ⟨a', e'⟩ | ⟨a', b', c', e'⟩ := h2
  · omega
  · exact absurd a' a
  · exact absurd a a'
  · omega
theorem nm_det {g : Nat → Int32} {y p m m2 : Nat} (h : NmOk g y p m) (h2 : NmOk g y p m2) : m = m2 := by
  obtain ⟨a, b, c, d⟩ := h
  obtain ⟨a', b', c', d'⟩ := h2
  rcases Nat.lt_trichotomy m m2 with q | q | q
  · rcases d with d | d
    · omega
    · exact absurd (c' m q) d
  · exact q
  · rcases d' with d | d
    · omega
    · exact absurd (c m2 q) d
theorem nm_dg {g : Nat → Int32} {y p m : Nat} (h : NmOk g y p m) : Dg g y p := by
  have := h.2.2.1 0 (by have := h.1; omega)
  exact this
theorem is_det {g : Nat → Int32} {y p : Nat} {c c' : Int32} (h : Is g y p c) (h' : Is g y p c') : c = c' := h.2.symm.trans h'.2
theorem s4_ext {s s2 : Nat × Nat × Nat × Int32} (h1 : s.1 = s2.1) (h2 : s.2.1 = s2.2.1) (h3 : s.2.2.1 = s2.2.2.1) (h4 : s.2.2.2 = s2.2.2.2) : s = s2 := Prod.ext h1 (Prod.ext h2 (Prod.ext h3 h4))
theorem st_det {g : Nat → Int32} {y p p' p2 : Nat} {s s2 : Nat × Nat × Nat × Int32} (h : StOk g y p s p') (h2 : StOk g y p s2 p2) : s = s2 ∧ p' = p2 := by
  obtain ⟨p1, k, h⟩ := h
  obtain ⟨p1', k', h2⟩ := h2
  obtain ⟨kv, kp⟩ := ky_det k k'
  subst kp
  rcases h with ⟨a, b, c, d, e⟩ | ⟨a, b, c, d, e⟩ | ⟨a, b, c, d, e⟩ | ⟨a, b, c, d, m, e⟩ | ⟨a, b, c, m, d, e, f⟩ <;> rcases h2 with ⟨a', b', c', d', e'⟩ | ⟨a', b', c', d', e'⟩ | ⟨a', b', c', d', e'⟩ | ⟨a', b', c', d', m', e'⟩ | ⟨a', b', c', m', d', e', f'⟩
  all_goals first
    | exact absurd (is_det a a') (by decide)
    | skip
  · exact ⟨s4_ext (b.trans b'.symm) kv (by rw [c, c', kv]) (d.trans d'.symm), by omega⟩
  · exact ⟨s4_ext (b.trans b'.symm) kv (by rw [c, c', kv]) (d.trans d'.symm), by omega⟩
  · obtain ⟨kv2, kp2⟩ := ky_det d d'
    exact ⟨s4_ext (b.trans b'.symm) kv kv2 (e.trans e'.symm), kp2⟩
  · rcases e with ⟨i, nm, e1, e2⟩ | ⟨i, nm, e1, e2⟩ <;> rcases e' with ⟨i', nm', e1', e2'⟩ | ⟨i', nm', e1', e2'⟩
    · have := nm_det nm nm'
      subst this
      exact ⟨s4_ext (b.trans b'.symm) kv (by rw [c, c', kv]) (e1.trans e1'.symm), by omega⟩
    · exact absurd i i'
    · exact absurd i' i
    · have := nm_det nm nm'
      subst this
      exact ⟨s4_ext (b.trans b'.symm) kv (by rw [c, c', kv]) (e1.trans e1'.symm), by omega⟩
  · have := nm_det d d'
    subst this
    rcases f with ⟨i, e1⟩ | ⟨i, e1⟩ <;> rcases f' with ⟨i', e1'⟩ | ⟨i', e1'⟩
    · exact ⟨s4_ext (b.trans b'.symm) kv (by rw [c, c', kv]) (e1.trans e1'.symm), by omega⟩
    · exact absurd (is_det i i') (by decide)
    · exact absurd (is_det i i') (by decide)
    · exact ⟨s4_ext (b.trans b'.symm) kv (by rw [c, c', kv]) (e1.trans e1'.symm), by omega⟩
theorem st_no {g : Nat → Int32} {y p p' fp : Nat} {s : Nat × Nat × Nat × Int32} (h : StOk g y p s p') (h2 : StNo g y p fp) : False := by
  obtain ⟨p1, k, h⟩ := h
  rcases h2 with ⟨n1, n2, n3, n4, n5, _⟩ | ⟨c0, _, i0, k2 | ⟨v, p1', k2, h2⟩⟩
  · rcases h with ⟨a, _⟩ | ⟨a, _⟩ | ⟨a, _⟩ | ⟨a, _⟩ | ⟨a, _⟩
    · exact n1 a
    · exact n3 a
    · exact n5 a
    · exact n2 a
    · exact n4 a
  · exact ky_no k k2
  · obtain ⟨kv, kp⟩ := ky_det k k2
    subst kp
    rcases h with ⟨a, b, c, d, e⟩ | ⟨a, b, c, d, e⟩ | ⟨a, b, c, d, e⟩ | ⟨a, b, c, d, m, e⟩ | ⟨a, b, c, m, d, e, f⟩ <;> rcases h2 with ⟨ec, h2⟩ | ⟨ec, h2⟩ | ⟨ec, h2⟩
    all_goals subst ec
    all_goals first
      | exact absurd (is_det a i0) (by decide)
      | skip
    · rcases h2 with ⟨x, _⟩ | ⟨x, x2⟩
      · exact x c
      · exact ky_no d x2
    · rcases h2 with ⟨x, _⟩ | ⟨x, x2, x3, _⟩ | ⟨x, x2, x3, _⟩
      · exact x d
      · rcases e with ⟨i, nm, _⟩ | ⟨i, nm, _⟩
        · exact x3 (nm_dg nm)
        · exact i x2
      · rcases e with ⟨i, nm, _⟩ | ⟨i, nm, _⟩
        · exact x2 i
        · exact x3 (nm_dg nm)
    · rcases h2 with ⟨x, x2, _⟩ | ⟨x, x2, _⟩ | ⟨x, x2, _⟩
      · exact f.elim (fun f => x f.1) (fun f => x2 f.1)
      · exact x2 (nm_dg d)
      · exact x2 (nm_dg d)
theorem stno_det {g : Nat → Int32} {y p fp fp2 : Nat} (h : StNo g y p fp) (h2 : StNo g y p fp2) : fp = fp2 := by
  have cross : ∀ {c0 : Int32}, (c0 = 114 ∨ c0 = 119 ∨ c0 = 100 ∨ c0 = 97 ∨ c0 = 115) → Is g y p c0 → ¬ Is g y p 114 → ¬ Is g y p 119 → ¬ Is g y p 100 → ¬ Is g y p 97 → ¬ Is g y p 115 → False := fun hc i n1 n2 n3 n4 n5 => by
    rcases hc with e | e | e | e | e <;> subst e
    · exact n1 i
    · exact n2 i
    · exact n3 i
    · exact n4 i
    · exact n5 i
  rcases h with ⟨n1, n2, n3, n4, n5, e⟩ | ⟨c0, hc, i0, h⟩ <;> rcases h2 with ⟨n1', n2', n3', n4', n5', e'⟩ | ⟨c0', hc', i0', h2⟩
  · omega
  · exact absurd (cross hc' i0' n1 n2 n3 n4 n5) id
  · exact absurd (cross hc i0 n1' n2' n3' n4' n5') id
  · have ecc := is_det i0 i0'
    subst ecc
    rcases h with k | ⟨v, p1, k, h⟩ <;> rcases h2 with k2 | ⟨v2, p1', k2, h2⟩
    · exact kyno_det k k2
    · exact absurd (ky_no k2 k) id
    · exact absurd (ky_no k k2) id
    · obtain ⟨kv, kp⟩ := ky_det k k2
      subst kp
      rcases h with ⟨ec, h⟩ | ⟨ec, h⟩ | ⟨ec, h⟩ <;> rcases h2 with ⟨ec2, h2⟩ | ⟨ec2, h2⟩ | ⟨ec2, h2⟩
      all_goals first
        | exact absurd (ec.symm.trans ec2) (by decide)
        | skip
      · rcases h with ⟨x, e⟩ | ⟨x, x2⟩ <;> rcases h2 with ⟨x', e'⟩ | ⟨x', x2'⟩
        · omega
        · exact absurd x' x
        · exact absurd x x'
        · exact kyno_det x2 x2'
      · rcases h with ⟨x, e⟩ | ⟨x, x2, x3, e⟩ | ⟨x, x2, x3, e⟩ <;> rcases h2 with ⟨x', e'⟩ | ⟨x', x2', x3', e'⟩ | ⟨x', x2', x3', e'⟩
        all_goals first
          | omega
          | exact absurd x' x
          | exact absurd x x'
          | exact absurd x2' x2
          | exact absurd x2 x2'
      · rcases h with ⟨x, x2, e⟩ | ⟨x, x2, e⟩ | ⟨x, x2, e⟩ <;> rcases h2 with ⟨x', x2', e'⟩ | ⟨x', x2', e'⟩ | ⟨x', x2', e'⟩
        all_goals first
          | omega
          | exact absurd x' x
          | exact absurd x x'
          | exact absurd x' x2
          | exact absurd x x2'
def W29 (σ : Sg) (n : Nat) (s : Nat × Nat × Nat × Int32) : Prop := σ.2 29 (3 * n) = nI s.1 ∧ σ.2 29 (3 * n + 1) = nI s.2.1 ∧ σ.2 29 (3 * n + 2) = if s.1 = 2 then nI s.2.2.1 else s.2.2.2
section RST
variable {σ0 σ : Sg} {y p n : Nat}
theorem rd_end (h : Rd σ0 σ y p n) : Rd σ0 (sF σ 30 (σ.1 30 + 1)) y p (n + 1) := ⟨h.1.f (Or.inr (Or.inr rfl)), h.2.1, h.2.2.1, by
  show σ.1 30 + 1 = _
  rw [h.2.2.2, nI_1]⟩
theorem kf_end (h : Kf σ0 σ y p) {v : Int32} : Kf σ0 (sF σ 30 v) y p := ⟨h.1.f (Or.inr (Or.inr rfl)), h.2⟩
theorem rfk_goes (hk : Kf σ0 σ y p) (hp : p ≤ y) (h60 : y ≤ 60) {c : Int32} (hc : ¬ (48 ≤ c ∧ c ≤ 57)) (hc1 : ¬ c = -1) {P : Int32 → Sg → Prop} (h : P 0 σ) : v_X6_goes σ c P := by
  obtain ⟨hb, e | ⟨e, e2, d⟩⟩ := hk
  · exact rfi_goes (by rw [e]; exact nIm1 (by omega)) h
  · unfold v_X6_goes bv_X6_goes_20 bv_X6_goes_21 bv_X6_goes_36
    refine ⟨fun q => absurd e q, fun _ => rf_sign hb e2 hp h60 ⟨fun q => ⟨fun _ σ1 e1 => ⟨zb0, ?_⟩, fun q => absurd rfl q⟩, fun q => absurd ((sg_is hc1).mp q) (dg_nis d hc)⟩⟩
    rw [e1, i32_add0, sF_same]; exact h
theorem rfk_expect (hk : Kf σ0 σ y p) (hp : p ≤ y) (h60 : y ≤ 60) {c : Int32} (hc : ¬ (48 ≤ c ∧ c ≤ 57)) (hc1 : ¬ c = -1) {P : Sg → Prop} (h : ∀ σ', Ff σ0 σ' y p → P σ') : v_X6_expect σ c P := by
  unfold v_X6_expect bv_X6_expect_12
  refine rfk_goes hk hp h60 hc hc1 ⟨fun q => absurd rfl q, fun _ => ?_⟩
  obtain ⟨hb, e | ⟨e, e2, d⟩⟩ := hk
  · exact rfi_fault (by rw [e]; exact nIm1 (by omega)) (h σ ⟨hb, e⟩)
  · exact rf_fault e e2 (h _ ⟨hb.f (Or.inr (Or.inl rfl)), rfl⟩)
theorem rfi_readKey (hf : ¬ σ.1 28 = -1) {P : Int32 → Sg → Prop} (h : P 0 σ) : v_X6_readKey σ P := by
  unfold v_X6_readKey
  exact rfi_digits (L := 2) hf (by omega) (by omega) h
/-- the rows of the step that is read -/
def Re (σ σ' : Sg) (n : Nat) (kd v x : Int32) : Prop := (∀ i, i < 3 * n → σ'.2 29 i = σ.2 29 i) ∧ σ'.2 29 (3 * n) = kd ∧ σ'.2 29 (3 * n + 1) = v ∧ σ'.2 29 (3 * n + 2) = x
theorem Re.put {σ' : Sg} {kd v x x' : Int32} (h : Re σ σ' n kd v x) {σ2 : Sg} (e : σ2.2 29 = σ'.2 29) : Re σ (sA σ2 29 (3 * n + 2) x') n kd v x' := by
  obtain ⟨a, b, c, d⟩ := h
  refine ⟨fun i hi => ?_, ?_, ?_, ?_⟩
  · rw [sA_at, if_neg (by omega), e]; exact a i hi
  · rw [sA_at, if_neg (by omega), e]; exact b
  · rw [sA_at, if_neg (by omega), e]; exact c
  · rw [sA_at, if_pos rfl]
theorem rf_pre (hd : Rd σ0 σ y p n) (hpy : p ≤ y) (h60 : y ≤ 60) (hn : n ≤ 38) {kd : Int32} {T : Sg → Prop} (hOk : ∀ v p1 σ7, KyOk (σ0.2 24) y p v p1 → Rd σ0 σ7 y p1 n → Re σ σ7 n kd (nI v) 0 → T σ7) (hNo : ∀ fp σ7, KyNo (σ0.2 24) y p fp → Kf σ0 σ7 y fp → T σ7) : vp_in (nI (3 * n)) 120 ∧ ∀ σ2 : Sg, σ2 = sA σ 29 (ix (nI (3 * n))) kd → v_X6_readKey σ2 (fun r3 σ3 => vp_in (nI (3 * n) + 1) 120 ∧ ∀ σ5 : Sg, σ5 = sA σ3 29 (ix (nI (3 * n) + 1)) r3 → vp_in (nI (3 * n) + 2) 120 ∧ ∀ σ7 : Sg, σ7 = sA σ5 29 (ix (nI (3 * n) + 2)) 0 → T σ7) := by
  rw [nI_1, nI_2, ix_nI (by omega), ix_nI (by omega), ix_nI (by omega)]
  refine ⟨vp_in_nI (by omega) (by omega), fun σ2 e2 => ?_⟩
  rw [e2]
  refine rf_readKey hd.a29 hpy h60 (fun v p1 σ3 ky h3 r3 => ⟨vp_in_nI (by omega) (by omega), fun σ5 e5 => ⟨vp_in_nI (by omega) (by omega), fun σ7 e7 => hOk v p1 σ7 ky ?_ ⟨fun i hi => ?_, ?_, ?_, ?_⟩⟩⟩) (fun v fp σ3 ky h3 => ⟨vp_in_nI (by omega) (by omega), fun σ5 e5 => ⟨vp_in_nI (by omega) (by omega), fun σ7 e7 => hNo fp σ7 ky ?_⟩⟩)
  · rw [e7, e5]; exact h3.a29.a29
  · rw [e7, sA_at, if_neg (by omega), e5, sA_at, if_neg (by omega), r3, sA_at, if_neg (by omega)]
  · rw [e7, sA_at, if_neg (by omega), e5, sA_at, if_neg (by omega), r3, sA_at, if_pos rfl]
  · rw [e7, sA_at, if_neg (by omega), e5, sA_at, if_pos rfl]
  · rw [e7, sA_at, if_pos rfl]
  · rw [e7, e5]; exact h3.a29.a29
theorem rf_head (hd : Rd σ0 σ y p n) (hpy : p ≤ y) (h60 : y ≤ 60) {P : Sg → Prop} (hr : Is (σ0.2 24) y p 114 → bv_X6_readStep_73 P (sF σ 27 (nI (p + 1))) (nI (3 * n)) 0) (hw : Is (σ0.2 24) y p 119 → bv_X6_readStep_73 P (sF σ 27 (nI (p + 1))) (nI (3 * n)) 3) (hd' : Is (σ0.2 24) y p 100 → bv_X6_readStep_73 P (sF σ 27 (nI (p + 1))) (nI (3 * n)) 4) (ha : Is (σ0.2 24) y p 97 → bv_X6_readStep_73 P (sF σ 27 (nI (p + 1))) (nI (3 * n)) 5) (hs : Is (σ0.2 24) y p 115 → bv_X6_readStep_73 P (sF σ 27 (nI (p + 1))) (nI (3 * n)) 2) (hn : ¬ Is (σ0.2 24) y p 114 → ¬ Is (σ0.2 24) y p 119 → ¬ Is (σ0.2 24) y p 100 → ¬ Is (σ0.2 24) y p 97 → ¬ Is (σ0.2 24) y p 115 → bv_X6_readStep_73 P σ (nI (3 * n)) (-1)) : v_X6_readStep σ P := by
  unfold v_X6_readStep
  intro v1 hv1
  have e3 : (3 : Int32) * nI n = nI (3 * n) := by rw [show (3 : Int32) = nI 3 from rfl, pk_mul]
  rw [hd.2.2.2, e3] at hv1
  rw [hv1]
  exact rf_goes hd hpy h60 (by decide) (fun i => ⟨fun q => absurd q ne10, fun _ => hr i⟩) (fun n1 => ⟨fun _ => rf_goes hd hpy h60 (by decide) (fun i => ⟨fun q => absurd q ne10, fun _ => hw i⟩) (fun n2 => ⟨fun _ => rf_goes hd hpy h60 (by decide) (fun i => ⟨fun q => absurd q ne10, fun _ => hd' i⟩) (fun n3 => ⟨fun _ => rf_goes hd hpy h60 (by decide) (fun i => ⟨fun q => absurd q ne10, fun _ => ha i⟩) (fun n4 => ⟨fun _ => rf_goes hd hpy h60 (by decide) (fun i => ⟨fun q => absurd q ne10, fun _ => hs i⟩) (fun n5 => ⟨fun _ => hn n1 n2 n3 n4 n5, fun q => absurd rfl q⟩), fun q => absurd rfl q⟩), fun q => absurd rfl q⟩), fun q => absurd rfl q⟩), fun q => absurd rfl q⟩)
theorem mul_m1 (x : Int32) : (-1 : Int32) * x = -x := by
  rw [Int32.neg_mul, Int32.one_mul]
theorem rf_step (hd : Rd σ0 σ y p n) (hpy : p ≤ y) (h60 : y ≤ 60) (hn : n ≤ 38) {P : Sg → Prop} (hOk : ∀ s p' σ', StOk (σ0.2 24) y p s p' → Rd σ0 σ' y p' (n + 1) → (∀ i, i < 3 * n → σ'.2 29 i = σ.2 29 i) → W29 σ' n s → P σ') (hNo : ∀ fp σ', StNo (σ0.2 24) y p fp → Kf σ0 σ' y fp → P σ') : v_X6_readStep σ P := by
  have good : ∀ {s : Nat × Nat × Nat × Int32} {p' : Nat} {σ7 : Sg} {x : Int32} {l1 l2 : Int32}, StOk (σ0.2 24) y p s p' → Rd σ0 σ7 y p' n → Re σ σ7 n (nI s.1) (nI s.2.1) x → x = (if s.1 = 2 then nI s.2.2.1 else s.2.2.2) → bv_X6_readStep_233 P σ7 l1 l2 := fun {s p' σ7 x l1 l2} hs h7 r7 hx => by
    unfold bv_X6_readStep_233
    intro σ1 e1
    rw [e1]
    exact hOk s p' _ hs (rd_end h7) r7.1 ⟨r7.2.1, r7.2.2.1, r7.2.2.2.trans hx⟩
  have bad : ∀ {fp : Nat} {σ7 : Sg} {l1 l2 : Int32}, StNo (σ0.2 24) y p fp → Kf σ0 σ7 y fp → bv_X6_readStep_233 P σ7 l1 l2 := fun {fp σ7 l1 l2} hs h7 => by
    unfold bv_X6_readStep_233
    intro σ1 e1
    rw [e1]
    exact hNo fp _ hs (kf_end h7)
  have ixv : ix (nI (3 * n) + 2) = 3 * n + 2 := by rw [nI_2, ix_nI (by omega)]
  have vpv : vp_in (nI (3 * n) + 2) 120 := by rw [nI_2]; exact vp_in_nI (by omega) (by omega)
  have dead : ∀ {fp : Nat} {σ7 : Sg} {l2 s0 : Int32}, StNo (σ0.2 24) y p fp → Ff σ0 σ7 y fp → fp ≤ y → v_X6_digits σ7 3 999 (fun r1 σ1 => vp_in (nI (3 * n) + 2) 120 ∧ ∀ σ3 : Sg, σ3 = sA σ1 29 (ix (nI (3 * n) + 2)) (s0 * r1) → bv_X6_readStep_233 P σ3 (nI (3 * n)) l2) := fun {fp σ7 l2 s0} hs h7 hfp => by
    refine rfi_digits (L := 3) (h7.ne (by omega)) (by omega) (by omega) ⟨vpv, fun σ3 e3 => ?_⟩
    rw [e3]
    exact bad hs h7.a29.kf
  have d3 : ∀ {p2 : Nat} {σ7 : Sg} {l2 s0 : Int32}, Rd σ0 σ7 y p2 n → p2 ≤ y → (¬ Dg (σ0.2 24) y p2 → StNo (σ0.2 24) y p p2) → (∀ m σ1, NmOk (σ0.2 24) y p2 m → Rd σ0 σ1 y (p2 + m) n → σ1.2 29 = σ7.2 29 → bv_X6_readStep_233 P (sA σ1 29 (3 * n + 2) (s0 * nI (nv (σ0.2 24) p2 m))) (nI (3 * n)) l2) → v_X6_digits σ7 3 999 (fun r1 σ1 => vp_in (nI (3 * n) + 2) 120 ∧ ∀ σ3 : Sg, σ3 = sA σ1 29 (ix (nI (3 * n) + 2)) (s0 * r1) → bv_X6_readStep_233 P σ3 (nI (3 * n)) l2) := fun {p2 σ7 l2 s0} h7 hp2 hno hok => by
    refine rf_digits3 h7 hp2 h60 (fun m σ1 nm h1 e29 => ⟨vpv, fun σ3 e3 => ?_⟩) (fun nd => ⟨vpv, fun σ3 e3 => ?_⟩)
    · rw [e3, ixv]; exact hok m σ1 nm h1 e29
    · rw [e3]; exact bad (hno nd) h7.flt.a29.kf
  have z : ∀ {k : Int32}, (k = 114 ∨ k = 119 ∨ k = 100 ∨ k = 97 ∨ k = 115) → Is (σ0.2 24) y p k → ∀ {fp : Nat}, KyNo (σ0.2 24) y (p + 1) fp → StNo (σ0.2 24) y p fp := fun hk i _ ky => Or.inr ⟨_, hk, i, Or.inl ky⟩
  refine rf_head hd hpy h60 (fun i => ⟨fun _ => rf_pre hd.pos i.1 h60 hn (fun v p1 σ7 ky h7 r7 => ?_) (fun fp σ7 ky h7 => ?_), fun q => absurd q (by decide)⟩) (fun i => ⟨fun _ => rf_pre hd.pos i.1 h60 hn (fun v p1 σ7 ky h7 r7 => ?_) (fun fp σ7 ky h7 => ?_), fun q => absurd q (by decide)⟩) (fun i => ⟨fun _ => rf_pre hd.pos i.1 h60 hn (fun v p1 σ7 ky h7 r7 => ?_) (fun fp σ7 ky h7 => ?_), fun q => absurd q (by decide)⟩) (fun i => ⟨fun _ => rf_pre hd.pos i.1 h60 hn (fun v p1 σ7 ky h7 r7 => ?_) (fun fp σ7 ky h7 => ?_), fun q => absurd q (by decide)⟩) (fun i => ⟨fun _ => rf_pre hd.pos i.1 h60 hn (fun v p1 σ7 ky h7 r7 => ?_) (fun fp σ7 ky h7 => ?_), fun q => absurd q (by decide)⟩) (fun n1 n2 n3 n4 n5 => ⟨fun q => absurd rfl q, fun _ => rf_fault hd.2.2.1 hd.2.1 (hNo p _ (Or.inl ⟨n1, n2, n3, n4, n5, rfl⟩) hd.flt.kf)⟩)
  · exact ⟨fun _ => ⟨fun _ => ⟨fun _ => good (s := (0, v, v, 0)) ⟨p1, ky, Or.inl ⟨i, rfl, rfl, rfl, rfl⟩⟩ h7 r7 rfl, fun q => absurd q (by decide)⟩, fun q => absurd q (by decide)⟩, fun q => absurd q (by decide)⟩
  · exact ⟨fun _ => ⟨fun _ => ⟨fun _ => bad (z (by simp) i ky) h7, fun q => absurd q (by decide)⟩, fun q => absurd q (by decide)⟩, fun q => absurd q (by decide)⟩
  · obtain ⟨kb1, kb2, kb3⟩ := ky.bd
    refine ⟨fun q => absurd rfl q, fun _ => rf_expect h7 kb3 h60 (by decide) (fun i1 => rf_goes h7.pos i1.1 h60 (by decide) (fun i2 => ⟨fun q => absurd q ne10, fun _ => ?_⟩) (fun i2 => ⟨fun _ => ?_, fun q => absurd rfl q⟩)) (fun i1 => ?_)⟩
    · unfold bv_X6_readStep_137
      refine d3 h7.pos.pos i2.1 (fun nd => Or.inr ⟨119, by simp, i, Or.inr ⟨v, p1, ky, Or.inr (Or.inl ⟨rfl, Or.inr (Or.inl ⟨i1, i2, nd, rfl⟩)⟩)⟩⟩) (fun m σ1 nm h1 e29 => ?_)
      refine good (s := (3, v, v, -nI (nv (σ0.2 24) (p1 + 2) m))) (p' := p1 + 2 + m) ⟨p1, ky, Or.inr (Or.inr (Or.inr (Or.inl ⟨i, rfl, rfl, i1, m, Or.inl ⟨i2, nm, rfl, rfl⟩⟩)))⟩ h1.a29 (r7.put e29) (mul_m1 _)
    · unfold bv_X6_readStep_137
      refine d3 h7.pos i1.1 (fun nd => Or.inr ⟨119, by simp, i, Or.inr ⟨v, p1, ky, Or.inr (Or.inl ⟨rfl, Or.inr (Or.inr ⟨i1, i2, nd, rfl⟩)⟩)⟩⟩) (fun m σ1 nm h1 e29 => ?_)
      exact good (s := (3, v, v, nI (nv (σ0.2 24) (p1 + 1) m))) (p' := p1 + 1 + m) ⟨p1, ky, Or.inr (Or.inr (Or.inr (Or.inl ⟨i, rfl, rfl, i1, m, Or.inr ⟨i2, nm, rfl, rfl⟩⟩)))⟩ h1.a29 (r7.put e29) (Int32.one_mul _)
    · have hs : StNo (σ0.2 24) y p p1 := Or.inr ⟨119, by simp, i, Or.inr ⟨v, p1, ky, Or.inr (Or.inl ⟨rfl, Or.inl ⟨i1, rfl⟩⟩)⟩⟩
      exact rfi_goes (h7.flt.ne (by omega)) ⟨fun _ => dead hs h7.flt kb3, fun q => absurd rfl q⟩
  · have hfp := ky.bd i.1
    refine ⟨fun q => absurd rfl q, fun _ => rfk_expect h7 hfp h60 (by decide) (by decide) (fun σ8 h8 => rfi_goes (h8.ne (by omega)) ⟨fun _ => dead (z (by simp) i ky) h8 hfp, fun q => absurd rfl q⟩)⟩
  · exact ⟨fun _ => ⟨fun _ => ⟨fun _ => good (s := (4, v, v, 0)) ⟨p1, ky, Or.inr (Or.inl ⟨i, rfl, rfl, rfl, rfl⟩)⟩ h7 r7 rfl, fun q => absurd q (by decide)⟩, fun q => absurd q (by decide)⟩, fun q => absurd q (by decide)⟩
  · exact ⟨fun _ => ⟨fun _ => ⟨fun _ => bad (z (by simp) i ky) h7, fun q => absurd q (by decide)⟩, fun q => absurd q (by decide)⟩, fun q => absurd q (by decide)⟩
  · obtain ⟨kb1, kb2, kb3⟩ := ky.bd
    refine ⟨fun _ => ⟨fun q => absurd rfl q, fun _ => rf_goes h7 kb3 h60 (by decide) (fun i1 => ⟨fun q => absurd q ne10, fun _ => ⟨fun _ => ?_, fun q => absurd (by decide) q⟩⟩) (fun i1 => ⟨fun _ => ⟨fun q => absurd q (by decide), fun _ => rf_expect h7 kb3 h60 (by decide) (fun i2 => ?_) (fun i2 => ?_)⟩, fun q => absurd rfl q⟩)⟩, fun q => absurd q (by decide)⟩
    · unfold bv_X6_readStep_189
      refine d3 h7.pos i1.1 (fun nd => Or.inr ⟨97, by simp, i, Or.inr ⟨v, p1, ky, Or.inr (Or.inr ⟨rfl, Or.inr (Or.inr ⟨i1, nd, rfl⟩)⟩)⟩⟩) (fun m σ1 nm h1 e29 => ?_)
      exact good (s := (5, v, v, nI (nv (σ0.2 24) (p1 + 1) m))) (p' := p1 + 1 + m) ⟨p1, ky, Or.inr (Or.inr (Or.inr (Or.inr ⟨i, rfl, rfl, m, nm, rfl, Or.inr ⟨i1, rfl⟩⟩)))⟩ h1.a29 (r7.put e29) (Int32.one_mul _)
    · unfold bv_X6_readStep_189
      refine d3 h7.pos i2.1 (fun nd => Or.inr ⟨97, by simp, i, Or.inr ⟨v, p1, ky, Or.inr (Or.inr ⟨rfl, Or.inr (Or.inl ⟨i2, nd, rfl⟩)⟩)⟩⟩) (fun m σ1 nm h1 e29 => ?_)
      exact good (s := (5, v, v, -nI (nv (σ0.2 24) (p1 + 1) m))) (p' := p1 + 1 + m) ⟨p1, ky, Or.inr (Or.inr (Or.inr (Or.inr ⟨i, rfl, rfl, m, nm, rfl, Or.inl ⟨i2, rfl⟩⟩)))⟩ h1.a29 (r7.put e29) (mul_m1 _)
    · have hs : StNo (σ0.2 24) y p p1 := Or.inr ⟨97, by simp, i, Or.inr ⟨v, p1, ky, Or.inr (Or.inr ⟨rfl, Or.inl ⟨i2, i1, rfl⟩⟩)⟩⟩
      exact dead hs h7.flt kb3
  · have hfp := ky.bd i.1
    refine ⟨fun _ => ⟨fun q => absurd rfl q, fun _ => rfk_goes h7 hfp h60 (by decide) (by decide) ⟨fun _ => ⟨fun q => absurd q (by decide), fun _ => rfk_expect h7 hfp h60 (by decide) (by decide) (fun σ8 h8 => dead (z (by simp) i ky) h8 hfp)⟩, fun q => absurd rfl q⟩⟩, fun q => absurd q (by decide)⟩
  · obtain ⟨kb1, kb2, kb3⟩ := ky.bd
    refine ⟨fun _ => ⟨fun _ => ⟨fun q => absurd rfl q, fun _ => rf_expect h7 kb3 h60 (by decide) (fun i1 => rf_readKey h7.pos i1.1 h60 (fun v2 p2 σ9 ky2 h9 e29 => ⟨vpv, fun σ11 e11 => ?_⟩) (fun v2 p2 σ9 ky2 h9 => ⟨vpv, fun σ11 e11 => ?_⟩)) (fun i1 => rfi_readKey (h7.flt.ne (by omega)) ⟨vpv, fun σ11 e11 => ?_⟩)⟩, fun q => absurd q (by decide)⟩, fun q => absurd q (by decide)⟩
    · rw [e11, ixv]
      exact good (s := (2, v, v2, -999)) (p' := p2) ⟨p1, ky, Or.inr (Or.inr (Or.inl ⟨i, rfl, i1, ky2, rfl⟩))⟩ h9.a29 (r7.put e29) rfl
    · rw [e11]
      exact bad (Or.inr ⟨115, by simp, i, Or.inr ⟨v, p1, ky, Or.inl ⟨rfl, Or.inr ⟨i1, ky2⟩⟩⟩⟩) h9.a29
    · rw [e11]
      exact bad (Or.inr ⟨115, by simp, i, Or.inr ⟨v, p1, ky, Or.inl ⟨rfl, Or.inl ⟨i1, rfl⟩⟩⟩⟩) h7.flt.a29.kf
  · have hfp := ky.bd i.1
    refine ⟨fun _ => ⟨fun _ => ⟨fun q => absurd rfl q, fun _ => rfk_expect h7 hfp h60 (by decide) (by decide) (fun σ8 h8 => rfi_readKey (h8.ne (by omega)) ⟨vpv, fun σ11 e11 => ?_⟩)⟩, fun q => absurd q (by decide)⟩, fun q => absurd q (by decide)⟩
    rw [e11]
    exact bad (z (by simp) i ky) h8.a29.kf
end RST
