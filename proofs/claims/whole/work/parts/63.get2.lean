theorem sp_attempt : Sp_attempt := by
  intro S l1 l2 l3 l4 loc ow σ M C N x0 post h hp
  have h : Mid S l1 l2 l3 l4 loc ow σ σ M C N := h
  have hw := wf_eqv (eqv.th σ 0) h.wf
  unfold w_L_attempt w_X5_attempt
  refine ⟨h.k1, h.k1, cl_find h (fun t ht e => ?_) (fun hx => ⟨rfl, hp 1 S σ 0 ?_ ⟨loc, ow, M, C, N, h⟩ (fun q => absurd q ne10)⟩)⟩
  · obtain ⟨b1, b2, b3, b4, b5, b6, b7, b8, b9, b10, b11, b12, b13, b14, b15, b16, b17, b18⟩ := h.tx ht
    refine ⟨b1, wr_ret h (fun S6 h6 hs6 => hp 0 S6 σ _ ?_ ⟨loc, ow, M, C, N, h6⟩ (fun _ => hs6))⟩
    unfold v_X6_attempt bv_X6_attempt_27
    intro σ1 e1
    rw [e1, e]
    refine rf_isTx hw (fun t2 ht2 e2 => ⟨fun q => absurd q ne10, fun _ => ⟨vp80 ht h.M80, eqv.th σ 0, rfl, fun _ => ?_⟩⟩) (fun q => absurd rfl (neg_nI (by have := h.M80; omega) q ht))
    rw [ix_nI (by have := h.M80; omega), b13]; rfl
  · unfold v_X6_attempt bv_X6_attempt_27
    intro σ1 e1
    rw [e1]
    refine rf_isTx hw (fun t2 ht2 e2 => absurd e2 (neg_nI (by have := h.M80; omega) hx ht2)) (fun q => ⟨fun _ => rf_fail ⟨?_, rfl, fun q => absurd q ne10⟩, fun q => absurd rfl q⟩)
    rw [sF_sF]
    exact eqv.th σ 1
theorem sp_operationCount : Sp_operationCount := by
  intro S l1 l2 l3 l4 loc ow σ M C N x0 post h hp
  have h : Mid S l1 l2 l3 l4 loc ow σ σ M C N := h
  have hw := wf_eqv (eqv.th σ 0) h.wf
  unfold w_L_operationCount w_X5_operationCount
  refine ⟨h.k1, h.k1, cl_find h (fun t ht e => ?_) (fun hx => ⟨rfl, hp 1 S σ 0 ?_ ⟨loc, ow, M, C, N, h⟩ (fun q => absurd q ne10)⟩)⟩
  · obtain ⟨b1, b2, b3, b4, b5, b6, b7, b8, b9, b10, b11, b12, b13, b14, b15, b16, b17, b18⟩ := h.tx ht
    refine ⟨b1, wr_ret h (fun S6 h6 hs6 => hp 0 S6 σ _ ?_ ⟨loc, ow, M, C, N, h6⟩ (fun _ => hs6))⟩
    unfold v_X6_operationCount bv_X6_operationCount_27
    intro σ1 e1
    rw [e1, e]
    refine rf_isTx hw (fun t2 ht2 e2 => ⟨fun q => absurd q ne10, fun _ => ⟨vp80 ht h.M80, eqv.th σ 0, rfl, fun _ => ?_⟩⟩) (fun q => absurd rfl (neg_nI (by have := h.M80; omega) q ht))
    rw [ix_nI (by have := h.M80; omega), b14]; rfl
  · unfold v_X6_operationCount bv_X6_operationCount_27
    intro σ1 e1
    rw [e1]
    refine rf_isTx hw (fun t2 ht2 e2 => absurd e2 (neg_nI (by have := h.M80; omega) hx ht2)) (fun q => ⟨fun _ => rf_fail ⟨?_, rfl, fun q => absurd q ne10⟩, fun q => absurd rfl q⟩)
    rw [sF_sF]
    exact eqv.th σ 1
theorem sp_reason : Sp_reason := by
  intro S l1 l2 l3 l4 loc ow σ M C N x0 post h hp
  have h : Mid S l1 l2 l3 l4 loc ow σ σ M C N := h
  have hw := wf_eqv (eqv.th σ 0) h.wf
  have hM := h.M80
  unfold w_L_reason w_X5_reason
  refine ⟨h.k1, h.k1, cl_find h (fun t ht e => ?_) (fun hx => Or.inl ⟨rfl, hp 1 S σ 0 ?_ ⟨loc, ow, M, C, N, h⟩ (fun q => absurd q ne10)⟩)⟩
  · obtain ⟨b1, b2, b3, b4, b5, b6, b7, b8, b9, b10, b11, b12, b13, b14, b15, b16, b17, b18⟩ := h.tx ht
    refine ⟨b1, ?_⟩
    rw [b15, b16]
    refine ⟨fun hs => wr_ret h (fun S6 h6 hs6 => hp 0 S6 σ _ ?_ ⟨loc, ow, M, C, N, h6⟩ (fun _ => hs6)), fun hs => Or.inr ⟨rfl, hp 2 S σ 0 ?_ ⟨loc, ow, M, C, N, h⟩ (fun q => absurd q (by decide))⟩⟩
    · unfold v_X6_reason bv_X6_reason_45
      intro σ1 e1
      rw [e1, e]
      refine rf_isTx hw (fun t2 ht2 e2 => ⟨fun _ => ⟨vp80 ht hM, ?_⟩, fun q => absurd q ne10⟩) (fun q => absurd rfl (neg_nI (by omega) q ht))
      rw [ix_nI (by omega)]
      exact ⟨fun _ => ⟨vp80 ht hM, eqv.th σ 0, rfl, fun _ => rfl⟩, fun q => absurd hs q⟩
    · unfold v_X6_reason bv_X6_reason_45
      intro σ1 e1
      rw [e1, e]
      refine rf_isTx hw (fun t2 ht2 e2 => ⟨fun _ => ⟨vp80 ht hM, ?_⟩, fun q => absurd q ne10⟩) (fun q => absurd rfl (neg_nI (by omega) q ht))
      rw [ix_nI (by omega)]
      refine ⟨fun q => absurd q hs, fun _ => rf_fail ⟨?_, rfl, fun q => absurd q (by decide)⟩⟩
      rw [sF_sF]
      exact eqv.th σ 2
  · unfold v_X6_reason bv_X6_reason_45
    intro σ1 e1
    rw [e1]
    refine rf_isTx hw (fun t2 ht2 e2 => absurd e2 (neg_nI (by omega) hx ht2)) (fun q => ⟨fun q => absurd rfl q, fun _ => rf_fail ⟨?_, rfl, fun q => absurd q ne10⟩⟩)
    rw [sF_sF]
    exact eqv.th σ 1
theorem sp_commitOf : Sp_commitOf := by
  intro S l1 l2 l3 l4 loc ow σ M C N x0 post h hp
  have h : Mid S l1 l2 l3 l4 loc ow σ σ M C N := h
  have hw := wf_eqv (eqv.th σ 0) h.wf
  have hM := h.M80
  unfold w_L_commitOf w_X5_commitOf
  refine ⟨h.k1, h.k1, cl_find h (fun t ht e => ?_) (fun hx => Or.inl ⟨rfl, hp 1 S σ 0 ?_ ⟨loc, ow, M, C, N, h⟩ (fun q => absurd q ne10)⟩)⟩
  · obtain ⟨b1, b2, b3, b4, b5, b6, b7, b8, b9, b10, b11, b12, b13, b14, b15, b16, b17, b18⟩ := h.tx ht
    refine ⟨b1, ?_⟩
    rw [b15, b17]
    refine ⟨fun hs => wr_ret h (fun S6 h6 hs6 => hp 0 S6 σ _ ?_ ⟨loc, ow, M, C, N, h6⟩ (fun _ => hs6)), fun hs => Or.inr ⟨rfl, hp 2 S σ 0 ?_ ⟨loc, ow, M, C, N, h⟩ (fun q => absurd q (by decide))⟩⟩
    · unfold v_X6_commitOf bv_X6_commitOf_45
      intro σ1 e1
      rw [e1, e]
      refine rf_isTx hw (fun t2 ht2 e2 => ⟨fun _ => ⟨vp80 ht hM, ?_⟩, fun q => absurd q ne10⟩) (fun q => absurd rfl (neg_nI (by omega) q ht))
      rw [ix_nI (by omega)]
      exact ⟨fun _ => ⟨vp80 ht hM, eqv.th σ 0, rfl, fun _ => rfl⟩, fun q => absurd hs q⟩
    · unfold v_X6_commitOf bv_X6_commitOf_45
      intro σ1 e1
      rw [e1, e]
      refine rf_isTx hw (fun t2 ht2 e2 => ⟨fun _ => ⟨vp80 ht hM, ?_⟩, fun q => absurd q ne10⟩) (fun q => absurd rfl (neg_nI (by omega) q ht))
      rw [ix_nI (by omega)]
      refine ⟨fun q => absurd q hs, fun _ => rf_fail ⟨?_, rfl, fun q => absurd q (by decide)⟩⟩
      rw [sF_sF]
      exact eqv.th σ 2
  · unfold v_X6_commitOf bv_X6_commitOf_45
    intro σ1 e1
    rw [e1]
    refine rf_isTx hw (fun t2 ht2 e2 => absurd e2 (neg_nI (by omega) hx ht2)) (fun q => ⟨fun q => absurd rfl q, fun _ => rf_fail ⟨?_, rfl, fun q => absurd q ne10⟩⟩)
    rw [sF_sF]
    exact eqv.th σ 1
theorem sp_ticketHolder : Sp_ticketHolder := by
  intro S l1 l2 l3 l4 loc ow σ M C N post h hp
  have h : Mid S l1 l2 l3 l4 loc ow σ σ M C N := h
  have hs := h.st
  obtain ⟨-, -, -, -, -, -, -, -, -, -, -, -, -, -, -, -, -, -, -, -, -, -, -, -, -, -, -, -, -, -, -, -, -, -, e6, -⟩ := hs
  rw [h.1] at e6
  unfold w_L_ticketHolder w_X5_ticketHolder
  rw [e6]
  refine ⟨h.k1, h.k1, fun hn => wr_ret h (fun S6 h6 hs6 => hp 0 S6 σ _ ?_ ⟨loc, ow, M, C, N, h6⟩ (fun _ => hs6)), fun hn => ⟨rfl, hp 1 S σ 0 ?_ ⟨loc, ow, M, C, N, h⟩ (fun q => absurd q ne10)⟩⟩
  · unfold v_X6_ticketHolder bv_X6_ticketHolder_25
    intro σ1 e1
    rw [e1]
    exact ⟨fun _ => ⟨eqv.th σ 0, rfl, fun _ => rfl⟩, fun q => absurd q hn⟩
  · unfold v_X6_ticketHolder bv_X6_ticketHolder_25
    intro σ1 e1
    rw [e1]
    refine ⟨fun q => absurd hn q, fun _ => rf_fail ⟨?_, rfl, fun q => absurd q ne10⟩⟩
    rw [sF_sF]
    exact eqv.th σ 1
/-! keys, commits, stores -/
theorem cl_isRange {S : MS} {a b : Int32} {post : Int32 → MS → Prop} (h1 : (0 ≤ a ∧ a ≤ b ∧ b ≤ 31) → post 1 S) (h0 : ¬ (0 ≤ a ∧ a ≤ b ∧ b ≤ 31) → post 0 S) : w_X5_isRange S a b post := by
  unfold w_X5_isRange b_X5_isRange_19 b_X5_isRange_20
  have e : ∀ x : Int32, 32 ≤ x ↔ ¬ x ≤ 31 := fun x => by
    rw [fa_le, fa_le]
    show (32 : Int) ≤ _ ↔ ¬ _ ≤ (31 : Int)
    omega
  refine ⟨fun h => ⟨zb0, h0 (fun q => (fa_of_lt h).2.1 q.1)⟩, fun h => ⟨fun g => ⟨zb0, h0 (fun q => (fa_of_lt g).2.1 q.2.1)⟩, fun g => ⟨fun z => ⟨zb0, h0 (fun q => (e b).mp z q.2.2)⟩, fun z => ⟨zb1, h1 ⟨fa_of_nlt h, fa_of_nlt g, Classical.byContradiction fun q => z ((e b).mpr q)⟩⟩⟩⟩⟩
theorem cl_isBetween {S : MS} {a b c : Int32} {post : Int32 → MS → Prop} (h1 : b ≤ a ∧ a ≤ c → post 1 S) (h0 : ¬ (b ≤ a ∧ a ≤ c) → post 0 S) : w_X5_isBetween S a b c post := by
  unfold w_X5_isBetween b_X5_isBetween_14 b_X5_isBetween_15
  refine ⟨fun h => ⟨zb0, h0 (fun q => (fa_of_lt h).2.1 q.1)⟩, fun h => ⟨fun g => ⟨zb0, h0 (fun q => (fa_of_lt g).2.1 q.2)⟩, fun g => ⟨zb1, h1 ⟨fa_of_nlt h, fa_of_nlt g⟩⟩⟩⟩
theorem key_nI {a : Int32} : ((0 : Int32) ≤ a ∧ a ≤ 31) ↔ ∃ k, k < 32 ∧ a = nI k := by
  have := in_nI (a := a) (M := 32) (by decide)
  exact this
theorem cl_requireKey {S : MS} {a : Int32} {post : MS → Prop} {xp : String → MS → Prop} (h1 : ∀ k, k < 32 → a = nI k → post S) (h0 : ¬ (0 ≤ a ∧ a ≤ 31) → xp "java/lang/IllegalArgumentException" S) : w_X5_requireKey S a post xp := by
  unfold w_X5_requireKey
  refine cl_isRange (fun h => ⟨fun _ => ?_, fun q => absurd q ne10⟩) (fun h => ⟨fun q => absurd rfl q, fun _ => h0 (fun q => h ⟨q.1, Int32.le_refl a, q.2⟩)⟩)
  obtain ⟨k, hk, e⟩ := key_nI.mp ⟨h.1, h.2.2⟩
  exact h1 k hk e
theorem com_nI {a : Int32} {C : Nat} {z : Nat} (hC : C ≤ 60) (hz : z ≤ 1) : (nI z ≤ a ∧ a ≤ nI C) ↔ ∃ c, z ≤ c ∧ c ≤ C ∧ a = nI c := by
  constructor
  · intro h
    rcases pk_ix a (n := C + 1) (by omega) with q | q | ⟨c, hc, e⟩
    · exfalso
      rw [fa_lt] at q
      have h1 := h.1
      rw [fa_le, nI_toInt (by omega)] at h1
      have q : a.toInt < 0 := q
      omega
    · exfalso
      rw [fa_le, nI_toInt (by omega)] at q
      have h2 := h.2
      rw [fa_le, nI_toInt (by omega)] at h2
      omega
    · subst e
      have h1 := (nI_leI (by omega) (by omega)).mp h.1
      exact ⟨c, h1, by omega, rfl⟩
  · rintro ⟨c, h1, h2, rfl⟩
    exact ⟨nI_le h1 (by omega), nI_le h2 (by omega)⟩
theorem cl_requireCommit {S : MS} {l1 l2 l3 l4 : Nat} {loc ow : Nat → Nat} {σ σ1 : Sg} {M C N : Nat} (h : Mid S l1 l2 l3 l4 loc ow σ σ1 M C N) {a : Int32} {z : Nat} (hz : z ≤ 1) {post : MS → Prop} {xp : String → MS → Prop} (h1 : ∀ c, z ≤ c → c ≤ C → a = nI c → post S) (h0 : ¬ (nI z ≤ a ∧ a ≤ nI C) → xp "java/lang/IndexOutOfBoundsException" S) : w_X5_requireCommit S l1 a (nI z) post xp := by
  obtain ⟨a1, a2, a3⟩ := h.his
  unfold w_X5_requireCommit
  rw [a1, a3]
  refine ⟨h.k1, a2, cl_isBetween (fun q => ⟨fun _ => ?_, fun q => absurd q ne10⟩) (fun q => ⟨fun q => absurd rfl q, fun _ => h0 q⟩)⟩
  obtain ⟨c, c1, c2, e⟩ := (com_nI h.C60 hz).mp q
  exact h1 c c1 c2 e
theorem Mid.hst {S : MS} {l1 l2 l3 l4 : Nat} {loc ow : Nat → Nat} {σ σ1 : Sg} {M C N : Nat} (h : Mid S l1 l2 l3 l4 loc ow σ σ1 M C N) : sR S (loc 2) 0 = loc 8 ∧ kT S (loc 8) = 14 ∧ kL S (loc 8) = 61 ∧ sR S (loc 2) 1 = loc 9 ∧ kT S (loc 9) = 13 ∧ kL S (loc 9) = 61 := by
  obtain ⟨-, -, -, -, -, -, -, -, -, -, -, a1, a2, a3, a4, -, -, -, -, -, -, -, -, -, -, b1, b2, -⟩ := h.st
  exact ⟨b1, a1, a2, b2, a3, a4⟩
theorem cl_storeAfter {S : MS} {l1 l2 l3 l4 : Nat} {loc ow : Nat → Nat} {σ σ1 : Sg} {M C N : Nat} (h : Mid S l1 l2 l3 l4 loc ow σ σ1 M C N) {c : Nat} (hc : c ≤ 60) {post : Nat → MS → Prop} (hp : post (loc (100 + c)) S) : w_X1_storeAfter S (loc 2) (nI c) post := by
  obtain ⟨a1, a2, a3, a4, a5, a6⟩ := h.hst
  unfold w_X1_storeAfter
  rw [a1, a3]
  refine ⟨h.his.2.1, a2, vp_in_nI (by omega) (by omega), ?_⟩
  rw [ix_nI (by omega), (h.rc.2.1 c hc).2.2]
  exact hp
theorem cl_newest {S : MS} {l1 l2 l3 l4 : Nat} {loc ow : Nat → Nat} {σ σ1 : Sg} {M C N : Nat} (h : Mid S l1 l2 l3 l4 loc ow σ σ1 M C N) {post : Nat → MS → Prop} (hp : post (loc (100 + C)) S) : w_X1_newest S (loc 2) post := by
  obtain ⟨a1, a2, a3, a4, a5, a6⟩ := h.hst
  have hC := h.C60
  unfold w_X1_newest
  rw [a1, a3, h.his.2.2]
  refine ⟨h.his.2.1, a2, vp_in_nI (by omega) (by omega), ?_⟩
  rw [ix_nI (by omega), (h.rc.2.1 C hC).2.2]
  exact hp
theorem mul32 (c k : Nat) : (32 : Int32) * nI c + nI k = nI (32 * c + k) := by
  rw [show (32 : Int32) = nI 32 from rfl, pk_mul, nI_add]
theorem rf_stored {σ : Sg} {c k : Nat} (hc : c ≤ 60) (hk : k < 32) {P : Int32 → Sg → Prop} (h : P (σ.2 15 (32 * c + k)) σ) : v_X6_stored σ (nI c) (nI k) P := by
  unfold v_X6_stored
  rw [mul32, ix_nI (by omega)]
  exact ⟨vp_in_nI (by omega) (by omega), h⟩
theorem rf_isKey {σ : Sg} {a : Int32} {P : Int32 → Sg → Prop} (h1 : ∀ k, k < 32 → a = nI k → P 1 σ) (h0 : ¬ (0 ≤ a ∧ a ≤ 31) → P 0 σ) : v_X6_isKey σ a P := by
  unfold v_X6_isKey
  refine rf_isIn (fun h => ⟨zb1, ?_⟩) (fun h => ⟨zb0, h0 h⟩)
  obtain ⟨k, hk, e⟩ := key_nI.mp h
  exact h1 k hk e
theorem sp_value : Sp_value := by
  intro S l1 l2 l3 l4 loc ow σ M C N x0 post h hp
  have h : Mid S l1 l2 l3 l4 loc ow σ σ M C N := h
  have hC := h.C60
  obtain ⟨a1, a2, a3⟩ := h.his
  unfold w_L_value w_X5_value
  refine ⟨h.k1, cl_requireKey (fun k hk e => ⟨h.k1, ?_⟩) (fun hx => ⟨rfl, hp 1 S σ 0 ?_ ⟨loc, ow, M, C, N, h⟩ (fun q => absurd q ne10)⟩)⟩
  · rw [a1]
    refine ⟨a2, cl_newest h ?_⟩
    have hr := h.rc.2.1 C hC
    rw [hr.2.1, e, ix_nI (by omega), h.rc.2.2.2.2.2.1 C (Nat.le_refl C) k hk]
    refine ⟨hr.1, vp_in_nI hk (by omega), wr_ret h (fun S6 h6 hs6 => hp 0 S6 σ _ ?_ ⟨loc, ow, M, C, N, h6⟩ (fun _ => hs6))⟩
    unfold v_X6_value bv_X6_value_29
    intro σ1 e1
    rw [e1, e]
    refine rf_isKey (fun k2 hk2 e2 => ⟨fun q => absurd q ne10, fun _ => ?_⟩) (fun q => absurd (key_nI.mpr ⟨k, hk, rfl⟩) q)
    rw [show (sF σ 0 0).1 14 = nI C from h.wf.2.2.1]
    exact rf_stored hC hk ⟨eqv.th σ 0, rfl, fun _ => rfl⟩
  · unfold v_X6_value bv_X6_value_29
    intro σ1 e1
    rw [e1]
    refine rf_isKey (fun k2 hk2 e2 => absurd (key_nI.mpr ⟨k2, hk2, e2⟩) hx) (fun q => ⟨fun _ => rf_fail ⟨?_, rfl, fun q => absurd q ne10⟩, fun q => absurd rfl q⟩)
    rw [sF_sF]
    exact eqv.th σ 1
theorem sp_valueAt : Sp_valueAt := by
  intro S l1 l2 l3 l4 loc ow σ M C N x0 x1 post h hp
  have h : Mid S l1 l2 l3 l4 loc ow σ σ M C N := h
  have hC := h.C60
  have eC : (sF σ 0 0).1 14 = nI C := h.wf.2.2.1
  obtain ⟨a1, a2, a3⟩ := h.his
  unfold w_L_valueAt w_X5_valueAt
  refine ⟨h.k1, cl_requireKey (fun k hk e => ⟨h.k1, cl_requireCommit h (z := 0) (by omega) (fun c c1 c2 ec => ⟨h.k1, ?_⟩) (fun hx => Or.inr ⟨rfl, hp 2 S σ 0 ?_ ⟨loc, ow, M, C, N, h⟩ (fun q => absurd q (by decide))⟩)⟩) (fun hx => Or.inl ⟨rfl, hp 1 S σ 0 ?_ ⟨loc, ow, M, C, N, h⟩ (fun q => absurd q ne10)⟩)⟩
  · rw [a1, ec]
    refine ⟨a2, cl_storeAfter h (by omega) ?_⟩
    have hr := h.rc.2.1 c (by omega)
    rw [hr.2.1, e, ix_nI (by omega), h.rc.2.2.2.2.2.1 c c2 k hk]
    refine ⟨hr.1, vp_in_nI hk (by omega), wr_ret h (fun S6 h6 hs6 => hp 0 S6 σ _ ?_ ⟨loc, ow, M, C, N, h6⟩ (fun _ => hs6))⟩
    unfold v_X6_valueAt bv_X6_valueAt_46
    intro σ1 e1
    rw [e1, e, ec]
    refine rf_isKey (fun k2 hk2 e2 => ⟨fun _ => ?_, fun q => absurd q ne10⟩) (fun q => absurd (key_nI.mpr ⟨k, hk, rfl⟩) q)
    rw [eC]
    exact rf_isIn (fun _ => ⟨fun _ => rf_stored (by omega) hk ⟨eqv.th σ 0, rfl, fun _ => rfl⟩, fun q => absurd q ne10⟩) (fun q => absurd ((com_nI hC (z := 0) (by omega)).mpr ⟨c, c1, c2, rfl⟩) q)
  · unfold v_X6_valueAt bv_X6_valueAt_46
    intro σ1 e1
    rw [e1, e]
    refine rf_isKey (fun k2 hk2 e2 => ⟨fun _ => ?_, fun q => absurd q ne10⟩) (fun q => absurd (key_nI.mpr ⟨k, hk, rfl⟩) q)
    rw [eC]
    refine rf_isIn (fun q => absurd q hx) (fun _ => ⟨fun q => absurd rfl q, fun _ => rf_fail ⟨?_, rfl, fun q => absurd q (by decide)⟩⟩)
    rw [sF_sF]
    exact eqv.th σ 2
  · unfold v_X6_valueAt bv_X6_valueAt_46
    intro σ1 e1
    rw [e1]
    refine rf_isKey (fun k2 hk2 e2 => absurd (key_nI.mpr ⟨k2, hk2, e2⟩) hx) (fun q => ⟨fun q => absurd rfl q, fun _ => rf_fail ⟨?_, rfl, fun q => absurd q ne10⟩⟩)
    rw [sF_sF]
    exact eqv.th σ 1
theorem sp_transactionOf : Sp_transactionOf := by
  intro S l1 l2 l3 l4 loc ow σ M C N x0 post h hp
  have h : Mid S l1 l2 l3 l4 loc ow σ σ M C N := h
  have hC := h.C60
  have eC : (sF σ 0 0).1 14 = nI C := h.wf.2.2.1
  obtain ⟨a1, a2, a3⟩ := h.his
  obtain ⟨d1, d2, d3, d4, d5, d6⟩ := h.hst
  unfold w_L_transactionOf w_X5_transactionOf
  refine ⟨h.k1, h.k1, cl_requireCommit h (z := 1) (by omega) (fun c c1 c2 ec => ⟨h.k1, ?_⟩) (fun hx => ⟨rfl, hp 1 S σ 0 ?_ ⟨loc, ow, M, C, N, h⟩ (fun q => absurd q ne10)⟩)⟩
  · obtain ⟨t, ht, et, -⟩ := h.wf.2.2.2.2.2.2.2.2.2.1 c c1 c2
    obtain ⟨b1, b2, b3, b4, b5, b6, b7, b8, b9, b10, b11, b12, -⟩ := h.tx ht
    unfold w_X1_authorOf b_X5_transactionOf_27
    rw [a1, ec, d4, d6, ix_nI (by omega), h.rc.2.2.2.2.2.2.1 c c1 c2 t ht et]
    refine ⟨a2, a2, d5, vp_in_nI (by omega) (by omega), fun _ => ⟨b1, wr_ret h (fun S6 h6 hs6 => hp 0 S6 σ _ ?_ ⟨loc, ow, M, C, N, h6⟩ (fun _ => hs6))⟩, fun q => absurd q (h.nz (us_t ht).1)⟩
    unfold v_X6_transactionOf bv_X6_transactionOf_27 v_X6_isCommit
    intro σ1 e1
    rw [e1, ec, eC]
    refine rf_isIn (fun _ => ⟨zb1, fun q => absurd q ne10, fun _ => ⟨vp_in_nI (by omega) (by omega), eqv.th σ 0, rfl, fun _ => ?_⟩⟩) (fun q => absurd ((com_nI hC (z := 1) (by omega)).mpr ⟨c, c1, c2, rfl⟩) q)
    rw [ix_nI (by omega)]
    exact et.trans b12.symm
  · unfold v_X6_transactionOf bv_X6_transactionOf_27 v_X6_isCommit
    intro σ1 e1
    rw [e1, eC]
    refine rf_isIn (fun q => absurd q hx) (fun _ => ⟨zb0, fun _ => rf_fail ⟨?_, rfl, fun q => absurd q ne10⟩, fun q => absurd rfl q⟩)
    rw [sF_sF]
    exact eqv.th σ 1
