/-! counting over the transactions -/
def isum (f : Nat → Int32) : Nat → Int32
  | 0 => 0
  | n + 1 => isum f n + f n
theorem isum_congr {f g : Nat → Int32} : ∀ {n : Nat}, (∀ i, i < n → f i = g i) → isum f n = isum g n
  | 0, _ => rfl
  | n + 1, h => by rw [isum, isum, isum_congr (fun i hi => h i (by omega)), h n (by omega)]
def nS (σ : Sg) (a : Int32) (M : Nat) : Int32 := isum (fun t => if σ.2 2 t = a then 1 else 0) M
theorem i32_add0 (x : Int32) : x + 0 = x := Int32.add_zero x
section CNT
variable {S : MS} {l1 l2 l3 l4 : Nat} {loc ow : Nat → Nat} {σ σ1 : Sg} {M C N : Nat}
theorem cl_cs_loop (h : Mid S l1 l2 l3 l4 loc ow σ σ1 M C N) {a : Int32} {post : Int32 → MS → Prop} (hp : post (nS σ1 a M) S) : ∀ n i, i + n = M → b_X5_countInState_4 post (n + 1) S l1 a (nS σ1 a i) (nI i) := by
  have hM := h.M80
  obtain ⟨t1, t2, t3⟩ := h.trs
  intro n
  induction n with
  | zero =>
    intro i hi
    simp only [b_X5_countInState_4]
    refine ⟨h.k1, ?_⟩
    rw [h.many]
    have e : i = M := by omega
    rw [e]
    exact ⟨fun _ => hp, fun q => absurd (Int32.le_refl _) q⟩
  | succ n ih =>
    intro i hi
    rw [b_X5_countInState_4]
    simp only [b_X5_countInState_37]
    refine ⟨h.k1, ?_⟩
    have ht : i < M := by omega
    obtain ⟨b1, b2, b3, b4, b5, b6, b7, b8, b9, b10, b11, b12, b13, b14, b15, b16, b17, b18⟩ := h.tx ht
    rw [h.many, t1, t3, ix_nI (by omega), b2]
    refine ⟨fun q => absurd q (nI_ge ht (by omega)), fun _ => ⟨t2, vp_in_nI (by omega) (by omega), fun r4 hr4 => ?_⟩⟩
    rw [hr4, b15]
    refine ⟨fun q => absurd q (h.nz (us_t ht).1), fun _ => ⟨b1, fun hne v hv => ?_, fun he v6 hv6 v hv => ?_⟩⟩
    · have := ih (i + 1) (by omega)
      rw [hv, nI_1]
      have e : nS σ1 a (i + 1) = nS σ1 a i := by
        show nS σ1 a i + (if σ1.2 2 i = a then 1 else 0) = _
        rw [if_neg hne, i32_add0]
      rw [e] at this
      exact this
    · have := ih (i + 1) (by omega)
      rw [hv, nI_1, hv6]
      have e : nS σ1 a (i + 1) = nS σ1 a i + 1 := by
        show nS σ1 a i + (if σ1.2 2 i = a then 1 else 0) = _
        rw [if_pos he]
      rw [e] at this
      exact this
theorem cl_countInState (h : Mid S l1 l2 l3 l4 loc ow σ σ1 M C N) {a : Int32} {post : Int32 → MS → Prop} (hp : post (nS σ1 a M) S) : w_X5_countInState S l1 a post := ⟨M + 1, cl_cs_loop h hp M 0 (by omega)⟩
/-- countOf: any reason, or the one -/
def nR (σ : Sg) (a r : Int32) (M : Nat) : Int32 := isum (fun t => if σ.2 2 t = a ∧ (r = 0 ∨ σ.2 4 t = r) then 1 else 0) M
theorem nR_0 (σ : Sg) (a : Int32) (M : Nat) : nR σ a 0 M = nS σ a M := isum_congr (fun i _ => by simp)
theorem cl_ab_loop (h : Mid S l1 l2 l3 l4 loc ow σ σ1 M C N) {a : Int32} (ha : ¬ a = 0) {post : Int32 → MS → Prop} {xp : String → MS → Prop} (hp : post (nR σ1 2 a M) S) : ∀ n i, i + n = M → b_X5_aborts_24 post xp (n + 1) S l1 a (nR σ1 2 a i) (nI i) := by
  have hM := h.M80
  obtain ⟨t1, t2, t3⟩ := h.trs
  intro n
  induction n with
  | zero =>
    intro i hi
    simp only [b_X5_aborts_24]
    refine ⟨h.k1, ?_⟩
    rw [h.many]
    have e : i = M := by omega
    rw [e]
    exact ⟨fun _ => hp, fun q => absurd (Int32.le_refl _) q⟩
  | succ n ih =>
    intro i hi
    rw [b_X5_aborts_24]
    simp only [b_X5_aborts_66]
    refine ⟨h.k1, ?_⟩
    have ht : i < M := by omega
    obtain ⟨b1, b2, b3, b4, b5, b6, b7, b8, b9, b10, b11, b12, b13, b14, b15, b16, b17, b18⟩ := h.tx ht
    rw [h.many, t1, t3, ix_nI (by omega), b2]
    have stay : ¬ (σ1.2 2 i = 2 ∧ (a = 0 ∨ σ1.2 4 i = a)) → ∀ v : Int32, v = nI i + 1 → b_X5_aborts_24 post xp (n + 1) S l1 a (nR σ1 2 a i) v := fun hne v hv => by
      have := ih (i + 1) (by omega)
      rw [hv, nI_1]
      have e : nR σ1 2 a (i + 1) = nR σ1 2 a i := by
        show nR σ1 2 a i + (if σ1.2 2 i = 2 ∧ (a = 0 ∨ σ1.2 4 i = a) then 1 else 0) = _
        rw [if_neg hne, i32_add0]
      rw [e] at this
      exact this
    refine ⟨fun q => absurd q (nI_ge ht (by omega)), fun _ => ⟨t2, vp_in_nI (by omega) (by omega), fun r4 hr4 => ?_⟩⟩
    rw [hr4, b15, b16]
    refine ⟨fun q => absurd q (h.nz (us_t ht).1), fun _ => ⟨b1, fun hne => stay (fun q => hne q.1), fun he => ⟨fun hne => stay (fun q => q.2.elim ha hne), fun he2 v6 hv6 v hv => ?_⟩⟩⟩
    have := ih (i + 1) (by omega)
    rw [hv, nI_1, hv6]
    have e : nR σ1 2 a (i + 1) = nR σ1 2 a i + 1 := by
      show nR σ1 2 a i + (if σ1.2 2 i = 2 ∧ (a = 0 ∨ σ1.2 4 i = a) then 1 else 0) = _
      rw [if_pos ⟨he, Or.inr he2⟩]
    rw [e] at this
    exact this
end CNT
theorem rf_an_loop {σ : Sg} {M C N : Nat} (hw : WF σ M C N) {P : Int32 → Sg → Prop} (hp : P (nS σ 0 M) σ) : ∀ n i, i + n = M → bv_X6_activeNow_4 P (n + 1) σ (nS σ 0 i) (nI i) := by
  have hM := hw.2.1
  intro n
  induction n with
  | zero =>
    intro i hi
    simp only [bv_X6_activeNow_4]
    rw [hw.1]
    have e : i = M := by omega
    rw [e]
    exact ⟨fun _ => hp, fun q => absurd (Int32.le_refl _) q⟩
  | succ n ih =>
    intro i hi
    rw [bv_X6_activeNow_4]
    simp only [bv_X6_activeNow_27]
    have ht : i < M := by omega
    rw [hw.1, ix_nI (by omega)]
    refine ⟨fun q => absurd q (nI_ge ht (by omega)), fun _ => ⟨vp80 ht hM, fun hne v hv v2 hv2 => ?_, fun he v hv v2 hv2 => ?_⟩⟩
    · have := ih (i + 1) (by omega)
      rw [hv2, nI_1, hv]
      have e : nS σ 0 (i + 1) = nS σ 0 i + 0 := by
        show nS σ 0 i + (if σ.2 2 i = 0 then 1 else 0) = _
        rw [if_neg hne]
      rw [e] at this
      exact this
    · have := ih (i + 1) (by omega)
      rw [hv2, nI_1, hv]
      have e : nS σ 0 (i + 1) = nS σ 0 i + 1 := by
        show nS σ 0 i + (if σ.2 2 i = 0 then 1 else 0) = _
        rw [if_pos he]
      rw [e] at this
      exact this
theorem rf_activeNow {σ : Sg} {M C N : Nat} (hw : WF σ M C N) {P : Int32 → Sg → Prop} (hp : P (nS σ 0 M) σ) : v_X6_activeNow σ P := ⟨M + 1, rf_an_loop hw hp M 0 (by omega)⟩
theorem rf_co_loop {σ : Sg} {M C N : Nat} (hw : WF σ M C N) {a r : Int32} {P : Int32 → Sg → Prop} (hp : P (nR σ a r M) σ) : ∀ n i, i + n = M → bv_X6_countOf_5 P (n + 1) σ a r (nR σ a r i) (nI i) := by
  have hM := hw.2.1
  intro n
  induction n with
  | zero =>
    intro i hi
    simp only [bv_X6_countOf_5]
    rw [hw.1]
    have e : i = M := by omega
    rw [e]
    exact ⟨fun _ => hp, fun q => absurd (Int32.le_refl _) q⟩
  | succ n ih =>
    intro i hi
    rw [bv_X6_countOf_5]
    simp only [bv_X6_countOf_45, bv_X6_countOf_41, bv_X6_countOf_46]
    have ht : i < M := by omega
    rw [hw.1, ix_nI (by omega)]
    have no : ¬ (σ.2 2 i = a ∧ (r = 0 ∨ σ.2 4 i = r)) → ∀ v1 : Int32, v1 = nR σ a r i + 0 → ∀ v2 : Int32, v2 = nI i + 1 → bv_X6_countOf_5 P (n + 1) σ a r v1 v2 := fun hne v hv v2 hv2 => by
      have := ih (i + 1) (by omega)
      rw [hv2, nI_1, hv]
      have e : nR σ a r (i + 1) = nR σ a r i + 0 := by
        show nR σ a r i + (if σ.2 2 i = a ∧ (r = 0 ∨ σ.2 4 i = r) then 1 else 0) = _
        rw [if_neg hne]
      rw [e] at this
      exact this
    have yes : (σ.2 2 i = a ∧ (r = 0 ∨ σ.2 4 i = r)) → ∀ v1 : Int32, v1 = nR σ a r i + 1 → ∀ v2 : Int32, v2 = nI i + 1 → bv_X6_countOf_5 P (n + 1) σ a r v1 v2 := fun hne v hv v2 hv2 => by
      have := ih (i + 1) (by omega)
      rw [hv2, nI_1, hv]
      have e : nR σ a r (i + 1) = nR σ a r i + 1 := by
        show nR σ a r i + (if σ.2 2 i = a ∧ (r = 0 ∨ σ.2 4 i = r) then 1 else 0) = _
        rw [if_pos hne]
      rw [e] at this
      exact this
    refine ⟨fun q => absurd q (nI_ge ht (by omega)), fun _ => ⟨vp80 ht hM, fun hne => no (fun q => hne q.1), fun he => ⟨fun h0 => yes ⟨he, Or.inl h0⟩, fun h0 => ⟨vp80 ht hM, fun hne => no (fun q => q.2.elim h0 hne), fun he2 => yes ⟨he, Or.inr he2⟩⟩⟩⟩⟩
theorem rf_countOf {σ : Sg} {M C N : Nat} (hw : WF σ M C N) {a r : Int32} {P : Int32 → Sg → Prop} (hp : P (nR σ a r M) σ) : v_X6_countOf σ a r P := ⟨M + 1, rf_co_loop hw hp M 0 (by omega)⟩
theorem sp_activeCount : Sp_activeCount := by
  intro S l1 l2 l3 l4 loc ow σ M C N post h hp
  have h : Mid S l1 l2 l3 l4 loc ow σ σ M C N := h
  unfold w_X5_activeCount
  refine ⟨h.k1, cl_countInState h (hp _ S σ ?_ ⟨loc, ow, M, C, N, h⟩)⟩
  unfold v_X6_activeCount
  intro σ1 e
  rw [e]
  exact rf_activeNow (wf_eqv (eqv.th σ 0) h.wf) ⟨eqv.th σ 0, rfl⟩
theorem sp_aborts : Sp_aborts := by
  intro S l1 l2 l3 l4 loc ow σ M C N x0 post h hp
  have h : Mid S l1 l2 l3 l4 loc ow σ σ M C N := h
  have hw := wf_eqv (eqv.th σ 0) h.wf
  unfold w_L_aborts w_X5_aborts
  refine ⟨h.k1, cl_isBetween (fun hb => ⟨fun _ => ?_, fun q => absurd q ne10⟩) (fun hb => ⟨fun q => absurd rfl q, fun _ => ⟨rfl, hp 1 S σ 0 ?_ ⟨loc, ow, M, C, N, h⟩ (fun q => absurd q ne10)⟩⟩)⟩
  · have h0 : ¬ x0 = 0 := fun e => by rw [e] at hb; exact absurd hb.1 (by decide)
    refine ⟨M + 1, cl_ab_loop h h0 ?_ M 0 (by omega)⟩
    refine wr_ret h (fun S6 h6 hs6 => hp 0 S6 σ _ ?_ ⟨loc, ow, M, C, N, h6⟩ (fun _ => hs6))
    unfold v_X6_aborts bv_X6_aborts_29
    intro σ1 e1
    rw [e1]
    exact rf_isIn (fun _ => ⟨fun q => absurd q ne10, fun _ => rf_countOf hw ⟨eqv.th σ 0, rfl, fun _ => rfl⟩⟩) (fun q => absurd hb q)
  · unfold v_X6_aborts bv_X6_aborts_29
    intro σ1 e1
    rw [e1]
    refine rf_isIn (fun q => absurd q hb) (fun _ => ⟨fun _ => rf_fail ⟨?_, rfl, fun q => absurd q ne10⟩, fun q => absurd rfl q⟩)
    rw [sF_sF]
    exact eqv.th σ 1
