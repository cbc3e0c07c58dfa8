/-! the plain readers -/
theorem vp80 {t M : Nat} (ht : t < M) (hM : M ≤ 80) : vp_in (nI t) 80 := vp_in_nI (by omega) (by omega)
theorem sp_clock : Sp_clock := by
  intro S l1 l2 l3 l4 loc ow σ M C N post h hp
  have h : Mid S l1 l2 l3 l4 loc ow σ σ M C N := h
  obtain ⟨a1, a2, a3⟩ := h.his
  unfold w_X5_clock
  rw [a1, a3]
  refine ⟨h.k1, a2, hp _ S σ ?_ ⟨loc, ow, M, C, N, h⟩⟩
  unfold v_X6_clock
  intro σ1 e
  rw [e]
  exact ⟨eqv.th σ 0, h.wf.2.2.1.symm⟩
theorem sp_transactionCount : Sp_transactionCount := by
  intro S l1 l2 l3 l4 loc ow σ M C N post h hp
  have h : Mid S l1 l2 l3 l4 loc ow σ σ M C N := h
  unfold w_X5_transactionCount
  refine ⟨h.k1, ?_⟩
  rw [h.many]
  refine hp _ S σ ?_ ⟨loc, ow, M, C, N, h⟩
  unfold v_X6_transactionCount
  intro σ1 e
  rw [e]
  exact ⟨eqv.th σ 0, h.wf.1.symm⟩
theorem sp_faultPosition : Sp_faultPosition := by
  intro S l1 l2 l3 l4 loc ow σ M C N post h hp
  have h : Mid S l1 l2 l3 l4 loc ow σ σ M C N := h
  have hs := h.st
  obtain ⟨-, -, -, -, -, -, k5, -, -, -, -, -, -, -, -, -, -, -, -, -, -, -, e3, -, -, -, -, -, -, -, -, -, -, -, -, -, -, e5⟩ := hs
  rw [h.1] at e3
  unfold w_X5_faultPosition
  rw [e3, e5]
  refine ⟨h.k1, k5, hp _ S σ ?_ ⟨loc, ow, M, C, N, h⟩⟩
  unfold v_X6_faultPosition
  intro σ1 e
  rw [e]
  exact ⟨eqv.th σ 0, rfl⟩
theorem sp_state : Sp_state := by
  intro S l1 l2 l3 l4 loc ow σ M C N x0 post h hp
  have h : Mid S l1 l2 l3 l4 loc ow σ σ M C N := h
  have hw := wf_eqv (eqv.th σ 0) h.wf
  unfold w_L_state w_X5_state
  refine ⟨h.k1, h.k1, cl_find h (fun t ht e => ?_) (fun hx => ⟨rfl, hp 1 S σ 0 ?_ ⟨loc, ow, M, C, N, h⟩ (fun q => absurd q ne10)⟩)⟩
  · obtain ⟨b1, b2, b3, b4, b5, b6, b7, b8, b9, b10, b11, b12, b13, b14, b15, b16, b17, b18⟩ := h.tx ht
    refine ⟨b1, wr_ret h (fun S6 h6 hs6 => hp 0 S6 σ _ ?_ ⟨loc, ow, M, C, N, h6⟩ (fun _ => hs6))⟩
    unfold v_X6_state bv_X6_state_27
    intro σ1 e1
    rw [e1, e]
    refine rf_isTx hw (fun t2 ht2 e2 => ⟨fun q => absurd q ne10, fun _ => ⟨vp80 ht h.M80, eqv.th σ 0, rfl, fun _ => ?_⟩⟩) (fun q => absurd rfl (neg_nI (by have := h.M80; omega) q ht))
    rw [ix_nI (by have := h.M80; omega), b15]; rfl
  · unfold v_X6_state bv_X6_state_27
    intro σ1 e1
    rw [e1]
    refine rf_isTx hw (fun t2 ht2 e2 => absurd e2 (neg_nI (by have := h.M80; omega) hx ht2)) (fun q => ⟨fun _ => rf_fail ⟨?_, rfl, fun q => absurd q ne10⟩, fun q => absurd rfl q⟩)
    rw [sF_sF]
    exact eqv.th σ 1
