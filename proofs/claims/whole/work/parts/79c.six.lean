theorem rf_gd {σ : Sg} {lo hi num : Int32} {PR : Sg → Int32 → Prop} (h : PR σ (bI (gd lo hi num))) : v_X6_isRange σ lo hi (fun r1 σ1 => ((r1 = 0 → PR σ1 0) ∧ (¬ r1 = 0 → v_X6_isIn σ1 num ((-999)) 999 (fun r2 σ2 => ((r2 = 0 → PR σ2 0) ∧ (¬ r2 = 0 → PR σ2 1)))))) := by
  have z : ¬ gd lo hi num → PR σ 0 := fun q => bI_0 q ▸ h
  have o : gd lo hi num → PR σ 1 := fun q => bI_1 q ▸ h
  exact rf_isRange (fun g1 => ⟨fun r => absurd r ne10, fun _ => rf_isIn (fun g2 => ⟨fun r => absurd r ne10, fun _ => o ⟨g1, g2⟩⟩) (fun g2 => ⟨fun _ => z (fun r => g2 r.2), fun r => absurd rfl r⟩)⟩) (fun g1 => ⟨fun _ => z (fun r => g1 r.1), fun r => absurd rfl r⟩)
theorem rf_gk {σ : Sg} {k num : Int32} {PR : Sg → Int32 → Prop} (h : PR σ (bI (gd k k num))) : v_X6_isKey σ k (fun r1 σ1 => ((r1 = 0 → PR σ1 0) ∧ (¬ r1 = 0 → v_X6_isIn σ1 num ((-999)) 999 (fun r2 σ2 => ((r2 = 0 → PR σ2 0) ∧ (¬ r2 = 0 → PR σ2 1)))))) := by
  have z : ¬ gd k k num → PR σ 0 := fun q => bI_0 q ▸ h
  have o : gd k k num → PR σ 1 := fun q => bI_1 q ▸ h
  exact rf_isKey (fun a ha e => ⟨fun r => absurd r ne10, fun _ => rf_isIn (fun g2 => ⟨fun r => absurd r ne10, fun _ => o ⟨⟨(key_nI.mpr ⟨a, ha, e⟩).1, Int32.le_refl k, (key_nI.mpr ⟨a, ha, e⟩).2⟩, g2⟩⟩) (fun g2 => ⟨fun _ => z (fun r => g2 r.2), fun r => absurd rfl r⟩)⟩) (fun g1 => ⟨fun _ => z (fun r => g1 ⟨r.1.1, r.1.2.2⟩), fun r => absurd rfl r⟩)
theorem gd_rng {a b : Int32} : gd a b (-999) ↔ (0 ≤ a ∧ a ≤ b ∧ b ≤ 31) := ⟨fun h => h.1, fun h => ⟨h, by decide, by decide⟩⟩
theorem sp_scan : Sp_scan := by
  intro S l1 l2 l3 l4 loc ow σ M C N x0 x1 x2 x3 post h hp
  have h : Mid S l1 l2 l3 l4 loc ow σ σ M C N := h
  have hw := h.wf
  have hM := h.M80
  have tI : ∀ {t u : Nat}, t < M → u < M → nI t = nI u → t = u := fun ht hu e => (nI_eq (by omega) (by omega)).mp e
  have hw0 := wf_eqv (eqv.th σ 0) hw
  unfold w_L_scan w_X5_scan
  refine ⟨h.k1, fun q kq zq S2 e2 => ?_⟩
  rw [e2]
  refine cl_opInit h kq zq (fun S4 h4 o4 _ => ⟨h4.k1, cl_operate (kd := 1) h4 (by omega) o4 (fun hx => Or.inl ⟨rfl, hp 1 S4 σ 0 ?_ ⟨loc, ow, M, C, N, h4⟩ (fun q => absurd q ne10)⟩) (fun t ht e hg => Or.inr (Or.inl ⟨rfl, hp 2 S4 σ 0 ?_ ⟨loc, ow, M, C, N, h4⟩ (fun q => absurd q ne20)⟩)) (fun t ht e hg hs => Or.inr (Or.inr ⟨rfl, hp 3 S4 σ 0 ?_ ⟨loc, ow, M, C, N, h4⟩ (fun q => absurd q p3)⟩)) (fun t ht e hg hs lo' _ _ hn => absurd (fun q => absurd q (by decide)) hn) (fun t z lo' hi' ht e hg hst hz h24 elo hlo ehi hhi hao S' h' => wr_ret h' (fun S6 h6 hs6 => hp 0 S6 _ _ ?_ ⟨_, _, M, C, N, h6⟩ (fun _ => hs6)))⟩)
  · unfold v_X6_scan bv_X6_scan_29
    refine rf_gd (PR := fun σ g => bv_X6_scan_30 _ σ x0 x1 x2 x3 g x0) <| show bv_X6_scan_30 _ σ x0 x1 x2 x3 _ x0 from (rf_prob hw rfl (fun _ σ3 e3 => ?_) (fun u hu eu => absurd eu (neg_nI (by omega) hx hu)) (fun u hu eu => absurd eu (neg_nI (by omega) hx hu)) (fun u hu eu => absurd eu (neg_nI (by omega) hx hu)))
    rw [e3]
    exact ⟨fun q => absurd q ne10, fun _ => ⟨eqv.th σ 1, rfl, fun q => absurd q ne10⟩⟩
  · unfold v_X6_scan bv_X6_scan_29
    refine rf_gd (PR := fun σ g => bv_X6_scan_30 _ σ x0 x1 x2 x3 g x0) <| show bv_X6_scan_30 _ σ x0 x1 x2 x3 _ x0 from (rf_prob hw rfl (fun q => absurd e (neg_nI (by omega) q ht)) (fun u hu eu _ σ3 e3 => ?_) (fun u hu eu r => absurd (id r) hg) (fun u hu eu r => absurd (id r) hg))
    rw [e3]
    exact ⟨fun q => absurd q ne20, fun _ => ⟨eqv.th σ 2, rfl, fun q => absurd q ne20⟩⟩
  · unfold v_X6_scan bv_X6_scan_29
    refine rf_gd (PR := fun σ g => bv_X6_scan_30 _ σ x0 x1 x2 x3 g x0) <| show bv_X6_scan_30 _ σ x0 x1 x2 x3 _ x0 from (rf_prob hw rfl (fun q => absurd e (neg_nI (by omega) q ht)) (fun u hu eu r => absurd (id hg) r) (fun u hu eu _ _ σ3 e3 => ?_) (fun u hu eu _ r => ?_))
    · rw [e3]
      exact ⟨fun q => absurd q p3, fun _ => ⟨eqv.th σ 3, rfl, fun q => absurd q p3⟩⟩
    · have := tI ht hu (e ▸ eu)
      subst this
      exact absurd r hs
  · have hne : ¬ σ.2 7 t = 24 := by
      rw [hz]
      exact fun e => by have := (nI_eq (a := z) (b := 24) (by omega) (by omega)).mp e; omega
    unfold v_X6_scan bv_X6_scan_29
    refine rf_gd (PR := fun σ g => bv_X6_scan_30 _ σ x0 x1 x2 x3 g x0) <| show bv_X6_scan_30 _ σ x0 x1 x2 x3 _ x0 from (rf_prob hw rfl (fun q => absurd e (neg_nI (by omega) q ht)) (fun u hu eu r => absurd (id hg) r) (fun u hu eu _ r => ?_) (fun u hu eu _ _ σ3 e3 => ?_))
    · have := tI ht hu (e ▸ eu)
      subst this
      exact absurd ⟨hst, hne⟩ r
    · rw [e3, e, elo, ehi]
      refine ⟨fun _ => rf_scan_ok hw0 ht hz h24 hlo hhi ?_, fun q => absurd rfl q⟩
      rw [cP_eqv (eqv.th σ 0)]
      exact ⟨opG_eqv (eqv.th σ 0) _ _ _ _ _ _ _ _ _, by rw [(opG_1 _ _ _ _ _ _ _ _ _ _).1]; rfl, fun _ => rfl⟩
theorem sp_sum : Sp_sum := by
  intro S l1 l2 l3 l4 loc ow σ M C N x0 x1 x2 post h hp
  have h : Mid S l1 l2 l3 l4 loc ow σ σ M C N := h
  have hw := h.wf
  have hM := h.M80
  have tI : ∀ {t u : Nat}, t < M → u < M → nI t = nI u → t = u := fun ht hu e => (nI_eq (by omega) (by omega)).mp e
  have hw0 := wf_eqv (eqv.th σ 0) hw
  unfold w_L_sum w_X5_sum
  refine ⟨h.k1, fun q kq zq S2 e2 => ?_⟩
  rw [e2]
  refine cl_opInit h kq zq (fun S4 h4 o4 _ => ⟨h4.k1, cl_operate (kd := 2) h4 (by omega) o4 (fun hx => Or.inl ⟨rfl, hp 1 S4 σ 0 ?_ ⟨loc, ow, M, C, N, h4⟩ (fun q => absurd q ne10)⟩) (fun t ht e hg => Or.inr (Or.inl ⟨rfl, hp 2 S4 σ 0 ?_ ⟨loc, ow, M, C, N, h4⟩ (fun q => absurd q ne20)⟩)) (fun t ht e hg hs => Or.inr (Or.inr ⟨rfl, hp 3 S4 σ 0 ?_ ⟨loc, ow, M, C, N, h4⟩ (fun q => absurd q p3)⟩)) (fun t ht e hg hs lo' _ _ hn => absurd (fun q => absurd q (by decide)) hn) (fun t z lo' hi' ht e hg hst hz h24 elo hlo ehi hhi hao S' h' => wr_ret h' (fun S6 h6 hs6 => hp 0 S6 _ _ ?_ ⟨_, _, M, C, N, h6⟩ (fun _ => hs6)))⟩)
  · unfold v_X6_sum
    refine rf_isRange' (rf_prob hw rfl (fun _ σ3 e3 => ?_) (fun u hu eu => absurd eu (neg_nI (by omega) hx hu)) (fun u hu eu => absurd eu (neg_nI (by omega) hx hu)) (fun u hu eu => absurd eu (neg_nI (by omega) hx hu)))
    rw [e3]
    exact ⟨fun q => absurd q ne10, fun _ => ⟨eqv.th σ 1, rfl, fun q => absurd q ne10⟩⟩
  · unfold v_X6_sum
    refine rf_isRange' (rf_prob hw rfl (fun q => absurd e (neg_nI (by omega) q ht)) (fun u hu eu _ σ3 e3 => ?_) (fun u hu eu r => absurd (gd_rng.mpr r) hg) (fun u hu eu r => absurd (gd_rng.mpr r) hg))
    rw [e3]
    exact ⟨fun q => absurd q ne20, fun _ => ⟨eqv.th σ 2, rfl, fun q => absurd q ne20⟩⟩
  · unfold v_X6_sum
    refine rf_isRange' (rf_prob hw rfl (fun q => absurd e (neg_nI (by omega) q ht)) (fun u hu eu r => absurd (gd_rng.mp hg) r) (fun u hu eu _ _ σ3 e3 => ?_) (fun u hu eu _ r => ?_))
    · rw [e3]
      exact ⟨fun q => absurd q p3, fun _ => ⟨eqv.th σ 3, rfl, fun q => absurd q p3⟩⟩
    · have := tI ht hu (e ▸ eu)
      subst this
      exact absurd r hs
  · have hne : ¬ σ.2 7 t = 24 := by
      rw [hz]
      exact fun e => by have := (nI_eq (a := z) (b := 24) (by omega) (by omega)).mp e; omega
    unfold v_X6_sum
    refine rf_isRange' (rf_prob hw rfl (fun q => absurd e (neg_nI (by omega) q ht)) (fun u hu eu r => absurd (gd_rng.mp hg) r) (fun u hu eu _ r => ?_) (fun u hu eu _ _ σ3 e3 => ?_))
    · have := tI ht hu (e ▸ eu)
      subst this
      exact absurd ⟨hst, hne⟩ r
    · rw [e3, e, elo, ehi]
      refine ⟨fun _ => rf_sum_ok hw0 ht hz h24 hlo hhi ?_, fun q => absurd rfl q⟩
      rw [cP_eqv (eqv.th σ 0)]
      exact ⟨opG_eqv (eqv.th σ 0) _ _ _ _ _ _ _ _ _, by rw [(opG_1 _ _ _ _ _ _ _ _ _ _).1]; rfl, fun _ => rfl⟩
theorem sp_write : Sp_write := by
  intro S l1 l2 l3 l4 loc ow σ M C N x0 x1 x2 post h hp
  have h : Mid S l1 l2 l3 l4 loc ow σ σ M C N := h
  have hw := h.wf
  have hM := h.M80
  have tI : ∀ {t u : Nat}, t < M → u < M → nI t = nI u → t = u := fun ht hu e => (nI_eq (by omega) (by omega)).mp e
  have hw0 := wf_eqv (eqv.th σ 0) hw
  unfold w_L_write w_X5_write
  refine ⟨h.k1, fun q kq zq S2 e2 => ?_⟩
  rw [e2]
  refine cl_opInit h kq zq (fun S4 h4 o4 _ => ⟨h4.k1, cl_operate (kd := 3) h4 (by omega) o4 (fun hx => Or.inl ⟨rfl, hp 1 S4 σ ?_ ⟨loc, ow, M, C, N, h4⟩⟩) (fun t ht e hg => Or.inr (Or.inl ⟨rfl, hp 2 S4 σ ?_ ⟨loc, ow, M, C, N, h4⟩⟩)) (fun t ht e hg hs => Or.inr (Or.inr ⟨rfl, hp 3 S4 σ ?_ ⟨loc, ow, M, C, N, h4⟩⟩)) (fun t ht e hg hs lo' _ _ hn => absurd (fun q => absurd q (by decide)) hn) (fun t z lo' hi' ht e hg hst hz h24 elo hlo ehi hhi hao S' h' => hp 0 S' _ ?_ ⟨_, _, M, C, N, h'⟩)⟩)
  · unfold v_X6_write bv_X6_write_27
    refine rf_gk (PR := fun σ g => bv_X6_write_28 _ σ x0 x1 x2 g x0) <| show bv_X6_write_28 _ σ x0 x1 x2 _ x0 from (rf_prob hw rfl (fun _ σ3 e3 => ?_) (fun u hu eu => absurd eu (neg_nI (by omega) hx hu)) (fun u hu eu => absurd eu (neg_nI (by omega) hx hu)) (fun u hu eu => absurd eu (neg_nI (by omega) hx hu)))
    rw [e3]
    exact ⟨fun _ => ⟨eqv.th σ 1, rfl⟩, fun q => absurd q ne10⟩
  · unfold v_X6_write bv_X6_write_27
    refine rf_gk (PR := fun σ g => bv_X6_write_28 _ σ x0 x1 x2 g x0) <| show bv_X6_write_28 _ σ x0 x1 x2 _ x0 from (rf_prob hw rfl (fun q => absurd e (neg_nI (by omega) q ht)) (fun u hu eu _ σ3 e3 => ?_) (fun u hu eu r => absurd (id r) hg) (fun u hu eu r => absurd (id r) hg))
    rw [e3]
    exact ⟨fun _ => ⟨eqv.th σ 2, rfl⟩, fun q => absurd q ne20⟩
  · unfold v_X6_write bv_X6_write_27
    refine rf_gk (PR := fun σ g => bv_X6_write_28 _ σ x0 x1 x2 g x0) <| show bv_X6_write_28 _ σ x0 x1 x2 _ x0 from (rf_prob hw rfl (fun q => absurd e (neg_nI (by omega) q ht)) (fun u hu eu r => absurd (id hg) r) (fun u hu eu _ _ σ3 e3 => ?_) (fun u hu eu _ r => ?_))
    · rw [e3]
      exact ⟨fun _ => ⟨eqv.th σ 3, rfl⟩, fun q => absurd q p3⟩
    · have := tI ht hu (e ▸ eu)
      subst this
      exact absurd r hs
  · have hne : ¬ σ.2 7 t = 24 := by
      rw [hz]
      exact fun e => by have := (nI_eq (a := z) (b := 24) (by omega) (by omega)).mp e; omega
    have elh : hi' = lo' := (nI_eq (by omega) (by omega)).mp (ehi.symm.trans elo)
    subst elh
    unfold v_X6_write bv_X6_write_27
    refine rf_gk (PR := fun σ g => bv_X6_write_28 _ σ x0 x1 x2 g x0) <| show bv_X6_write_28 _ σ x0 x1 x2 _ x0 from (rf_prob hw rfl (fun q => absurd e (neg_nI (by omega) q ht)) (fun u hu eu r => absurd (id hg) r) (fun u hu eu _ r => ?_) (fun u hu eu _ _ σ3 e3 => ?_))
    · have := tI ht hu (e ▸ eu)
      subst this
      exact absurd ⟨hst, hne⟩ r
    · rw [e3, e, elo]
      exact ⟨fun q => absurd rfl q, fun _ => rf_wr_ok hw0 (p := cP σ t z) ht hz h24 hlo ⟨opG_eqv (eqv.th σ 0) _ _ _ _ _ _ _ _ _, by rw [(opG_1 _ _ _ _ _ _ _ _ _ _).1]; rfl⟩⟩
theorem sp_remove : Sp_remove := by
  intro S l1 l2 l3 l4 loc ow σ M C N x0 x1 post h hp
  have h : Mid S l1 l2 l3 l4 loc ow σ σ M C N := h
  have hw := h.wf
  have hM := h.M80
  have tI : ∀ {t u : Nat}, t < M → u < M → nI t = nI u → t = u := fun ht hu e => (nI_eq (by omega) (by omega)).mp e
  have hw0 := wf_eqv (eqv.th σ 0) hw
  unfold w_L_remove w_X5_remove
  refine ⟨h.k1, fun q kq zq S2 e2 => ?_⟩
  rw [e2]
  refine cl_opInit h kq zq (fun S4 h4 o4 _ => ⟨h4.k1, cl_operate (kd := 4) h4 (by omega) o4 (fun hx => Or.inl ⟨rfl, hp 1 S4 σ ?_ ⟨loc, ow, M, C, N, h4⟩⟩) (fun t ht e hg => Or.inr (Or.inl ⟨rfl, hp 2 S4 σ ?_ ⟨loc, ow, M, C, N, h4⟩⟩)) (fun t ht e hg hs => Or.inr (Or.inr ⟨rfl, hp 3 S4 σ ?_ ⟨loc, ow, M, C, N, h4⟩⟩)) (fun t ht e hg hs lo' _ _ hn => absurd (fun q => absurd q (by decide)) hn) (fun t z lo' hi' ht e hg hst hz h24 elo hlo ehi hhi hao S' h' => hp 0 S' _ ?_ ⟨_, _, M, C, N, h'⟩)⟩)
  · unfold v_X6_remove
    refine rf_isKey' (rf_prob hw rfl (fun _ σ3 e3 => ?_) (fun u hu eu => absurd eu (neg_nI (by omega) hx hu)) (fun u hu eu => absurd eu (neg_nI (by omega) hx hu)) (fun u hu eu => absurd eu (neg_nI (by omega) hx hu)))
    rw [e3]
    exact ⟨fun _ => ⟨eqv.th σ 1, rfl⟩, fun q => absurd q ne10⟩
  · unfold v_X6_remove
    refine rf_isKey' (rf_prob hw rfl (fun q => absurd e (neg_nI (by omega) q ht)) (fun u hu eu _ σ3 e3 => ?_) (fun u hu eu r => absurd (gd_key.mpr r) hg) (fun u hu eu r => absurd (gd_key.mpr r) hg))
    rw [e3]
    exact ⟨fun _ => ⟨eqv.th σ 2, rfl⟩, fun q => absurd q ne20⟩
  · unfold v_X6_remove
    refine rf_isKey' (rf_prob hw rfl (fun q => absurd e (neg_nI (by omega) q ht)) (fun u hu eu r => absurd (gd_key.mp hg) r) (fun u hu eu _ _ σ3 e3 => ?_) (fun u hu eu _ r => ?_))
    · rw [e3]
      exact ⟨fun _ => ⟨eqv.th σ 3, rfl⟩, fun q => absurd q p3⟩
    · have := tI ht hu (e ▸ eu)
      subst this
      exact absurd r hs
  · have hne : ¬ σ.2 7 t = 24 := by
      rw [hz]
      exact fun e => by have := (nI_eq (a := z) (b := 24) (by omega) (by omega)).mp e; omega
    have elh : hi' = lo' := (nI_eq (by omega) (by omega)).mp (ehi.symm.trans elo)
    subst elh
    unfold v_X6_remove
    refine rf_isKey' (rf_prob hw rfl (fun q => absurd e (neg_nI (by omega) q ht)) (fun u hu eu r => absurd (gd_key.mp hg) r) (fun u hu eu _ r => ?_) (fun u hu eu _ _ σ3 e3 => ?_))
    · have := tI ht hu (e ▸ eu)
      subst this
      exact absurd ⟨hst, hne⟩ r
    · rw [e3, e, elo]
      exact ⟨fun q => absurd rfl q, fun _ => rf_rm_ok hw0 (p := cP σ t z) ht hz h24 hlo ⟨opG_eqv (eqv.th σ 0) _ _ _ _ _ _ _ _ _, by rw [(opG_1 _ _ _ _ _ _ _ _ _ _).1]; rfl⟩⟩
theorem sp_add : Sp_add := by
  intro S l1 l2 l3 l4 loc ow σ M C N x0 x1 x2 post h hp
  have h : Mid S l1 l2 l3 l4 loc ow σ σ M C N := h
  have hw := h.wf
  have hM := h.M80
  have tI : ∀ {t u : Nat}, t < M → u < M → nI t = nI u → t = u := fun ht hu e => (nI_eq (by omega) (by omega)).mp e
  have hw0 := wf_eqv (eqv.th σ 0) hw
  unfold w_L_add w_X5_add
  refine ⟨h.k1, fun q kq zq S2 e2 => ?_⟩
  rw [e2]
  refine cl_opInit h kq zq (fun S4 h4 o4 _ => ⟨h4.k1, cl_operate (kd := 5) h4 (by omega) o4 (fun hx => Or.inl ⟨rfl, hp 1 S4 σ 0 ?_ ⟨loc, ow, M, C, N, h4⟩ (fun q => absurd q ne10)⟩) (fun t ht e hg => Or.inr (Or.inl ⟨rfl, hp 2 S4 σ 0 ?_ ⟨loc, ow, M, C, N, h4⟩ (fun q => absurd q ne20)⟩)) (fun t ht e hg hs => Or.inr (Or.inr (Or.inl ⟨rfl, hp 3 S4 σ 0 ?_ ⟨loc, ow, M, C, N, h4⟩ (fun q => absurd q p3)⟩))) (fun t ht e hg hs lo' elo hlo hn S' h' => Or.inr (Or.inr (Or.inr ⟨rfl, hp 4 S' σ 0 ?_ ⟨loc, ow, M, C, N, h'⟩ (fun q => absurd q p4)⟩))) (fun t z lo' hi' ht e hg hst hz h24 elo hlo ehi hhi hao S' h' => wr_ret h' (fun S6 h6 hs6 => hp 0 S6 _ _ ?_ ⟨_, _, M, C, N, h6⟩ (fun _ => hs6)))⟩)
  · unfold v_X6_add bv_X6_add_27
    refine rf_gk (PR := fun σ g => bv_X6_add_28 _ σ x0 x1 x2 g x0) <| show bv_X6_add_28 _ σ x0 x1 x2 _ x0 from (rf_prob hw rfl (fun _ σ3 e3 => ?_) (fun u hu eu => absurd eu (neg_nI (by omega) hx hu)) (fun u hu eu => absurd eu (neg_nI (by omega) hx hu)) (fun u hu eu => absurd eu (neg_nI (by omega) hx hu)))
    rw [e3]
    exact ⟨fun q => absurd q ne10, fun _ => ⟨eqv.th σ 1, rfl, fun q => absurd q ne10⟩⟩
  · unfold v_X6_add bv_X6_add_27
    refine rf_gk (PR := fun σ g => bv_X6_add_28 _ σ x0 x1 x2 g x0) <| show bv_X6_add_28 _ σ x0 x1 x2 _ x0 from (rf_prob hw rfl (fun q => absurd e (neg_nI (by omega) q ht)) (fun u hu eu _ σ3 e3 => ?_) (fun u hu eu r => absurd (id r) hg) (fun u hu eu r => absurd (id r) hg))
    rw [e3]
    exact ⟨fun q => absurd q ne20, fun _ => ⟨eqv.th σ 2, rfl, fun q => absurd q ne20⟩⟩
  · unfold v_X6_add bv_X6_add_27
    refine rf_gk (PR := fun σ g => bv_X6_add_28 _ σ x0 x1 x2 g x0) <| show bv_X6_add_28 _ σ x0 x1 x2 _ x0 from (rf_prob hw rfl (fun q => absurd e (neg_nI (by omega) q ht)) (fun u hu eu r => absurd (id hg) r) (fun u hu eu _ _ σ3 e3 => ?_) (fun u hu eu _ r => ?_))
    · rw [e3]
      exact ⟨fun q => absurd q p3, fun _ => ⟨eqv.th σ 3, rfl, fun q => absurd q p3⟩⟩
    · have := tI ht hu (e ▸ eu)
      subst this
      exact absurd r hs
  · unfold v_X6_add bv_X6_add_27
    refine rf_gk (PR := fun σ g => bv_X6_add_28 _ σ x0 x1 x2 g x0) <| show bv_X6_add_28 _ σ x0 x1 x2 _ x0 from (rf_prob hw rfl (fun q => absurd e (neg_nI (by omega) q ht)) (fun u hu eu r => absurd (id hg) r) (fun u hu eu _ r => ?_) (fun u hu eu _ _ σ3 e3 => ?_))
    · have := tI ht hu (e ▸ eu)
      subst this
      exact absurd hs r
    · obtain ⟨z, h24', hz, -⟩ := hw.sz ht
      have h24 : z < 24 := by
        refine Classical.byContradiction (fun q => hs.2 ?_)
        rw [hz, show z = 24 by omega]; rfl
      rw [e3, e, elo]
      refine ⟨fun _ => rf_add_ok hw0 (p := 0) ht hz h24 hlo (fun q => absurd (fun _ => q) hn) (fun _ => ⟨?_, rfl, fun q => absurd q p4⟩), fun q => absurd rfl q⟩
      rw [sF_sF]
      exact eqv.th σ 4
  · have hne : ¬ σ.2 7 t = 24 := by
      rw [hz]
      exact fun e => by have := (nI_eq (a := z) (b := 24) (by omega) (by omega)).mp e; omega
    have elh : hi' = lo' := (nI_eq (by omega) (by omega)).mp (ehi.symm.trans elo)
    subst elh
    unfold v_X6_add bv_X6_add_27
    refine rf_gk (PR := fun σ g => bv_X6_add_28 _ σ x0 x1 x2 g x0) <| show bv_X6_add_28 _ σ x0 x1 x2 _ x0 from (rf_prob hw rfl (fun q => absurd e (neg_nI (by omega) q ht)) (fun u hu eu r => absurd (id hg) r) (fun u hu eu _ r => ?_) (fun u hu eu _ _ σ3 e3 => ?_))
    · have := tI ht hu (e ▸ eu)
      subst this
      exact absurd ⟨hst, hne⟩ r
    · rw [e3, e, elo]
      exact ⟨fun _ => rf_add_ok hw0 (p := cP σ t z) ht hz h24 hlo (fun _ => ⟨opG_eqv (eqv.th σ 0) _ _ _ _ _ _ _ _ _, by rw [(opG_1 _ _ _ _ _ _ _ _ _ _).1]; rfl, fun _ => rfl⟩) (fun q => absurd (hao rfl) q), fun q => absurd rfl q⟩
