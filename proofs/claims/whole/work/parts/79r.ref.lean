/-! the outcome of a commit, over what nobody shows -/
section CMV
variable {a b : Sg}
theorem Riv_e (h : eqv a b) (C t o : Nat) : Riv a C t o = Riv b C t o := by
  unfold Riv
  rw [Hit_e h, stf_e h, h.2.1]
theorem vwd_e (h : eqv a b) (C t : Nat) : vwd a C t = vwd b C t := vwd_r h.2.2.2.2.2.2.2.2.2.1 h.2.2.2.2.2.2.2.2.2.2.2.2.1 C t
theorem LW_e (h : eqv a b) (k : Nat) : ∀ c, LW a k c = LW b k c
  | 0 => rfl
  | c + 1 => by simp only [LW, LW_e h k c, cm_e h, h.2.2.2.2.2.2.2.2.2.1]
theorem KS_e (h : eqv a b) (C t : Nat) : KS a C t = KS b C t := by
  funext k
  unfold KS
  rw [Rk_e h, LW_e h, h.2.2.2.2.2.2.2.2.1]
theorem TS_e (h : eqv a b) (C t : Nat) : TS a C t = TS b C t := by
  funext i
  have hc := cP_eqv h
  obtain ⟨-, b2, b3, b4, b5, b6, b7, b8, b9, b10, b11, b12, b15, b16, b20, b24⟩ := h
  simp only [TS, TB, Tc, Wk, isPr, cm, stf, hc, b8, b10, b11, b15, b16]
theorem Vi_e (h : eqv a b) (f : Nat → Int32) : Vi a f = Vi b f := by
  funext i
  unfold Vi
  rw [h.2.2.2.2.2.2.2.2.2.2.2.2.2.2.1]
theorem Ls_e (h : eqv a b) (M C t : Nat) : Ls a M C t = Ls b M C t := by
  have hr := Riv_e h C t
  obtain ⟨⟨a1, a2, a3, a4, a5, a6, a7, a8, a9⟩, b2, b3, b4, b5, b6, b7, -⟩ := h
  simp only [Ls, hr, a2, a5, b7]
theorem Bk_e (h : eqv a b) (C t : Nat) : Bk a C t = Bk b C t := by
  have hr := Riv_e h C t
  simp only [Bk, hr, h.1.2.1]
theorem Rs_e (h : eqv a b) (M C N t z : Nat) (r : Int32) : Rs a M C N t z r = Rs b M C N t z r := by
  simp only [Rs, KS_e h, TS_e h, Vi_e h, vwd_e h, Ls_e h, h.1.2.2.2.1]
theorem aR_eqv (h : eqv a b) (C t : Nat) : ∀ i, eqv (aR a C t i) (aR b C t i)
  | 0 => h
  | i + 1 => by
    have ih := aR_eqv h C t i
    rw [aR, aR]
    by_cases q : Riv b C t i
    · rw [@if_pos _ (Classical.propDecidable _) q, @if_pos _ (Classical.propDecidable _) (by rw [Riv_e h]; exact q)]
      exact eW_eqv ih i 3
    · rw [@if_neg _ (Classical.propDecidable _) q, @if_neg _ (Classical.propDecidable _) (by rw [Riv_e h]; exact q)]
      exact ih
theorem aP_eqv (h : eqv a b) (C t M : Nat) : eqv (aP a C t M) (aP b C t M) := by
  unfold aP
  rw [h.1.2.2.2.1]
  split
  · exact aR_eqv h C t M
  · exact h
theorem vf_eqv (h : eqv a b) (C t n : Nat) : eqv (vf a C t n) (vf b C t n) := by
  have hv := vwd_e h C t
  have e : ∀ j, j ≠ 15 → a.2 j = b.2 j → (vf a C t n).2 j = (vf b C t n).2 j := fun j hj q => by
    rw [(vf_row a C t n).2.1 j hj, (vf_row b C t n).2.1 j hj, q]
  obtain ⟨h1, b2, b3, b4, b5, b6, b7, b8, b9, b10, b11, b12, b15, b16, b20, b24⟩ := h
  refine ⟨h1, e 2 (by decide) b2, e 3 (by decide) b3, e 4 (by decide) b4, e 5 (by decide) b5, e 6 (by decide) b6, e 7 (by decide) b7, e 8 (by decide) b8, e 9 (by decide) b9, e 10 (by decide) b10, e 11 (by decide) b11, e 12 (by decide) b12, ?_, e 16 (by decide) b16, e 20 (by decide) b20, e 24 (by decide) b24⟩
  funext i
  rw [(vf_row a C t n).2.2, (vf_row b C t n).2.2, hv, b15]
theorem cG_eqv (h : eqv a b) (C t : Nat) : eqv (cG a C t) (cG b C t) := by
  unfold cG cA
  rw [h.1.2.1]
  exact eqv_sF (eqv_sA (eqv_sA (eqv_sA (eqv_sF (vf_eqv h C t 32) _ _) _ _ _) _ _ _) _ _ _) _ _
theorem CmO_eqv (h : eqv a b) {M C N t z C' : Nat} {r : Int32} {σ' : Sg} (ho : CmO b M C N t z r σ' C') : ∃ σ'', CmO a M C N t z r σ'' C' ∧ eqv σ'' σ' := by
  rcases ho with ⟨x, e1, e2, e3⟩ | ⟨x, ⟨q, x2, x3, e2⟩, e1, e3⟩ | ⟨x, x2, e2, e1, e3⟩
  · exact ⟨a, Or.inl ⟨by rw [Bk_e h]; exact x, e1, rfl, e3⟩, by rw [e2]; exact h⟩
  · exact ⟨eW a t q, Or.inr (Or.inl ⟨by rw [Bk_e h]; exact x, ⟨q, by rw [Rs_e h]; exact x2, x3, rfl⟩, e1, e3⟩), by rw [e2]; exact eW_eqv h t q⟩
  · exact ⟨cG (aP a C t M) C t, Or.inr (Or.inr ⟨by rw [Bk_e h]; exact x, by rw [Rs_e h]; exact x2, rfl, e1, e3⟩), by rw [e2]; exact cG_eqv (aP_eqv h C t M) C t⟩
theorem nS_e (h : eqv a b) (x : Int32) (M : Nat) : nS a x M = nS b x M := by
  unfold nS
  rw [h.2.1]
theorem oS_eqv (h : eqv a b) (C t i : Nat) (s : Nat × Nat × Nat × Int32) : eqv (oS a C t i s) (oS b C t i s) := by
  unfold oS
  rw [cP_eqv h, vwd_e h]
  exact opG_eqv h _ _ _ _ _ _ _ _ _
theorem Alw_e (h : eqv a b) (C t : Nat) (s : Nat × Nat × Nat × Int32) : Alw a C t s = Alw b C t s := by
  unfold Alw adO
  rw [vwd_e h]
end CMV
section RDS
variable {σ : Sg} {M C N : Nat}
theorem gdk {k : Nat} (hk : k < 32) {num : Int32} (h1 : -999 ≤ num) (h2 : num ≤ 999) : gd (nI k) (nI k) num := by
  obtain ⟨a, b⟩ := key_nI.mpr ⟨k, hk, rfl⟩
  exact ⟨⟨a, Int32.le_refl _, b⟩, h1, h2⟩
theorem rf_doStep (hw : WF σ M C N) {t z i : Nat} (ht : t < M) (hst : σ.2 2 t = 0) (hz : σ.2 7 t = nI z) (h24 : z < 24) {s : Nat × Nat × Nat × Int32} (hs : Sv s) (hi : i ≤ 38) (w : W29 σ i s) {Q : Sg → Prop} (h1 : Alw σ C t s → Q (oS (sF σ 0 0) C t z s)) (h0 : ¬ Alw σ C t s → ∀ c, ¬ c = 0 → Q (sF σ 0 c)) : v_X6_doStep σ (nI t) (3 * nI i) Q := by
  have hM := hw.2.1
  have hw0 := wf_eqv (eqv.th σ 0) hw
  have hne : ¬ σ.2 7 t = 24 := by
    rw [hz]
    exact fun e => by have := (nI_eq (a := z) (b := 24) (by omega) (by omega)).mp e; omega
  have tI : ∀ {u : Nat}, u < M → nI t = nI u → t = u := fun hu e => (nI_eq (by omega) (by omega)).mp e
  have e3 : (3 : Int32) * nI i = nI (3 * i) := by rw [show (3 : Int32) = nI 3 from rfl, pk_mul]
  obtain ⟨kd, lo, hi', num⟩ := s
  obtain ⟨w1, w2, w3⟩ := w
  obtain ⟨v1, v2, v3, v4, v5, v6, v7⟩ := hs
  dsimp only at w1 w2 w3 v1 v2 v3 v4 v5 v6 v7
  unfold v_X6_doStep bv_X6_doStep_106 bv_X6_doStep_115
  rw [e3, nI_1, nI_2, ix_nI (by omega), ix_nI (by omega), ix_nI (by omega), w1, w2]
  refine ⟨vp_in_nI (by omega) (by omega), fun x2 hx2 => ⟨vp_in_nI (by omega) (by omega), fun x4 hx4 => ⟨vp_in_nI (by omega) (by omega), ?_⟩⟩⟩
  rw [hx2, hx4, w3, nI_toInt (by omega)]
  have out : ∀ {u : Nat}, u < M → nI t = nI u → ¬ (σ.2 2 u = 0 ∧ ¬ σ.2 7 u = 24) → False := fun hu eu r => by
    have := tI hu eu
    subst this
    exact r ⟨hst, hne⟩
  rcases v1 with e | e | e | e | e <;> subst e
  · have eh := v4 (by omega)
    have en := v6 (by omega)
    subst eh
    subst en
    have al : Alw σ C t (0, hi', hi', 0) := ⟨gdk v2 (show (-999 : Int32) ≤ 0 by decide) (show (0 : Int32) ≤ 999 by decide), fun q => absurd q (show ¬ (0 : Nat) = 5 by decide)⟩
    refine ⟨fun _ => ?_, fun q => absurd q (by decide), fun q => absurd q (by decide), fun q => absurd q (by decide), fun q => absurd q (by decide), fun q => absurd q (by decide), fun q => absurd q (by decide)⟩
    unfold v_X6_read
    refine rf_isKey' (rf_prob hw rfl (fun q => absurd rfl (neg_nI (by omega) q ht)) (fun u hu eu r => absurd (key_nI.mpr ⟨hi', v2, rfl⟩) r) (fun u hu eu _ r => absurd (out hu eu r) id) (fun u hu eu _ _ σ3 e3 => ?_))
    rw [e3]
    exact ⟨fun _ => rf_read_ok hw0 (p := cP (sF σ 0 0) t z) ht hz h24 v2 (h1 al), fun q => absurd rfl q⟩
  · have en := v5 rfl
    subst en
    refine ⟨fun q => absurd q (by decide), fun q => absurd q (by decide), fun _ => ?_, fun q => absurd q (by decide), fun q => absurd q (by decide), fun q => absurd q (by decide), fun q => absurd q (by decide)⟩
    unfold v_X6_sum
    rw [if_pos rfl]
    refine rf_isRange' (rf_prob hw rfl (fun q => absurd rfl (neg_nI (by omega) q ht)) (fun u hu eu r σ3 e3 => ?_) (fun u hu eu _ r => absurd (out hu eu r) id) (fun u hu eu g _ σ3 e3 => ?_))
    · rw [e3]
      exact ⟨fun q => absurd q ne20, fun _ => h0 (fun al => r (gd_rng.mp al.1)) 2 ne20⟩
    · rw [e3]
      exact ⟨fun _ => rf_sum_ok hw0 ht hz h24 v2 v3 (h1 ⟨gd_rng.mpr g, fun q => absurd q (show ¬ (2 : Nat) = 5 by decide)⟩), fun q => absurd rfl q⟩
  · have eh := v4 (by omega)
    subst eh
    have al : Alw σ C t (3, hi', hi', num) := ⟨gdk v2 v7.1 v7.2, fun q => absurd q (show ¬ (3 : Nat) = 5 by decide)⟩
    refine ⟨fun q => absurd q (by decide), fun q => absurd q (by decide), fun q => absurd q (by decide), fun _ => ?_, fun q => absurd q (by decide), fun q => absurd q (by decide), fun q => absurd q (by decide)⟩
    rw [if_neg (by decide)]
    unfold v_X6_write bv_X6_write_27
    refine rf_gk (PR := fun σ g => bv_X6_write_28 _ σ (nI t) (nI hi') num g (nI t)) <| show bv_X6_write_28 _ σ (nI t) (nI hi') num _ (nI t) from (rf_prob hw rfl (fun q => absurd rfl (neg_nI (by omega) q ht)) (fun u hu eu r => absurd al.1 r) (fun u hu eu _ r => absurd (out hu eu r) id) (fun u hu eu _ _ σ3 e3 => ?_))
    rw [e3]
    exact ⟨fun q => absurd rfl q, fun _ => rf_wr_ok hw0 (p := cP (sF σ 0 0) t z) ht hz h24 v2 (h1 al)⟩
  · have eh := v4 (by omega)
    have en := v6 (by omega)
    subst eh
    subst en
    have al : Alw σ C t (4, hi', hi', 0) := ⟨gdk v2 (show (-999 : Int32) ≤ 0 by decide) (show (0 : Int32) ≤ 999 by decide), fun q => absurd q (show ¬ (4 : Nat) = 5 by decide)⟩
    refine ⟨fun q => absurd q (by decide), fun q => absurd q (by decide), fun q => absurd q (by decide), fun q => absurd q (by decide), fun _ => ?_, fun q => absurd q (by decide), fun q => absurd q (by decide)⟩
    unfold v_X6_remove
    refine rf_isKey' (rf_prob hw rfl (fun q => absurd rfl (neg_nI (by omega) q ht)) (fun u hu eu r => absurd (key_nI.mpr ⟨hi', v2, rfl⟩) r) (fun u hu eu _ r => absurd (out hu eu r) id) (fun u hu eu _ _ σ3 e3 => ?_))
    rw [e3]
    exact ⟨fun q => absurd rfl q, fun _ => rf_rm_ok hw0 (p := cP (sF σ 0 0) t z) ht hz h24 v2 (h1 al)⟩
  · have eh := v4 (by omega)
    subst eh
    have g : gd (nI hi') (nI hi') num := gdk v2 v7.1 v7.2
    refine ⟨fun q => absurd q (by decide), fun q => absurd q (by decide), fun q => absurd q (by decide), fun q => absurd q (by decide), fun q => absurd q (by decide), fun _ => ?_, fun q => absurd q (by decide)⟩
    rw [if_neg (by decide)]
    unfold v_X6_add bv_X6_add_27
    refine rf_gk (PR := fun σ g => bv_X6_add_28 _ σ (nI t) (nI hi') num g (nI t)) <| show bv_X6_add_28 _ σ (nI t) (nI hi') num _ (nI t) from (rf_prob hw rfl (fun q => absurd rfl (neg_nI (by omega) q ht)) (fun u hu eu r => absurd g r) (fun u hu eu _ r => absurd (out hu eu r) id) (fun u hu eu _ _ σ3 e3 => ?_))
    rw [e3]
    refine ⟨fun _ => rf_add_ok hw0 (p := cP (sF σ 0 0) t z) ht hz h24 v2 (fun ad => h1 ⟨g, fun _ => ad⟩) (fun ad => ?_), fun q => absurd rfl q⟩
    rw [sF_sF]
    exact h0 (fun al => ad (al.2 rfl)) 4 p4
theorem rf_run_loop {tp : Nat → Nat × Nat × Nat × Int32} {t n : Nat} (ht : t < M) (hC : C < 60) (hn : n ≤ 20) (hv : ∀ j, j < n → Sv (tp j)) {r : Int32} {σ' : Sg} {C' : Nat} {P : Int32 → Sg → Prop} (hp : ∀ σ2, eqv σ2 σ' → σ2.1 0 = 0 → P r σ2) : ∀ k i (σ σr : Sg), i + k = n → eqv σr σ → σr.1 0 = 0 → WF σ M C N → PO σ M → σ.2 2 t = 0 → σ.2 7 t = nI i → σr.1 30 = nI n → (∀ j, j < n → W29 σr j (tp j)) → SRun M C N t tp k i σ r σ' C' → bv_X6_runScript_53 P (k + 1) σr (nI t) (nI i) := by
  intro k
  induction k with
  | zero =>
    intro i σ σr hi he h0 hw po hst hz h30 hw29 hr
    have e : i = n := by omega
    subst e
    rw [bv_X6_runScript_53]
    dsimp only
    rw [h30]
    obtain ⟨σ'', ho, ho2⟩ := CmO_eqv he hr
    have hzr : σr.2 7 t = nI i := by rw [he.2.2.2.2.2.2.1]; exact hz
    exact ⟨fun _ => rf_doCommit (wf_eqv he hw) (PO_e he po) hC ht hzr (by omega) ho (hp σ'' ho2 (ho.th.trans h0)), fun q => absurd (Int32.le_refl _) q⟩
  | succ k ih =>
    intro i σ σr hi he h0 hw po hst hz h30 hw29 hr
    have hM := hw.2.1
    have hin : i < n := by omega
    have hzr : σr.2 7 t = nI i := by rw [he.2.2.2.2.2.2.1]; exact hz
    have hstr : σr.2 2 t = 0 := by rw [he.2.1]; exact hst
    rw [bv_X6_runScript_53]
    dsimp only
    rw [h30]
    refine ⟨fun q => absurd q (nI_ge hin (by omega)), fun _ => rf_doStep (wf_eqv he hw) ht hstr hzr (by omega) (hv i hin) (by omega) (hw29 i hin) (fun al => ?_) (fun al c hc => ?_)⟩
    · rw [Alw_e he] at al
      rcases hr with ⟨x, _⟩ | ⟨_, hw', po', hr⟩
      · exact absurd al x
      obtain ⟨g0, g7, gr⟩ := opG_1 σ C t i (cP σ t i) (tp i).1 (tp i).2.1 (tp i).2.2.1 (tp i).2.2.2 (caV (tp i).1 (tp i).2.1 (tp i).2.2.1 (tp i).2.2.2 (vwd σ C t))
      obtain ⟨k0, k7, kr⟩ := opG_1 (sF σr 0 0) C t i (cP (sF σr 0 0) t i) (tp i).1 (tp i).2.1 (tp i).2.2.1 (tp i).2.2.2 (caV (tp i).1 (tp i).2.1 (tp i).2.2.1 (tp i).2.2.2 (vwd (sF σr 0 0) C t))
      have e0 : (oS (sF σr 0 0) C t i (tp i)).1 0 = 0 := congrFun k0 0
      rw [e0]
      refine ⟨fun _ v3 hv3 => ?_, fun q => absurd rfl q⟩
      rw [hv3, nI_1]
      have k29 : (oS (sF σr 0 0) C t i (tp i)).2 29 = σr.2 29 := kr 29 (by decide) (by decide) (by decide) (by decide) (by decide) (by decide)
      refine ih (i + 1) (oS σ C t i (tp i)) _ (by omega) (oS_eqv ((eqv.th σr 0).tr he) C t i (tp i)) e0 hw' po' ((congrFun (gr 2 (by decide) (by decide) (by decide) (by decide) (by decide) (by decide)) t).trans hst) g7 ((congrFun k0 30).trans h30) (fun j hj => ?_) hr
      have := hw29 j hj
      unfold W29 at this ⊢
      rw [k29]; exact this
    · rw [Alw_e he] at al
      rcases hr with ⟨_, er, es, _⟩ | ⟨x, _⟩
      · refine ⟨fun q => absurd q hc, fun _ σ4 e4 => ?_⟩
        rw [e4]
        refine rf_endWith (by omega) ?_
        rw [er] at hp
        refine hp _ ?_ ?_
        · rw [es, sF_sF]
          exact eW_eqv ((eqv.th σr 0).tr he) t 5
        · rw [(eW_row _ t 5).1 0 (by decide)]; rfl
      · exact absurd x al
end RDS
theorem sp_runScript : Sp_runScript := by
  intro S l1 l2 l3 l4 loc ow σ M C N post h hp
  have h : Mid S l1 l2 l3 l4 loc ow σ σ M C N := h
  have hw := h.wf
  have hM80 := h.M80
  have hC60 := hw.2.2.2.1
  obtain ⟨y, hy⟩ := hw.ty
  have y60 := hy.2.1
  obtain ⟨c1, c2, -⟩ := h.scr
  unfold w_L_runScript w_X5_runScript b_X5_runScript_37 b_X5_runScript_71
  rw [c1]
  refine ⟨h.k1, h.k1, c2, cl_parseAndEmpty h hy (fun n tp S3 hok h3 std cnt => ⟨fun _ => ⟨h3.k1, ?_⟩, fun q => absurd q ne10⟩) (fun fp S3 hno hfp h3 => ⟨fun q => absurd rfl q, fun _ => Or.inl ⟨rfl, hp 1 S3 (eT σ (nI fp)) 0 ?_ ⟨loc, ow, M, C, N, h3⟩ (fun q => absurd q ne10)⟩⟩)⟩
  · obtain ⟨hn20, hn1, hsv⟩ := hok.bd y60
    have hwc := h3.wf
    have ref : ∀ {P : Int32 → Sg → Prop}, (∀ σ2, eqv σ2 (eT σ (-1)) → σ2.1 0 = 0 → σ2.1 30 = nI n → (∀ j, j < n → W29 σ2 j (tp j)) → v_X6_hasRoom σ2 (fun r3 σ3 => ((r3 = 0 → bv_X6_runScript_39 P σ3) ∧ (¬ r3 = 0 → ((¬ (σ3.1 14) = 60 → v_X6_beginWith σ3 1 (fun r4 σ4 => ∃ f53, bv_X6_runScript_53 P f53 σ4 r4 0)) ∧ ((σ3.1 14) = 60 → bv_X6_runScript_39 P σ3)))))) → v_X6_runScript σ P := fun {P} H => by
      unfold v_X6_runScript
      refine rf_scriptOk hy hok (fun σ1 hd w σ2 e2 => ?_)
      rw [e2]
      refine ⟨fun _ => H _ ((eqv.th σ1 0).tr (bs_eqv hd.1 hd.2.2.1)) rfl hd.2.2.2 w, fun q => absurd hd.2.2.1 q⟩
    have bad : ∀ {S3' : MS}, Mid S3' l1 l2 l3 l4 loc ow σ (eT σ (-1)) M C N → (¬ (M < 80 ∧ ¬ 6 ≤ nS (eT σ (-1)) 0 M) ∨ C = 60) → post 2 S3' := fun {S3'} h3' hb => by
      refine hp 2 S3' (eT σ (-1)) 0 (ref (fun σ2 he e0 e30 w => ?_)) ⟨loc, ow, M, C, N, h3'⟩ (fun q => absurd q ne20)
      have f39 : ∀ {σ3 : Sg}, σ3 = σ2 → bv_X6_runScript_39 (fun r2 σ2 => eqv σ2 (eT σ (-1)) ∧ σ2.1 0 = 2 ∧ ((2 : Int32) = 0 → r2 = 0)) σ3 := fun {σ3} e => by
        unfold bv_X6_runScript_39
        rw [e]
        exact rf_fail ⟨(eqv.th σ2 2).tr he, rfl, fun q => absurd q ne20⟩
      have hw2 := wf_eqv he hwc
      refine rf_hasRoom hw2 (fun g1 g2 => ⟨fun q => absurd q ne10, fun _ => ?_⟩) (fun g => ⟨fun _ => f39 rfl, fun q => absurd rfl q⟩)
      rw [nS_e he] at g2
      rcases hb with hb | hb
      · exact absurd ⟨g1, g2⟩ hb
      · rw [hw2.2.2.1, hb]
        exact ⟨fun q => absurd rfl q, fun _ => f39 rfl⟩
    refine cl_canStart h3 (fun hM hn => ⟨fun q => absurd q ne10, fun _ => ⟨h3.k1, ?_⟩⟩) (fun q => ⟨fun _ => Or.inr ⟨rfl, bad h3 (Or.inl q)⟩, fun q => absurd rfl q⟩)
    obtain ⟨a1, a2, a3⟩ := h3.his
    unfold w_X1_isFull b_X1_isFull_14
    rw [a1, a3]
    refine ⟨a2, a2, fun g => ⟨zb0, fun _ => ⟨h3.k1, ?_⟩, fun q => absurd rfl q⟩, fun g => ⟨zb1, fun q => absurd q ne10, fun _ => Or.inr ⟨rfl, bad h3 (Or.inr ?_)⟩⟩⟩
    · have hC : C < 60 := Classical.byContradiction (fun x => nI_nl (a := 60) (b := C) (by omega) (by omega) g)
      have b2 := (bR_row (eT σ (-1)) M 1).2.2.1
      have b7 := (bR_row (eT σ (-1)) M 1).2.2.2.2.1
      have st2 : (bG (eT σ (-1)) M 1).2 2 M = 0 := (b2 M).trans (if_pos rfl)
      have st7 : (bG (eT σ (-1)) M 1).2 7 M = nI 0 := (b7 M).trans (if_pos rfl)
      have good : ∀ {r : Int32} {σ' : Sg} {C' : Nat} {S' : MS} {loc' ow' : Nat → Nat}, PO (bG (eT σ (-1)) M 1) (M + 1) → SRun (M + 1) C N M tp n 0 (bG (eT σ (-1)) M 1) r σ' C' → Mid S' l1 l2 l3 l4 loc' ow' σ σ' (M + 1) C' N → kT S' l3 = 15 ∧ vp_in 0 (kL S' l3) ∧ ∀ S6 : MS, S6 = pL S' l3 (ix 0) r.toInt64 → post 0 S6 := fun {r σ' C' S' loc' ow'} po hr h' => by
        refine wr_ret h' (fun S6 h6 hs6 => hp 0 S6 σ' r (ref (fun σ2 he e0 e30 w => ?_)) ⟨loc', ow', M + 1, C', N, h6⟩ (fun _ => hs6))
        have hw2 := wf_eqv he hwc
        refine rf_hasRoom hw2 (fun g1 g2 => ⟨fun q => absurd q ne10, fun _ => ?_⟩) (fun g => absurd ⟨hM, by rw [nS_e he]; exact hn⟩ g)
        rw [hw2.2.2.1]
        refine ⟨fun _ => rf_beginWith hM hw2.1 ⟨n + 1, ?_⟩, fun q => absurd ((nI_eq (b := 60) (by omega) (by omega)).mp q) (by omega)⟩
        have kb := bR_row σ2 M 1
        refine rf_run_loop (M := M + 1) (C := C) (N := N) (tp := tp) (t := M) (n := n) (σ' := σ') (C' := C') (by omega) hC hn20 hsv (fun σ3 he3 e03 => ⟨he3, e03, fun _ => rfl⟩) n 0 (bG (eT σ (-1)) M 1) (bG σ2 M 1) (by omega) (bG_eqv he M 1) ?_ (wf_bG (n := 1) hwc hM (by omega)) po st2 st7 ?_ (fun j hj => ?_) hr
        · show (bR σ2 M 1).1 0 = 0
          rw [kb.1]; exact e0
        · show (bR σ2 M 1).1 30 = nI n
          rw [kb.1]; exact e30
        · have := w j hj
          unfold W29 at this ⊢
          rw [show (bG σ2 M 1).2 29 = σ2.2 29 from kb.2.1 29 (by decide) (by decide) (by decide) (by decide) (by decide) (by decide)]
          exact this
      refine cl_start2 h3.mr hM hwc.1 (hwc.fre hM) hwc.hcm (fun S13 loc' ow' h13 sm el nu => ?_)
      have hm := h13.mid (wf_bG (n := 1) hwc hM (by omega))
      have u1 : Us (eT σ (-1)) M N 1 := us_s (by omega) (by omega)
      have u3 : Us (eT σ (-1)) M N 3 := us_s (by omega) (by omega)
      have u5 : Us (eT σ (-1)) M N 5 := us_s (by omega) (by omega)
      have u11 : Us (eT σ (-1)) M N 11 := us_s (by omega) (by omega)
      have s5 := sm (loc 5) (h3.owr 5 u5).2 (by rw [← h3.1]; exact h3.ne u5 u1 (by omega)) (h3.ne u5 u3 (by omega))
      have s11 := sm (loc 11) (h3.owr 11 u11).2 (by rw [← h3.1]; exact h3.ne u11 u1 (by omega)) (h3.ne u11 u3 (by omega))
      refine ⟨hm.k1, ⟨n + 1, ?_⟩⟩
      refine cl_run_loop (tp := tp) (M := M + 1) (C := C) (N := N) (t := M) (n := n) (by omega) hn20 hsv n 0 S13 loc' ow' (bG (eT σ (-1)) M 1) (by omega) hm st2 st7 ⟨fun j a b => ?_, fun j k a b c => ?_⟩ ?_ (fun S' loc2 ow2 σ' hm2 hl hs2 hs7 hr => ⟨fun q => absurd q ne10, fun _ => ⟨hm2.k1, ?_⟩⟩) (fun S' loc2 ow2 σ' hm2 hr => ⟨fun _ => good hm.po hr hm2, fun q => absurd rfl q⟩)
      · rw [el 11 u11, s11.2.2]
        have o := std.1 j a b
        have kq : kT S3 (sR S3 (loc 11) j) ≠ 0 := by rw [o.1]; decide
        have sq := sm _ kq (by rw [← h3.1]; exact Ne.symm (o.2.2.1 1 u1)) (Ne.symm (o.2.2.1 3 u3))
        obtain ⟨y1, y2, y3, y4⟩ := o.sm sq
        refine ⟨y1, y2, fun r hr => ?_, y4⟩
        rcases nu r hr with g | g
        · rw [el r g]; exact y3 r g
        · intro e
          rw [e] at g
          exact kq g
      · rw [el 11 u11, s11.2.2]; exact std.2 j k a b c
      · rw [el 5 u5, s5.2.1]; exact cnt
      · rw [← hl]
        exact cl_tryToCommit hm2 hC (by omega) hs2 hs7 (by omega) (fun r S19 σ2 C2 hcm h19 => good hm.po (hr r σ2 C2 hcm) h19)
    · exact Nat.le_antisymm hC60 (Classical.byContradiction (fun x => g (nI_lt (a := C) (b := 60) (by omega) (by omega))))
  · unfold v_X6_runScript
    refine rf_scriptNo hy hno hfp (fun σ1 hf σ2 e2 => ?_)
    rw [e2]
    have e28 : (sF σ1 0 0).1 28 = nI fp := hf.2
    rw [e28]
    refine ⟨fun q => absurd q (nIm1 (by omega)), fun _ => rf_fail ⟨?_, rfl, fun q => absurd q ne10⟩⟩
    rw [sF_sF]
    exact (eqv.th σ1 1).tr (bs_eqv hf.1 hf.2)
