/-! the two quotients -/
theorem n64_of {r : UInt64} (h : Jvm.FP.Core.val64 r ≠ .nan) : vf_n64 r := by
  have q := (Jvm.FP.Core.ne_nan r).mp h
  unfold vf_n64
  rw [UInt64.le_iff_toNat_le, UInt64.toNat_and]
  have e : (0x7fffffffffffffff : UInt64).toNat = 2 ^ 63 - 1 := by decide
  rw [e, Nat.and_two_pow_sub_one_eq_mod]
  exact q
theorem n32_of {r : UInt32} (h : Jvm.FP.Core.val32 r ≠ .nan) : vf_n32 r := by
  have q := (Jvm.FP.Core.ne_nan32 r).mp h
  unfold vf_n32
  rw [UInt32.le_iff_toNat_le, UInt32.toNat_and]
  have e : (0x7fffffff : UInt32).toNat = 2 ^ 31 - 1 := by decide
  rw [e, Nat.and_two_pow_sub_one_eq_mod]
  exact q
theorem i32_nz {b : Int32} (h : ¬ b = 0) : b.toInt ≠ 0 := fun e => h (Int32.toInt_inj.mp e)
theorem nd64 {a b : Int32} (h : ¬ b = 0) : vf_n64 (FP.ddiv (FP.i2d a) (FP.i2d b)) := by
  refine n64_of ((Jvm.FP.Core.ne_nan _).mpr ?_)
  have h1 := Jvm.FP.Core.i2d_mag a
  obtain ⟨h2, h3⟩ := Jvm.FP.Core.i2d_big (i32_nz h)
  have q := Jvm.FP.Core.ddiv_mag h1 h2 h3 (by omega) (by omega)
  have q' : (FP.ddiv (FP.i2d a) (FP.i2d b)).toNat % 2 ^ 63 < (1056 + (1074 - 52 - 1) - 1023 + 3) * 2 ^ 52 := q
  omega
theorem nd32v {a b : Int32} (h : ¬ b = 0) : Jvm.FP.Core.val32 (FP.fdiv (FP.i2f a) (FP.i2f b)) ≠ .nan := by
  refine (Jvm.FP.Core.ne_nan32 _).mpr ?_
  have h1 := Jvm.FP.Core.i2f_mag a
  obtain ⟨h2, h3⟩ := Jvm.FP.Core.i2f_big (i32_nz h)
  have q := Jvm.FP.Core.fdiv_mag h1 h2 h3 (by omega) (by omega)
  have q' : (FP.fdiv (FP.i2f a) (FP.i2f b)).toNat % 2 ^ 31 < (160 + (149 - 23 - 1) - 127 + 3) * 2 ^ 23 := q
  omega
theorem f2dv {r : UInt32} (h : Jvm.FP.Core.val32 r ≠ .nan) : Jvm.FP.Core.val64 (FP.f2d r) ≠ .nan := by
  have e : FP.f2d r = Jvm.FP.Core.f2d r := by
    unfold Jvm.FP.f2d
    rw [(Jvm.FP.Core.notNaN_iff32 r).mpr h]
    rfl
  rw [e, Jvm.FP.Core.val64_f2d]
  cases q : Jvm.FP.Core.val32 r with
  | nan => exact absurd q h
  | inf s => exact Jvm.FP.Core.Datum.noConfusion
  | fin s c q => exact Jvm.FP.Core.roundRatio_ne_nan _ _ _ _ _
theorem f2d_ok {r : UInt32} (h : Jvm.FP.Core.val32 r ≠ .nan) : vf_n64 (FP.f2d r) ∧ (Op.cmpValue (FP.dcmp (FP.f2d r) (FP.f2d r)) .l) = 0 := by
  refine ⟨n64_of (f2dv h), ?_⟩
  have e : FP.dcmp (FP.f2d r) (FP.f2d r) = some .eq := Jvm.FP.Core.dcmp_self (f2dv h)
  rw [e]
  rfl
def sAt (σ : Sg) (M : Nat) : Int32 := isum (fun t => if σ.2 2 t = 1 then σ.2 3 t else 0) M
section RAT
variable {S : MS} {l1 l2 l3 l4 : Nat} {loc ow : Nat → Nat} {σ σ1 : Sg} {M C N : Nat}
theorem cl_at_loop (h : Mid S l1 l2 l3 l4 loc ow σ σ1 M C N) {b : Int32} (hb : ¬ b = 0) {post : UInt64 → MS → Prop} {xp : String → MS → Prop} (hp : post (FP.ddiv (FP.i2d (sAt σ1 M)) (FP.i2d b)) S) : ∀ n i, i + n = M → b_X5_averageAttempts_24 post xp (n + 1) S l1 b (sAt σ1 i) (nI i) := by
  have hM := h.M80
  obtain ⟨t1, t2, t3⟩ := h.trs
  intro n
  induction n with
  | zero =>
    intro i hi
    have e : i = M := by omega
    subst e
    rw [b_X5_averageAttempts_24]
    dsimp only
    rw [h.many]
    exact ⟨h.k1, fun _ => ⟨nd64 hb, hp⟩, fun q => absurd (Int32.le_refl _) q⟩
  | succ n ih =>
    intro i hi
    have ht : i < M := by omega
    have hs := ih (i + 1) (by omega)
    obtain ⟨b1, b2, b3, b4, b5, b6, b7, b8, b9, b10, b11, b12, b13, b14, b15, b16, b17, b18⟩ := h.tx ht
    have es : sAt σ1 (i + 1) = sAt σ1 i + (if σ1.2 2 i = 1 then σ1.2 3 i else 0) := rfl
    rw [es] at hs
    rw [b_X5_averageAttempts_24]
    dsimp only
    simp only [b_X5_averageAttempts_62]
    rw [h.many, t1, t3, ix_nI (by omega), b2]
    refine ⟨h.k1, fun q => absurd q (nI_ge ht (by omega)), fun _ => ⟨t2, vp_in_nI (by omega) (by omega), fun r4 hr4 => ?_⟩⟩
    rw [hr4, b15, b13]
    refine ⟨fun q => absurd q (h.nz (us_t ht).1), fun _ => ⟨b1, fun hne v hv => ?_, fun he v6 hv6 v hv => ?_⟩⟩
    · rw [if_neg hne, i32_add0] at hs
      rw [hv, nI_1]; exact hs
    · rw [if_pos he] at hs
      rw [hv, nI_1, hv6]; exact hs
theorem rf_at_loop (hw : WF σ M C N) {P : UInt64 → Sg → Prop} (hp : v_X6_countOf σ 1 0 (fun r1 σ1 => ((¬ r1 = 0 → vf_n64 (FP.ddiv (FP.i2d (sAt σ M)) (FP.i2d r1)) ∧ P (FP.ddiv (FP.i2d (sAt σ M)) (FP.i2d r1)) σ1) ∧ (r1 = 0 → v_X6_fail σ1 1 (fun r3 σ3 => P (FP.i2d r3) σ3))))) : ∀ n i, i + n = M → bv_X6_averageAttempts_9 P (n + 1) σ (sAt σ i) (nI i) := by
  have hM := hw.2.1
  intro n
  induction n with
  | zero =>
    intro i hi
    have e : i = M := by omega
    subst e
    rw [bv_X6_averageAttempts_9]
    dsimp only
    simp only [bv_X6_averageAttempts_71]
    rw [hw.1]
    exact ⟨fun _ => hp, fun q => absurd (Int32.le_refl _) q⟩
  | succ n ih =>
    intro i hi
    have ht : i < M := by omega
    have hs := ih (i + 1) (by omega)
    have es : sAt σ (i + 1) = sAt σ i + (if σ.2 2 i = 1 then σ.2 3 i else 0) := rfl
    rw [es] at hs
    rw [bv_X6_averageAttempts_9]
    dsimp only
    simp only [bv_X6_averageAttempts_38]
    rw [hw.1, ix_nI (by omega)]
    refine ⟨fun q => absurd q (nI_ge ht (by omega)), fun _ => ⟨vp80 ht hM, fun hne v hv v2 hv2 => ?_, fun he => ⟨vp80 ht hM, fun v hv v2 hv2 => ?_⟩⟩⟩
    · rw [if_neg hne] at hs
      rw [hv2, nI_1, hv]; exact hs
    · rw [if_pos he] at hs
      rw [hv2, nI_1, hv]; exact hs
end RAT
theorem sp_averageAttempts : Sp_averageAttempts := by
  intro S l1 l2 l3 l4 loc ow σ M C N post h hp
  have h : Mid S l1 l2 l3 l4 loc ow σ σ M C N := h
  have hw := wf_eqv (eqv.th σ 0) h.wf
  have e1 : nR (sF σ 0 0) 1 0 M = nS σ 1 M := nR_0 (sF σ 0 0) 1 M
  have ref : ∀ {P : UInt64 → Sg → Prop}, ((¬ nS σ 1 M = 0 → P (FP.ddiv (FP.i2d (sAt σ M)) (FP.i2d (nS σ 1 M))) (sF σ 0 0)) ∧ (nS σ 1 M = 0 → P (FP.i2d 0) (sF σ 0 1))) → v_X6_averageAttempts σ P := fun {P} hP => by
    unfold v_X6_averageAttempts
    intro σ1 e
    rw [e]
    refine ⟨M + 1, rf_at_loop hw (rf_countOf hw ?_) M 0 (by omega)⟩
    rw [e1]
    refine ⟨fun q => ⟨nd64 q, hP.1 q⟩, fun q => rf_fail ?_⟩
    rw [sF_sF]
    exact hP.2 q
  unfold w_L_averageAttempts w_X5_averageAttempts
  refine ⟨h.k1, h.k1, cl_countInState h ⟨fun q => ⟨M + 1, cl_at_loop h q ?_ M 0 (by omega)⟩, fun q => ⟨rfl, hp 1 S σ 0 (ref ⟨fun r => absurd q r, fun _ => ⟨eqv.th σ 1, rfl, fun r => absurd r ne10⟩⟩) ⟨loc, ow, M, C, N, h⟩ (fun r => absurd r ne10)⟩⟩⟩
  exact wr_retD h (fun S6 h6 hs6 => hp 0 S6 σ _ (ref ⟨fun _ => ⟨eqv.th σ 0, rfl, fun _ => rfl⟩, fun r => absurd r q⟩) ⟨loc, ow, M, C, N, h6⟩ (fun _ => hs6))
theorem sp_abortRate : Sp_abortRate := by
  intro S l1 l2 l3 l4 loc ow σ M C N post h hp
  have h : Mid S l1 l2 l3 l4 loc ow σ σ M C N := h
  have hw := wf_eqv (eqv.th σ 0) h.wf
  have e1 : nR (sF σ 0 0) 2 0 M = nS σ 2 M := nR_0 (sF σ 0 0) 2 M
  have e0 : nS (sF σ 0 0) 0 M = nS σ 0 M := rfl
  have e2 : (sF σ 0 0).1 1 = nI M := h.wf.1
  have ref : ∀ {P : UInt32 → Sg → Prop}, ((¬ nI M - nS σ 0 M = 0 → P (FP.fdiv (FP.i2f (nS σ 2 M)) (FP.i2f (nI M - nS σ 0 M))) (sF σ 0 0)) ∧ (nI M - nS σ 0 M = 0 → P (FP.i2f 0) (sF σ 0 1))) → v_X6_abortRate σ P := fun {P} hP => by
    unfold v_X6_abortRate bv_X6_abortRate_38
    intro σ1 e
    rw [e]
    refine rf_activeNow hw (fun v3 hv3 => ?_)
    rw [hv3, e0, e2]
    refine ⟨fun q => rf_countOf hw ?_, fun q => rf_fail ?_⟩
    · rw [e1]
      exact ⟨n32_of (nd32v q), hP.1 q⟩
    · rw [sF_sF]
      exact hP.2 q
  unfold w_L_abortRate w_X5_abortRate
  refine ⟨h.k1, h.k1, cl_countInState h (fun v4 hv4 => ?_)⟩
  rw [hv4, h.many]
  refine ⟨fun q => ⟨h.k1, cl_countInState h ⟨n32_of (nd32v q), (f2d_ok (nd32v q)).1, ?_⟩⟩, fun q => ⟨rfl, hp 1 S σ 0 (ref ⟨fun r => absurd q r, fun _ => ⟨eqv.th σ 1, rfl, fun r => absurd r ne10, fun r => absurd r ne10⟩⟩) ⟨loc, ow, M, C, N, h⟩ (fun r => absurd r ne10)⟩⟩
  exact wr_retD h (fun S6 h6 hs6 => hp 0 S6 σ _ (ref ⟨fun _ => ⟨eqv.th σ 0, rfl, fun _ => rfl, fun _ => f2d_ok (nd32v q)⟩, fun r => absurd r q⟩) ⟨loc, ow, M, C, N, h6⟩ (fun _ => hs6))
