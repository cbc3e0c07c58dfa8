/-! an operation is performed -/
def g2 (σ : Sg) (C t p kd lo hi : Nat) (num : Int32) : Sg := if (kd = 0 ∨ kd = 5) ∧ σ.2 10 (32 * t + lo) = -5000 ∧ σ.2 9 (32 * t + lo) = -1 then sA (g1 σ C t p kd lo hi num) 9 (32 * t + lo) (nI C) else g1 σ C t p kd lo hi num
def g3 (σ : Sg) (C t p kd lo hi : Nat) (num r : Int32) : Sg := if kd = 3 ∨ kd = 4 ∨ kd = 5 then sA (g2 σ C t p kd lo hi num) 10 (32 * t + lo) r else g2 σ C t p kd lo hi num
def opG (σ : Sg) (C t z p kd lo hi : Nat) (num r : Int32) : Sg := lS (g3 σ C t p kd lo hi num r) t z (nI kd) (nI lo) (bO kd hi num) (cO kd num) (rO kd r)
/-- the record, behind the list -/
def gR (σ : Sg) (C t z p kd lo hi : Nat) (num r : Int32) : Sg := if (kd = 0 ∨ kd = 5) ∧ σ.2 10 (32 * t + lo) = -5000 ∧ σ.2 9 (32 * t + lo) = -1 then sA (gL σ C t z p kd lo hi num r) 9 (32 * t + lo) (nI C) else gL σ C t z p kd lo hi num r
theorem opG_eq (σ : Sg) (C t z p kd lo hi : Nat) (num r : Int32) : opG σ C t z p kd lo hi num r = if kd = 3 ∨ kd = 4 ∨ kd = 5 then sA (gR σ C t z p kd lo hi num r) 10 (32 * t + lo) r else gR σ C t z p kd lo hi num r := by
  unfold opG g3 g2 gR gL
  by_cases h1 : kd = 3 ∨ kd = 4 ∨ kd = 5
  · by_cases h2 : (kd = 0 ∨ kd = 5) ∧ σ.2 10 (32 * t + lo) = -5000 ∧ σ.2 9 (32 * t + lo) = -1
    · rw [if_pos h1, if_pos h1, if_pos h2, if_pos h2, lS_comm _ (by decide) (by decide), lS_comm _ (by decide) (by decide)]
    · rw [if_pos h1, if_pos h1, if_neg h2, if_neg h2, lS_comm _ (by decide) (by decide)]
  · by_cases h2 : (kd = 0 ∨ kd = 5) ∧ σ.2 10 (32 * t + lo) = -5000 ∧ σ.2 9 (32 * t + lo) = -1
    · rw [if_neg h1, if_neg h1, if_pos h2, if_pos h2, lS_comm _ (by decide) (by decide)]
    · rw [if_neg h1, if_neg h1, if_neg h2, if_neg h2]
theorem opG_eqv {a b : Sg} (h : eqv a b) (C t z p kd lo hi : Nat) (num r : Int32) : eqv (opG a C t z p kd lo hi num r) (opG b C t z p kd lo hi num r) := by
  have h9 : a.2 9 = b.2 9 := h.2.2.2.2.2.2.2.2.1
  have h10 : a.2 10 = b.2 10 := h.2.2.2.2.2.2.2.2.2.1
  rw [opG_eq, opG_eq]
  unfold gR
  rw [h9, h10]
  by_cases h1 : kd = 3 ∨ kd = 4 ∨ kd = 5
  · by_cases h2 : (kd = 0 ∨ kd = 5) ∧ b.2 10 (32 * t + lo) = -5000 ∧ b.2 9 (32 * t + lo) = -1
    · rw [if_pos h1, if_pos h1, if_pos h2, if_pos h2]
      exact eqv_sA (eqv_sA (gL_eqv h _ _ _ _ _ _ _ _ _) _ _ _) _ _ _
    · rw [if_pos h1, if_pos h1, if_neg h2, if_neg h2]
      exact eqv_sA (gL_eqv h _ _ _ _ _ _ _ _ _) _ _ _
  · by_cases h2 : (kd = 0 ∨ kd = 5) ∧ b.2 10 (32 * t + lo) = -5000 ∧ b.2 9 (32 * t + lo) = -1
    · rw [if_neg h1, if_neg h1, if_pos h2, if_pos h2]
      exact eqv_sA (gL_eqv h _ _ _ _ _ _ _ _ _) _ _ _
    · rw [if_neg h1, if_neg h1, if_neg h2, if_neg h2]
      exact gL_eqv h _ _ _ _ _ _ _ _ _
theorem opG_1 (σ : Sg) (C t z p kd lo hi : Nat) (num r : Int32) : (opG σ C t z p kd lo hi num r).1 = σ.1 ∧ (opG σ C t z p kd lo hi num r).2 7 t = nI (z + 1) ∧ (∀ j, j ≠ 7 → j ≠ 8 → j ≠ 9 → j ≠ 10 → j ≠ 11 → j ≠ 12 → (opG σ C t z p kd lo hi num r).2 j = σ.2 j) := by
  obtain ⟨b0, b1, b2, b3, b4, b5⟩ := gL_row σ C t z p kd lo hi num r
  have a : (gR σ C t z p kd lo hi num r).1 = σ.1 ∧ (gR σ C t z p kd lo hi num r).2 7 = (gL σ C t z p kd lo hi num r).2 7 ∧ (∀ j, j ≠ 7 → j ≠ 8 → j ≠ 9 → j ≠ 10 → j ≠ 11 → j ≠ 12 → (gR σ C t z p kd lo hi num r).2 j = σ.2 j) := by
    unfold gR
    split
    · exact ⟨b0, sA_ne _ (by decide) _ _, fun j h7 h8 h9 h10 h11 h12 => (sA_ne _ h9 _ _).trans (b1 j h7 h8 h11 h12)⟩
    · exact ⟨b0, rfl, fun j h7 h8 h9 h10 h11 h12 => b1 j h7 h8 h11 h12⟩
  rw [opG_eq]
  split
  · exact ⟨a.1, by rw [sA_ne _ (by decide), a.2.1, b2, if_pos rfl], fun j h7 h8 h9 h10 h11 h12 => (sA_ne _ h10 _ _).trans (a.2.2 j h7 h8 h9 h10 h11 h12)⟩
  · exact ⟨a.1, by rw [a.2.1, b2, if_pos rfl], fun j h7 h8 h9 h10 h11 h12 => a.2.2 j h7 h8 h9 h10 h11 h12⟩
section WFO
variable {σ1 : Sg} {M C N : Nat}
theorem wf_gL (hw : WF σ1 M C N) {t z kd lo hi : Nat} {num r : Int32} (ht : t < M) (hz : σ1.2 7 t = nI z) (h24 : z < 24) (hkd : kd < 6) : WF (gL σ1 C t z (cP σ1 t z) kd lo hi num r) M C N := by
  obtain ⟨b0, b1, b2, b3, b4, b5⟩ := gL_row σ1 C t z (cP σ1 t z) kd lo hi num r
  obtain ⟨c0, c1, c2, c3, c4, c5, c6, c7, c8⟩ := lS_row (g1 σ1 C t (cP σ1 t z) kd lo hi num) t z (nI kd) (nI lo) (bO kd hi num) (cO kd num) (rO kd r)
  obtain ⟨w1, w2, w3, w4, w5, w6, w7, w8, w9, w10, w11, w12, w13, w14, w15, w16, w17⟩ := hw
  have hcP : ∀ u i, (u = t → i ≤ z) → i ≤ 24 → cP (gL σ1 C t z (cP σ1 t z) kd lo hi num r) u i = cP σ1 u i := fun u i h1 h2 => cP_at (fun i' hi' => b3 _ (by
    by_cases e : u = t
    · have := h1 e; omega
    · omega))
  have e : ∀ j, j ≠ 7 → j ≠ 8 → j ≠ 11 → j ≠ 12 → (gL σ1 C t z (cP σ1 t z) kd lo hi num r).2 j = σ1.2 j := b1
  refine ⟨by rw [b0]; exact w1, w2, by rw [b0]; exact w3, w4, by rw [b0]; exact w5, w6, fun u hu => ?_, ?_, ?_, ?_, ?_, by rw [b0]; exact w12, by rw [b0]; exact w13, by rw [b0]; exact w14, ?_, ?_, ?_⟩
  · obtain ⟨q1, ⟨z', hz', ez', ep'⟩, q3⟩ := w7 u hu
    rw [e 2 (by decide) (by decide) (by decide) (by decide), e 3 (by decide) (by decide) (by decide) (by decide), b2, b4]
    refine ⟨q1, ?_, q3⟩
    by_cases q : u = t
    · subst q
      have ezz : z' = z := by
        rw [hz] at ez'
        exact ((nI_eq (by omega) (by omega)).mp ez').symm
      subst ezz
      rw [if_pos rfl]
      refine ⟨z' + 1, by omega, rfl, ?_⟩
      rw [cP, hcP u z' (fun _ => Nat.le_refl _) (by omega)]
      have hpr : isPr (gL σ1 C u z' (cP σ1 u z') kd lo hi num r) u z' = decide (kd = 1 ∨ kd = 2) := by
        unfold isPr gL
        rw [c4]
        have a1 : (nI kd = 1) ↔ kd = 1 := nI_eq (b := 1) (by omega) (by omega)
        have a2 : (nI kd = 2) ↔ kd = 2 := nI_eq (b := 2) (by omega) (by omega)
        simp only [a1, a2]
        by_cases q1 : kd = 1 <;> by_cases q2 : kd = 2 <;> simp [q1, q2]
      by_cases qk : kd = 1 ∨ kd = 2
      · rw [if_pos ⟨qk, rfl⟩, hpr, decide_eq_true qk]; rfl
      · rw [if_neg (fun x => qk x.1), hpr, decide_eq_false qk]
        exact ep'
    · rw [if_neg q, if_neg (fun x => q x.2)]
      exact ⟨z', hz', ez', by rw [hcP u z' (fun x => absurd x q) hz']; exact ep'⟩
  · rw [e 9 (by decide) (by decide) (by decide) (by decide), e 10 (by decide) (by decide) (by decide) (by decide)]; exact w8
  · rw [e 15 (by decide) (by decide) (by decide) (by decide)]; exact w9
  · rw [e 16 (by decide) (by decide) (by decide) (by decide), e 2 (by decide) (by decide) (by decide) (by decide), e 5 (by decide) (by decide) (by decide) (by decide), e 10 (by decide) (by decide) (by decide) (by decide), e 15 (by decide) (by decide) (by decide) (by decide)]; exact w10
  · rw [b0, e 2 (by decide) (by decide) (by decide) (by decide)]; exact w11
  · rw [e 20 (by decide) (by decide) (by decide) (by decide)]; exact w15
  · rw [b0, e 24 (by decide) (by decide) (by decide) (by decide)]; exact w16
  · rw [e 4 (by decide) (by decide) (by decide) (by decide), e 5 (by decide) (by decide) (by decide) (by decide), e 6 (by decide) (by decide) (by decide) (by decide)]; exact w17
theorem wf_rec (hw : WF σ1 M C N) {t k : Nat} (ht : t < M) (hk : k < 32) : WF (sA σ1 9 (32 * t + k) (nI C)) M C N := by
  have hC := hw.2.2.2.1
  obtain ⟨w1, w2, w3, w4, w5, w6, w7, w8, w9, w10, w11, w12, w13, w14, w15, w16, w17⟩ := hw
  have hcP := cP_8 (σ' := sA σ1 9 (32 * t + k) (nI C)) (σ := σ1) (sA_ne _ (by decide) _ _)
  refine ⟨w1, w2, w3, w4, w5, w6, ?_, fun u hu j hj => ⟨?_, (w8 u hu j hj).2⟩, w9, w10, w11, w12, w13, w14, w15, w16, w17⟩
  · simp only [hcP]; exact w7
  · rw [sA_at]
    by_cases e : 32 * u + j = 32 * t + k
    · rw [if_pos e]; exact Or.inr ⟨C, hC, rfl⟩
    · rw [if_neg e]; exact (w8 u hu j hj).1
theorem wf_wrt (hw : WF σ1 M C N) {t k : Nat} {v : Int32} (ht : t < M) (hk : k < 32) (hno : ∀ c, 1 ≤ c → c ≤ C → cm σ1 c ≠ t) (hv : -1000 ≤ v.toInt ∧ v.toInt ≤ 999) : WF (sA σ1 10 (32 * t + k) v) M C N := by
  have com := fun c h1 hc => hw.com (c := c) h1 hc
  obtain ⟨w1, w2, w3, w4, w5, w6, w7, w8, w9, w10, w11, w12, w13, w14, w15, w16, w17⟩ := hw
  have hcP := cP_8 (σ' := sA σ1 10 (32 * t + k) v) (σ := σ1) (sA_ne _ (by decide) _ _)
  refine ⟨w1, w2, w3, w4, w5, w6, ?_, fun u hu j hj => ⟨(w8 u hu j hj).1, ?_⟩, w9, fun c h1 hc => ?_, w11, w12, w13, w14, w15, w16, w17⟩
  · simp only [hcP]; exact w7
  · rw [sA_at]
    by_cases e : 32 * u + j = 32 * t + k
    · rw [if_pos e]; exact Or.inr hv
    · rw [if_neg e]; exact (w8 u hu j hj).2
  · obtain ⟨e1, e2, e3, e4, e5⟩ := com c h1 hc
    have := hno c h1 hc
    refine ⟨cm σ1 c, e1, e2, e3, e4, fun j hj => ?_⟩
    rw [sA_at, if_neg (by omega)]
    exact e5 j hj
end WFO
section PRF
variable {S S' : MS} {l1 l2 l3 l4 : Nat} {loc ow : Nat → Nat} {σ σ1 : Sg} {M C N : Nat}
theorem n5000 {v : Int32} (h : -1000 ≤ v.toInt) : ¬ v = -5000 := fun e => by
  rw [e] at h
  have : (-5000 : Int32).toInt = -5000 := by decide
  omega
theorem nIm1 {n : Nat} (h : n < 2 ^ 31) : ¬ nI n = -1 := fun e => nI_pos h (by rw [e]; decide)
set_option maxHeartbeats 1000000 in
theorem cl_keep (h : Mid S l1 l2 l3 l4 loc ow σ σ1 M C N) {t z kd lo hi q : Nat} {num r : Int32} (ht : t < M) (hst : σ1.2 2 t = 0) (hz : σ1.2 7 t = nI z) (h24 : z < 24) (hkd : kd < 6) (hlo : lo < 32) (hhi : hi < 32) (o : Opq S loc σ1 M N q (nI kd) (nI lo) (nI hi) num) (hnum : kd = 1 ∨ kd = 2 → -999 ≤ num) (hr3 : kd = 3 → r = num) (hr4 : kd = 4 → r = -1000) (hrg : kd = 3 ∨ kd = 4 ∨ kd = 5 → -1000 ≤ r.toInt ∧ r.toInt ≤ 999) {post : MS → Prop} (hp : ∀ S', Mid S' l1 l2 l3 l4 (locO loc (1000 + (24 * t + z)) q) (owO ow (1000 + (24 * t + z)) q) σ (opG σ1 C t z (cP σ1 t z) kd lo hi num r) M C N → (∀ x, x ≠ q → x ≠ loc (200 + t) → x ≠ loc (300 + t) → x ≠ loc (400 + t) → x ≠ loc (500 + t) → Sm S S' x) → post S') : w_X4_keep S (loc (200 + t)) q (nI C) r post := by
  obtain ⟨hM, hC, hN⟩ := h.mr.bd
  obtain ⟨ua, ub, uc, ud⟩ := us_t (σ := σ1) (N := N) ht
  obtain ⟨q1, q2, q3, q4, q5, q6, q7⟩ := id o
  have hno : ∀ c, 1 ≤ c → c ≤ C → cm σ1 c ≠ t := fun c h1 hc e => by
    have := (h.wf.com h1 hc).2.2.1
    rw [e, hst] at this
    exact absurd this (by decide)
  have smq : ∀ {x}, x ≠ q → Sm S (pI (pI S q 4 (nI C)) q 5 r) x := fun hx => (sm_pI hx).tr (sm_pI hx)
  have h4 : MR (pI (pI S q 4 (nI C)) q 5 r) l1 l2 l3 l4 loc ow σ σ1 M C N := mr_free h.mr (fun x hx => smq hx) q3 q2
  have fq : ∀ j, j ≠ 4 → j ≠ 5 → sI (pI (pI S q 4 (nI C)) q 5 r) q j = sI S q j := fun j h4 h5 => by
    rw [sI_pI, if_pos rfl, if_neg h5, sI_pI, if_pos rfl, if_neg h4]
  have o4 : Opq (pI (pI S q 4 (nI C)) q 5 r) loc σ1 M N q (nI kd) (nI lo) (nI hi) num := ⟨q1, q2, q3, by rw [fq 0 (by decide) (by decide)]; exact q4, by rw [fq 1 (by decide) (by decide)]; exact q5, by rw [fq 2 (by decide) (by decide)]; exact q6, by rw [fq 3 (by decide) (by decide)]; exact q7⟩
  have e4 : sI (pI (pI S q 4 (nI C)) q 5 r) q 4 = nI C := by rw [sI_pI, if_pos rfl, if_neg (by decide), sI_pI, if_pos rfl, if_pos rfl]
  have e5 : sI (pI (pI S q 4 (nI C)) q 5 r) q 5 = r := by rw [sI_pI, if_pos rfl, if_pos rfl]
  have hL := mr_list h4 ht hz h24 hkd hlo hhi o4 e4 e5 hnum hr3 hr4
  have wL := wf_gL (lo := lo) (hi := hi) (num := num) (r := r) h.wf ht hz h24 hkd
  obtain ⟨b1, b2, b3, b4, b5, b6, b7, b8, b9, b10, b11, b12, b13, b14, b15, b16, b17, b18⟩ := h4.tx ht
  refine ⟨q1, fun S2 e2 S4 e4' => ?_⟩
  rw [e4', e2]
  rw [b14, hz, b3, b7, ix_nI (by omega)]
  refine ⟨b1, fun g => absurd g (show ¬ nI 24 ≤ nI z from nI_ge h24 (by omega)), fun _ => ⟨b6, vp_in_nI (by omega) (by omega), fun S9 e9 S13 e13 => ?_⟩⟩
  have e9' : sI S9 (loc (200 + t)) 5 + 1 = nI (z + 1) := by
    rw [e9]
    show sI (pI (pI S q 4 (nI C)) q 5 r) (loc (200 + t)) 5 + 1 = _
    rw [b14, hz, nI_1]
  rw [e9', e9] at e13
  rw [← e13] at hL
  have smL : ∀ {x}, x ≠ q → x ≠ loc (200 + t) → x ≠ loc (300 + t) → Sm S S13 x := fun h1 h2 h3 => by
    rw [e13]
    exact (smq h1).tr ((sm_pR h3).tr (sm_pI h2))
  have hml := hL.mid wL
  have ut' : ∀ {y}, Us σ1 M N y → locO loc (1000 + (24 * t + z)) q y = loc y := fun {y} hy => if_neg (us_opn hM hN ht hz h24 hy)
  have q0' : sI S13 q 0 = nI kd ∧ sI S13 q 1 = nI lo ∧ kT S13 q = 3 := by
    have sq : Sm (pI (pI S q 4 (nI C)) q 5 r) S13 q := by
      rw [e13]
      exact (sm_pR (Ne.symm (q3 _ ub))).tr (sm_pI (Ne.symm (q3 _ ua)))
    rw [sq.2.1, sq.T]
    exact ⟨o4.2.2.2.1, o4.2.2.2.2.1, o4.1⟩
  have nk : ∀ {n : Nat}, n < 100 → (nI kd = nI n ↔ kd = n) := fun hn => nI_eq (by omega) (by omega)
  have fin : ∀ S16, MR S16 l1 l2 l3 l4 (locO loc (1000 + (24 * t + z)) q) (owO ow (1000 + (24 * t + z)) q) σ (gR σ1 C t z (cP σ1 t z) kd lo hi num r) M C N → WF (gR σ1 C t z (cP σ1 t z) kd lo hi num r) M C N → (∀ x, x ≠ q → x ≠ loc (200 + t) → x ≠ loc (300 + t) → x ≠ loc (400 + t) → Sm S S16 x) → sI S16 q 0 = nI kd → kT S16 q = 3 → b_X4_keep_91 post S16 (loc (200 + t)) q (nI C) r (nI lo) := fun S16 h16 w16 sm16 k16 t16 => by
    have tx := h16.tx ht
    unfold TxR at tx
    rw [ut' ua, ut' ub, ut' uc, ut' ud] at tx
    unfold b_X4_keep_91 b_X4_keep_119 w_X2_makesWrite b_X2_makesWrite_24 b_X2_makesWrite_29
    rw [k16]
    have wr : kd = 3 ∨ kd = 4 ∨ kd = 5 → (∀ S5 : MS, S5 = pI S16 (loc (200 + t)) 7 ((sI S16 (loc (200 + t)) 7) ||| (1 <<< (nI lo &&& 31))) → kT S5 (sR S5 (loc (200 + t)) 4) = 9 ∧ vp_in (nI lo) (kL S5 (sR S5 (loc (200 + t)) 4)) ∧ ∀ S9 : MS, S9 = pI S5 (sR S5 (loc (200 + t)) 4) (ix (nI lo)) r → post S9) := fun hk S5 e5 => by
      have hW := mr_wrt h16 ht hlo (n5000 (hrg hk).1)
      rw [ut' ua, ut' ud] at hW
      have eR : sR S5 (loc (200 + t)) 4 = loc (500 + t) := by rw [e5]; exact tx.2.2.2.2.1
      rw [eR, ix_nI (by omega)]
      have eT : kT S5 (loc (500 + t)) = 9 ∧ kL S5 (loc (500 + t)) = 32 := by
        rw [e5]; exact ⟨tx.2.2.2.2.2.2.2.2.2.1, tx.2.2.2.2.2.2.2.2.2.2.1⟩
      rw [eT.2]
      refine ⟨eT.1, vp_in_nI (by omega) (by omega), fun S9 e9 => ?_⟩
      rw [e5] at e9
      rw [← e9] at hW
      have hw2 : WF (sA (gR σ1 C t z (cP σ1 t z) kd lo hi num r) 10 (32 * t + lo) r) M C N := wf_wrt w16 ht hlo (fun c h1 hc e => hno c h1 hc (by
        rw [← e]
        show ix (σ1.2 16 c) = ix ((gR σ1 C t z (cP σ1 t z) kd lo hi num r).2 16 c)
        have : (gR σ1 C t z (cP σ1 t z) kd lo hi num r).2 16 = σ1.2 16 := by
          unfold gR
          split
          · rw [sA_ne _ (by decide)]; exact (gL_row σ1 C t z (cP σ1 t z) kd lo hi num r).2.1 16 (by decide) (by decide) (by decide) (by decide)
          · exact (gL_row σ1 C t z (cP σ1 t z) kd lo hi num r).2.1 16 (by decide) (by decide) (by decide) (by decide)
        rw [this])) (hrg hk)
      have em := hW.mid hw2
      refine hp S9 (by rw [opG_eq, if_pos hk]; exact em) (fun x h1 h2 h3 h4 h5 => (sm16 x h1 h2 h3 h4).tr ?_)
      rw [e9]
      exact (sm_pI h2).tr (sm_pI h5)
    refine ⟨t16, t16, fun g => ⟨zb1, fun g2 => absurd g2 ne10, fun _ => ⟨tx.1, wr (Or.inl ((nk (n := 3) (by omega)).mp g))⟩⟩, fun g => ⟨fun g2 => ⟨zb1, fun g3 => absurd g3 ne10, fun _ => ⟨tx.1, wr (Or.inr (Or.inl ((nk (n := 4) (by omega)).mp g2)))⟩⟩, fun g2 => ⟨fun g3 => ⟨zb0, fun _ => ?_, fun g4 => absurd rfl g4⟩, fun g3 => ⟨zb1, fun g4 => absurd g4 ne10, fun _ => ⟨tx.1, wr (Or.inr (Or.inr ((nk (n := 5) (by omega)).mp g3)))⟩⟩⟩⟩⟩
    have nw : ¬ (kd = 3 ∨ kd = 4 ∨ kd = 5) := fun x => x.elim (fun x => g ((nk (n := 3) (by omega)).mpr x)) (fun x => x.elim (fun x => g2 ((nk (n := 4) (by omega)).mpr x)) (fun x => g3 ((nk (n := 5) (by omega)).mpr x)))
    exact hp S16 (by rw [opG_eq, if_neg nw]; exact h16.mid w16) (fun x h1 h2 h3 h4 _ => sm16 x h1 h2 h3 h4)
  unfold b_X4_keep_39 w_X2_makesRead b_X2_makesRead_15 b_X2_makesRead_20
  rw [q0'.1, q0'.2.1]
  have r9 : (gL σ1 C t z (cP σ1 t z) kd lo hi num r).2 9 = σ1.2 9 := (gL_row σ1 C t z (cP σ1 t z) kd lo hi num r).2.1 9 (by decide) (by decide) (by decide) (by decide)
  have r10 : (gL σ1 C t z (cP σ1 t z) kd lo hi num r).2 10 = σ1.2 10 := (gL_row σ1 C t z (cP σ1 t z) kd lo hi num r).2.1 10 (by decide) (by decide) (by decide) (by decide)
  have stay : ¬ ((kd = 0 ∨ kd = 5) ∧ σ1.2 10 (32 * t + lo) = -5000 ∧ σ1.2 9 (32 * t + lo) = -1) → b_X4_keep_91 post S13 (loc (200 + t)) q (nI C) r (nI lo) := fun hn => by
    have eg : gR σ1 C t z (cP σ1 t z) kd lo hi num r = gL σ1 C t z (cP σ1 t z) kd lo hi num r := by unfold gR; rw [if_neg hn]
    exact fin S13 (by rw [eg]; exact hL) (by rw [eg]; exact wL) (fun x h1 h2 h3 _ => smL h1 h2 h3) q0'.1 q0'.2.2
  have hr : ∀ {pp : Int32 → MS → Prop}, pp (bI (Rk (gL σ1 C t z (cP σ1 t z) kd lo hi num r) t lo)) S13 → w_X4_hasRecorded S13 (loc (200 + t)) (nI lo) pp := fun {pp} hq => by
    have := cl_hasRec hml ht hlo hq
    rw [ut' ua] at this
    exact this
  have hwr : ∀ {pp : Int32 → MS → Prop}, pp (bI (Wk (gL σ1 C t z (cP σ1 t z) kd lo hi num r) t lo)) S13 → w_X4_hasWritten S13 (loc (200 + t)) (nI lo) pp := fun {pp} hq => by
    have := cl_hasWr hml ht hlo hq
    rw [ut' ua] at this
    exact this
  have tx := hml.tx ht
  unfold TxR at tx
  rw [ut' ua, ut' ub, ut' uc, ut' ud] at tx
  refine ⟨q0'.2.2, fun v2 hv2 => ?_⟩
  rw [hv2]
  have rd : kd = 0 ∨ kd = 5 → (kT S13 (loc (200 + t)) = 5 ∧ w_X4_hasRecorded S13 (loc (200 + t)) (nI lo) (fun r7 S6 => ((¬ r7 = 0 → b_X4_keep_91 post S6 (loc (200 + t)) q (nI C) r (nI lo)) ∧ (r7 = 0 → kT S6 (loc (200 + t)) = 5 ∧ w_X4_hasWritten S6 (loc (200 + t)) (nI lo) (fun r10 S9 => ((¬ r10 = 0 → b_X4_keep_91 post S9 (loc (200 + t)) q (nI C) r (nI lo)) ∧ (r10 = 0 → kT S9 (loc (200 + t)) = 5 ∧ ∀ S12 : MS, S12 = pI S9 (loc (200 + t)) 6 ((sI S9 (loc (200 + t)) 6) ||| (1 <<< (nI lo &&& 31))) → kT S12 (sR S12 (loc (200 + t)) 3) = 9 ∧ vp_in (nI lo) (kL S12 (sR S12 (loc (200 + t)) 3)) ∧ ∀ S16 : MS, S16 = pI S12 (sR S12 (loc (200 + t)) 3) (ix (nI lo)) (nI C) → b_X4_keep_91 post S16 (loc (200 + t)) q (nI C) r (nI lo)))))))) := fun hk => by
    refine ⟨tx.1, hr ⟨fun g => stay (fun x => bI_nz.mp g (by rw [r9]; exact x.2.2)), fun g => ⟨tx.1, hwr ⟨fun g2 => stay (fun x => bI_nz.mp g2 (by rw [r10]; exact x.2.1)), fun g2 => ⟨tx.1, fun S12 e12 => ?_⟩⟩⟩⟩⟩
    have c9 : σ1.2 9 (32 * t + lo) = -1 := by have := Classical.not_not.mp (bI_z.mp g); rw [r9] at this; exact this
    have c10 : σ1.2 10 (32 * t + lo) = -5000 := by have := Classical.not_not.mp (bI_z.mp g2); rw [r10] at this; exact this
    have hR := mr_rec hL ht hlo (nIm1 (show C < 2 ^ 31 by omega))
    rw [ut' ua, ut' uc] at hR
    have eR : sR S12 (loc (200 + t)) 3 = loc (400 + t) := by rw [e12]; exact tx.2.2.2.1
    rw [eR, ix_nI (by omega)]
    have eT : kT S12 (loc (400 + t)) = 9 ∧ kL S12 (loc (400 + t)) = 32 := by
      rw [e12]; exact ⟨tx.2.2.2.2.2.2.2.1, tx.2.2.2.2.2.2.2.2.1⟩
    rw [eT.2]
    refine ⟨eT.1, vp_in_nI (by omega) (by omega), fun S16 e16 => ?_⟩
    rw [e12] at e16
    rw [← e16] at hR
    have eg : gR σ1 C t z (cP σ1 t z) kd lo hi num r = sA (gL σ1 C t z (cP σ1 t z) kd lo hi num r) 9 (32 * t + lo) (nI C) := by unfold gR; rw [if_pos ⟨hk, c10, c9⟩]
    have sq : Sm S13 S16 q := by
      rw [e16]
      exact (sm_pI (Ne.symm (q3 _ ua))).tr (sm_pI (Ne.symm (q3 _ uc)))
    refine fin S16 (by rw [eg]; exact hR) (by rw [eg]; exact wf_rec wL ht hlo) (fun x h1 h2 h3 h4 => (smL h1 h2 h3).tr ?_) (by rw [sq.2.1]; exact q0'.1) (by rw [sq.T]; exact q0'.2.2)
    rw [e16]
    exact (sm_pI h2).tr (sm_pI h4)
  refine ⟨q0'.2.2, fun g => ⟨zb1, fun g2 => absurd g2 ne10, fun _ => rd (Or.inl ((nk (n := 0) (by omega)).mp g))⟩, fun g => ⟨fun g2 => ⟨zb0, fun _ => stay (fun x => ?_), fun g3 => absurd rfl g3⟩, fun g2 => ⟨zb1, fun g3 => absurd g3 ne10, fun _ => rd (Or.inr ((nk (n := 5) (by omega)).mp g2))⟩⟩⟩
  exact x.1.elim (fun y => g ((nk (n := 0) (by omega)).mpr y)) (fun y => g2 ((nk (n := 5) (by omega)).mpr y))
theorem cl_perform (h : Mid S l1 l2 l3 l4 loc ow σ σ1 M C N) {t z kd lo hi q : Nat} {num : Int32} (ht : t < M) (hst : σ1.2 2 t = 0) (hz : σ1.2 7 t = nI z) (h24 : z < 24) (hkd : kd < 6) (hlo : lo < 32) (hhi : hi < 32) (o : Opq S loc σ1 M N q (nI kd) (nI lo) (nI hi) num) (hnum : -999 ≤ num ∧ num ≤ 999) (hadd : kd = 5 → -999 ≤ addI (vwd σ1 C t lo) num ∧ addI (vwd σ1 C t lo) num ≤ 999) {post : Int32 → MS → Prop} (hp : ∀ S', Mid S' l1 l2 l3 l4 (locO loc (1000 + (24 * t + z)) q) (owO ow (1000 + (24 * t + z)) q) σ (opG σ1 C t z (cP σ1 t z) kd lo hi num (caV kd lo hi num (vwd σ1 C t))) M C N → (∀ x, x ≠ q → x ≠ loc 6 → x ≠ loc (200 + t) → x ≠ loc (300 + t) → x ≠ loc (400 + t) → x ≠ loc (500 + t) → Sm S S' x) → post (caV kd lo hi num (vwd σ1 C t)) S') : w_X5_perform S l1 (loc (200 + t)) q post := by
  have u6 : Us σ1 M N 6 := us_s (by omega) (by omega)
  refine ⟨h.k1, cl_viewOf h ht (fun S2 h2 sm2 v2 => ?_)⟩
  have q6 : q ≠ loc 6 := Ne.symm (o.2.2.1 6 u6)
  have o2 := o.sm (sm2 q q6)
  obtain ⟨w1, w2, w3⟩ := h2.vwr
  refine ⟨o2.1, cl_carryOut q6 o2.1 o2.2.2.2.1 hkd o2.2.2.2.2.1 hlo (fun _ => ⟨o2.2.2.2.2.2.1, hhi⟩) o2.2.2.2.2.2.2 (fun _ => hnum.1) w2 w3 v2 (fun S5 hS5 _ => ?_)⟩
  have h5 : Mid S5 l1 l2 l3 l4 loc ow σ σ1 M C N ∧ (∀ x, x ≠ loc 6 → Sm S2 S5 x) := by
    rcases hS5 with e | ⟨v, e⟩
    · rw [e]; exact ⟨h2, fun x _ => Sm.rf _ x⟩
    · rw [e]; exact ⟨mid_scr h2 (Or.inl rfl), fun x hx => sm_pI hx⟩
  obtain ⟨a1, a2, a3⟩ := h5.1.his
  rw [a1, a3]
  refine ⟨h5.1.k1, a2, (h5.1.tx ht).1, ?_⟩
  have i999 : ∀ {v : Int32}, -999 ≤ v ∧ v ≤ 999 → -1000 ≤ v.toInt ∧ v.toInt ≤ 999 := fun {v} hv => by
    have e1 : (-999 : Int32).toInt = -999 := by decide
    have e2 : (999 : Int32).toInt = 999 := by decide
    have h1 := hv.1
    have h2 := hv.2
    rw [fa_le] at h1 h2
    omega
  refine cl_keep h5.1 ht hst hz h24 hkd hlo hhi (o2.sm (h5.2 q q6)) (fun _ => hnum.1) (fun e => by subst e; rfl) (fun e => by subst e; rfl) (fun e => ?_) (fun S' h' sm' => hp S' h' (fun x x1 x2 x3 x4 x5 x6 => (sm2 x x2).tr ((h5.2 x x2).tr (sm' x x1 x3 x4 x5 x6))))
  rcases e with e | e | e <;> subst e
  · exact i999 hnum
  · show -1000 ≤ (-1000 : Int32).toInt ∧ (-1000 : Int32).toInt ≤ 999
    decide
  · exact i999 (hadd rfl)
end PRF
