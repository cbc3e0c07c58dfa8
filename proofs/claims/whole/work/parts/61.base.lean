/-! what the tie says, piece by piece -/
section MIDS
variable {S : MS} {l1 l2 l3 l4 : Nat} {loc ow : Nat → Nat} {σ σ1 : Sg} {M C N : Nat}
theorem Mid.x (h : Mid S l1 l2 l3 l4 loc ow σ σ1 M C N) : loc 1 = l1 := h.1
theorem Mid.wf (h : Mid S l1 l2 l3 l4 loc ow σ σ1 M C N) : WF σ1 M C N := h.2.2.2.2.2.2.2.2.2.2.1
theorem Mid.rc (h : Mid S l1 l2 l3 l4 loc ow σ σ1 M C N) : RC S loc σ1 M C N := h.2.2.2.2.2.2.2.2.2.2.2.1
theorem Mid.rm (h : Mid S l1 l2 l3 l4 loc ow σ σ1 M C N) : RM l2 (sR S l2) S σ := h.2.2.2.2.2.2.2.2.2.2.2.2.1
theorem Mid.owr (h : Mid S l1 l2 l3 l4 loc ow σ σ1 M C N) : ∀ r, Us σ1 M N r → ow (loc r) = r ∧ kT S (loc r) ≠ 0 := h.2.2.2.2.2.2.2.2.1
theorem Mid.st (h : Mid S l1 l2 l3 l4 loc ow σ σ1 M C N) : StR S loc σ1 := h.rc.1
theorem Mid.tx (h : Mid S l1 l2 l3 l4 loc ow σ σ1 M C N) {t : Nat} (ht : t < M) : TxR S loc σ1 t := h.rc.2.2.1 t ht
theorem Mid.ky (h : Mid S l1 l2 l3 l4 loc ow σ σ1 M C N) {t k : Nat} (ht : t < M) (hk : k < 32) : KyR S loc σ1 t k := h.rc.2.2.2.1 t ht k hk
theorem Mid.k1 (h : Mid S l1 l2 l3 l4 loc ow σ σ1 M C N) : kT S l1 = 6 := by rw [← h.1]; exact h.st.1
theorem Mid.M80 (h : Mid S l1 l2 l3 l4 loc ow σ σ1 M C N) : M ≤ 80 := h.wf.2.1
theorem Mid.C60 (h : Mid S l1 l2 l3 l4 loc ow σ σ1 M C N) : C ≤ 60 := h.wf.2.2.2.1
theorem Mid.many (h : Mid S l1 l2 l3 l4 loc ow σ σ1 M C N) : sI S l1 6 = nI M := by
  obtain ⟨-, -, -, -, -, -, -, -, -, -, -, -, -, -, -, -, -, -, -, -, -, -, -, -, -, -, -, -, -, e, -⟩ := h.st
  rw [← h.1, e, h.wf.1]
theorem Mid.trs (h : Mid S l1 l2 l3 l4 loc ow σ σ1 M C N) : sR S l1 1 = loc 3 ∧ kT S (loc 3) = 13 ∧ kL S (loc 3) = 80 := by
  obtain ⟨-, -, a, b, -, -, -, -, -, -, -, -, -, -, -, -, -, -, -, -, e, -⟩ := h.st
  rw [← h.1]
  exact ⟨e, a, b⟩
theorem Mid.his (h : Mid S l1 l2 l3 l4 loc ow σ σ1 M C N) : sR S l1 0 = loc 2 ∧ kT S (loc 2) = 2 ∧ sI S (loc 2) 2 = nI C := by
  obtain ⟨-, a, -, -, -, -, -, -, -, -, -, -, -, -, -, -, -, -, -, e, -, -, -, -, -, -, -, -, -, -, -, -, -, -, -, f, -⟩ := h.st
  rw [← h.1]
  exact ⟨e, a, f.trans h.wf.2.2.1⟩
theorem Mid.nz (h : Mid S l1 l2 l3 l4 loc ow σ σ1 M C N) {r : Nat} (hr : Us σ1 M N r) : loc r ≠ 0 := h.2.2.2.2.2.2.2.2.2.1 _ (h.owr r hr).2
/-- only longs or doubles changed -/
theorem mid_ld {S' : MS} (h : Mid S l1 l2 l3 l4 loc ow σ σ1 M C N) (h1 : S'.1 = S.1) (h2 : sI S' = sI S) (h3 : sR S' = sR S) : Mid S' l1 l2 l3 l4 loc ow σ σ1 M C N := by
  have kt : ∀ a, kT S' a = kT S a := fun a => by unfold kT; rw [h1]
  have kl : ∀ a, kL S' a = kL S a := fun a => by unfold kL; rw [h1]
  obtain ⟨m1, m2, m3, m4, m5, m6, m7, m8, m9, m10, m11, m12, m13, m14⟩ := h
  refine ⟨m1, m2, m3, m4, by rw [kt]; exact m5, by rw [kl]; exact m6, by rw [kt]; exact m7, by rw [kl]; exact m8, fun r hr => by rw [kt]; exact m9 r hr, fun a ha => m10 a (by rw [← kt]; exact ha), m11, rc_same m11.2.1 m11.2.2.2.1 m11.2.2.2.2.2.1 ⟨fun r _ _ _ _ => ⟨by rw [h1], by rw [h2], by rw [h3]⟩, by rw [h1], by rw [h1]⟩ m12, ?_, fun k => by rw [h3]; exact m14 k⟩
  rw [h3]
  obtain ⟨r1, r2, r3, r4, r5, r6, r7⟩ := m13
  exact ⟨by rw [h2]; exact r1, by rw [h3], fun k => by rw [h2]; exact r3 k, by rw [kt]; exact r4, fun k hk => by rw [kt, kl]; exact r5 k hk, r6, r7⟩
theorem wr_ret {post : Int32 → MS → Prop} (h : Mid S l1 l2 l3 l4 loc ow σ σ1 M C N) {r : Int64} (hp : ∀ S6, Mid S6 l1 l2 l3 l4 loc ow σ σ1 M C N → sL S6 l3 0 = r → post 0 S6) : kT S l3 = 15 ∧ vp_in 0 (kL S l3) ∧ ∀ S6 : MS, S6 = pL S l3 (ix 0) r → post 0 S6 := by
  refine ⟨h.2.2.2.2.1, by rw [h.2.2.2.2.2.1]; exact vp1, fun S6 h6 => hp S6 (mid_ld h (by rw [h6]; rfl) (by rw [h6]; rfl) (by rw [h6]; rfl)) ?_⟩
  rw [h6, sL_pL, ix0]
  simp
theorem wr_retD {post : Int32 → MS → Prop} (h : Mid S l1 l2 l3 l4 loc ow σ σ1 M C N) {r : UInt64} (hp : ∀ S6, Mid S6 l1 l2 l3 l4 loc ow σ σ1 M C N → sD S6 l4 0 = r → post 0 S6) : kT S l4 = 16 ∧ vp_in 0 (kL S l4) ∧ ∀ S6 : MS, S6 = pD S l4 (ix 0) r → post 0 S6 := by
  refine ⟨h.2.2.2.2.2.2.1, by rw [h.2.2.2.2.2.2.2.1]; exact vp1, fun S6 h6 => hp S6 (mid_ld h (by rw [h6]; rfl) (by rw [h6]; rfl) (by rw [h6]; rfl)) ?_⟩
  rw [h6, sD_pD, ix0]
  simp
end MIDS
theorem ix_nI {n : Nat} (h : n < 2 ^ 31) : ix (nI n) = n := nI_clamp h
theorem neg_nI {x : Int32} {n : Nat} (hn : n < 2 ^ 31) (h : x < 0 ∨ nI n ≤ x) {t : Nat} (ht : t < n) : x ≠ nI t := fun e => by
  rcases h with h | h
  · rw [e] at h; exact nI_pos (by omega) h
  · rw [e] at h; exact nI_ge ht (by omega) h
/-- find: the transaction's address, or IndexOutOfBoundsException -/
theorem cl_find {S : MS} {l1 l2 l3 l4 : Nat} {loc ow : Nat → Nat} {σ σ1 : Sg} {M C N : Nat} (h : Mid S l1 l2 l3 l4 loc ow σ σ1 M C N) {a : Int32} {post : Nat → MS → Prop} {xp : String → MS → Prop} (hp : ∀ t, t < M → a = nI t → post (loc (200 + t)) S) (hx : (a < 0 ∨ nI M ≤ a) → xp "java/lang/IndexOutOfBoundsException" S) : w_X5_find S l1 a post xp := by
  have hM := h.M80
  unfold w_X5_find b_X5_find_21 b_X5_find_22
  refine ⟨fun ha => ⟨fun h0 => absurd rfl h0, fun _ => hx (Or.inl ha)⟩, fun ha => ⟨h.k1, ?_⟩⟩
  rw [h.many]
  refine ⟨fun hb => ⟨fun h0 => absurd rfl h0, fun _ => hx (Or.inr hb)⟩, fun hb => ?_⟩
  obtain ⟨t1, t2, t3⟩ := h.trs
  rw [t1, t3]
  rcases pk_ix a (n := M) (by omega) with q | q | ⟨t, ht, rfl⟩
  · exact absurd q ha
  · exact absurd q hb
  · refine ⟨t2, vp_in_nI (by omega) (by omega), ?_⟩
    rw [ix_nI (by omega), (h.tx ht).2.1]
    exact ⟨fun _ => hp t ht rfl, fun h0 => absurd h0 (h.nz (us_t ht).1)⟩
theorem cl_findA {S : MS} {l1 l2 l3 l4 : Nat} {loc ow : Nat → Nat} {σ σ1 : Sg} {M C N : Nat} (h : Mid S l1 l2 l3 l4 loc ow σ σ1 M C N) {a : Int32} {post : Nat → MS → Prop} {xp : String → MS → Prop} (hp : ∀ t, t < M → a = nI t → σ1.2 2 t = 0 → post (loc (200 + t)) S) (hx : (a < 0 ∨ nI M ≤ a) → xp "java/lang/IndexOutOfBoundsException" S) (hy : ∀ t, t < M → a = nI t → ¬ σ1.2 2 t = 0 → xp "java/lang/IllegalStateException" S) : w_X5_findActive S l1 a post xp := by
  unfold w_X5_findActive
  refine ⟨h.k1, cl_find h (fun t ht e => ?_) hx⟩
  obtain ⟨b1, b2, b3, b4, b5, b6, b7, b8, b9, b10, b11, b12, b13, b14, b15, b16, b17, b18⟩ := h.tx ht
  refine ⟨b1, ?_⟩
  rw [b15]
  exact ⟨fun h0 => hp t ht e h0, fun h0 => hy t ht e h0⟩
/-! the reference's first rows -/
theorem zb0 : narrow .boolean (.int 0) = .int 0 := rfl
theorem zb1 : narrow .boolean (.int 1) = .int 1 := rfl
theorem rf_isIn {σ : Sg} {a b c : Int32} {P : Int32 → Sg → Prop} (h1 : b ≤ a ∧ a ≤ c → P 1 σ) (h0 : ¬ (b ≤ a ∧ a ≤ c) → P 0 σ) : v_X6_isIn σ a b c P := by
  unfold v_X6_isIn bv_X6_isIn_14 bv_X6_isIn_15
  refine ⟨fun h => ⟨zb0, h0 (fun q => ?_)⟩, fun h => ⟨fun g => ⟨zb0, h0 (fun q => ?_)⟩, fun g => ⟨zb1, h1 ⟨?_, ?_⟩⟩⟩⟩
  · exact (fa_of_lt h).2.1 q.1
  · exact (fa_of_lt g).2.1 q.2
  · exact fa_of_nlt h
  · exact fa_of_nlt g
theorem nI_m1 {M : Nat} (h : 0 < M) : nI M - 1 = nI (M - 1) := by
  obtain ⟨k, rfl⟩ : ∃ k, M = k + 1 := ⟨M - 1, by omega⟩
  rw [nI_pred]; rfl
theorem in_nI {a : Int32} {M : Nat} (hM : M < 2 ^ 30) : ((0 : Int32) ≤ a ∧ a ≤ nI M - 1) ↔ ∃ t, t < M ∧ a = nI t := by
  constructor
  · intro h
    rcases pk_ix a (n := M) (by omega) with q | q | q
    · exact absurd h.1 (fa_of_lt q).2.1
    · exfalso
      rw [fa_le, nI_toInt (by omega)] at q
      have h2 := h.2
      rw [fa_le, fb_subI (by rw [nI_toInt (by omega)]; show _ ≤ (M : Int) - 1; omega) (by rw [nI_toInt (by omega)]; show (M : Int) - 1 < _; omega), nI_toInt (by omega)] at h2
      have h3 : a.toInt ≤ (M : Int) - 1 := h2
      omega
    · exact q
  · rintro ⟨t, ht, rfl⟩
    refine ⟨nI_pos' (by omega), ?_⟩
    rw [nI_m1 (by omega)]
    exact nI_le (by omega) (by omega)
theorem rf_isTx {σ : Sg} {M C N : Nat} (hw : WF σ M C N) {a : Int32} {P : Int32 → Sg → Prop} (h1 : ∀ t, t < M → a = nI t → P 1 σ) (h0 : (a < 0 ∨ nI M ≤ a) → P 0 σ) : v_X6_isTransaction σ a P := by
  have hM := hw.2.1
  unfold v_X6_isTransaction
  rw [hw.1]
  refine rf_isIn (fun h => ⟨zb1, ?_⟩) (fun h => ⟨zb0, h0 ?_⟩)
  · obtain ⟨t, ht, e⟩ := (in_nI (by omega)).mp h
    exact h1 t ht e
  · rcases pk_ix a (n := M) (by omega) with q | q | q
    · exact Or.inl q
    · exact Or.inr q
    · exact absurd ((in_nI (by omega)).mpr q) h
theorem rf_fail {σ : Sg} {a : Int32} {P : Int32 → Sg → Prop} (h : P 0 (sF σ 0 a)) : v_X6_fail σ a P := by
  unfold v_X6_fail
  intro σ1 e
  rw [e]
  exact h
theorem ne10 : ¬ (1 : Int32) = 0 := by decide
theorem sF_sF (σ : Sg) (a b : Int32) : sF (sF σ 0 a) 0 b = sF σ 0 b := by
  unfold sF
  simp only
  congr 1
  funext j
  by_cases hj : j = 0 <;> simp [hj]
