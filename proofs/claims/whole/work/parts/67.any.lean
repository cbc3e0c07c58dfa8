/-! truth values -/
noncomputable def bI (p : Prop) : Int32 := @ite Int32 p (Classical.propDecidable p) 1 0
theorem bI_1 {p : Prop} (h : p) : bI p = 1 := @if_pos p (Classical.propDecidable p) h _ _ _
theorem bI_0 {p : Prop} (h : ¬ p) : bI p = 0 := @if_neg p (Classical.propDecidable p) h _ _ _
theorem bI_z {p : Prop} : bI p = 0 ↔ ¬ p := ⟨fun h q => ne10 (by rw [← bI_1 q]; exact h), bI_0⟩
theorem bI_nz {p : Prop} : ¬ bI p = 0 ↔ p := by rw [bI_z]; exact Classical.not_not
theorem bI_n (p : Prop) : narrow .boolean (.int (bI p)) = .int (bI p) := by
  rcases Classical.em p with h | h
  · rw [bI_1 h]; rfl
  · rw [bI_0 h]; rfl
theorem bI_c {p q : Prop} (h : p ↔ q) : bI p = bI q := by rw [propext h]
/-- some number below i -/
def exq (P : Nat → Prop) (i : Nat) : Prop := ∃ j, j < i ∧ P j
theorem exq_0 {P : Nat → Prop} : ¬ exq P 0 := fun ⟨_, h, _⟩ => Nat.not_lt_zero _ h
theorem exq_s {P : Nat → Prop} {i : Nat} : exq P (i + 1) ↔ exq P i ∨ P i := by
  constructor
  · rintro ⟨j, hj, h⟩
    by_cases e : j = i
    · exact Or.inr (e ▸ h)
    · exact Or.inl ⟨j, by omega, h⟩
  · rintro (⟨j, hj, h⟩ | h)
    · exact ⟨j, by omega, h⟩
    · exact ⟨i, by omega, h⟩
theorem exq_c {P Q : Nat → Prop} {n : Nat} (h : ∀ j, j < n → (P j ↔ Q j)) : exq P n ↔ exq Q n := ⟨fun ⟨j, hj, q⟩ => ⟨j, hj, (h j hj).mp q⟩, fun ⟨j, hj, q⟩ => ⟨j, hj, (h j hj).mpr q⟩⟩
theorem ex1 {P : Nat → Prop} {i : Nat} (h : ¬ bI (exq P i) = 0) : bI (exq P (i + 1)) = 1 := bI_1 (exq_s.mpr (Or.inl (bI_nz.mp h)))
theorem ex2 {P : Nat → Prop} {i : Nat} (h : P i) : bI (exq P (i + 1)) = 1 := bI_1 (exq_s.mpr (Or.inr h))
theorem ex3 {P : Nat → Prop} {i : Nat} (h : bI (exq P i) = 0) (h2 : ¬ P i) : bI (exq P (i + 1)) = 0 := bI_0 (fun q => (exq_s.mp q).elim (bI_z.mp h) h2)
/-! bits -/
theorem bt_1 : ∀ j, j < 32 → bt 1 j = decide (j = 0) := by decide +kernel
theorem bt_sh {k i : Nat} (hk : k < 32) (hi : i < 32) : bt ((1 : Int32) <<< (nI k &&& 31)) i = decide (i = k) := by
  rw [b_shl k hk 1 hi, bt_1 _ (by omega)]
  by_cases h1 : k ≤ i
  · by_cases h2 : i = k
    · subst h2; simp
    · have : ¬ i - k = 0 := by omega
      simp [h2, this]
  · have : ¬ i = k := by omega
    simp [h1, this]
theorem nz_bt {x : Int32} : ¬ x = 0 ↔ ∃ k, k < 32 ∧ bt x k = true := by
  constructor
  · intro h
    refine Classical.byContradiction (fun q => h (b_ext (fun i hi => ?_)))
    rw [b_0]
    exact ts_nt (fun e => q ⟨i, hi, e⟩)
  · rintro ⟨k, _, hq⟩ rfl
    rw [b_0] at hq
    exact absurd hq (by decide)
theorem hb_bt {w : Int32} {k : Nat} (hk : k < 32) : hb w k ↔ bt w k = true := by
  unfold hb
  rw [nz_bt]
  constructor
  · rintro ⟨i, hi, h⟩
    rw [b_and, bt_sh hk hi, Bool.and_eq_true, decide_eq_true_eq] at h
    rw [← h.2]; exact h.1
  · intro h
    exact ⟨k, hk, by rw [b_and, bt_sh hk hk, h]; simp⟩
theorem hb_or {w : Int32} {k j : Nat} (hk : k < 32) (hj : j < 32) : hb (w ||| ((1 : Int32) <<< (nI k &&& 31))) j ↔ hb w j ∨ j = k := by
  rw [hb_bt hj, hb_bt hj, b_or, bt_sh hk hj, Bool.or_eq_true, decide_eq_true_eq]
theorem and_nz {x y : Int32} : ¬ (x &&& y) = 0 ↔ ∃ k, k < 32 ∧ hb x k ∧ hb y k := by
  rw [nz_bt]
  constructor
  · rintro ⟨k, hk, h⟩
    rw [b_and, Bool.and_eq_true] at h
    exact ⟨k, hk, (hb_bt hk).mpr h.1, (hb_bt hk).mpr h.2⟩
  · rintro ⟨k, hk, h1, h2⟩
    exact ⟨k, hk, by rw [b_and, (hb_bt hk).mp h1, (hb_bt hk).mp h2]; rfl⟩
theorem hb_and {x y : Int32} {k : Nat} (hk : k < 32) : hb (x &&& y) k ↔ hb x k ∧ hb y k := by
  rw [hb_bt hk, hb_bt hk, hb_bt hk, b_and, Bool.and_eq_true]
theorem hb_not {x : Int32} {k : Nat} (hk : k < 32) : hb (x ^^^ (-1)) k ↔ ¬ hb x k := by
  rw [hb_bt hk, hb_bt hk, b_xor, b_m1 k hk]
  cases bt x k <;> simp
theorem hb_z {k : Nat} (hk : k < 32) : ¬ hb 0 k := by
  rw [hb_bt hk, b_0]; decide
theorem hb_ext {x y : Int32} (h : ∀ k, k < 32 → (hb x k ↔ hb y k)) : x = y := b_ext (fun i hi => by
  have := h i hi
  rw [hb_bt hi, hb_bt hi] at this
  cases e : bt x i <;> cases e2 : bt y i <;> simp_all)
/-- the word of a set of keys -/
noncomputable def orW (P : Nat → Prop) : Nat → Int32
  | 0 => 0
  | n + 1 => orW P n ||| (@ite Int32 (P n) (Classical.propDecidable _) ((1 : Int32) <<< (nI n &&& 31)) 0)
theorem orW_hb {P : Nat → Prop} {k : Nat} (hk : k < 32) : ∀ n, n ≤ 32 → (hb (orW P n) k ↔ k < n ∧ P k)
  | 0, _ => by
    rw [orW]
    exact ⟨fun h => absurd h (hb_z hk), fun h => absurd h.1 (by omega)⟩
  | n + 1, hn => by
    have ih := orW_hb (P := P) hk n (by omega)
    rw [orW]
    by_cases hP : P n
    · rw [@if_pos _ (Classical.propDecidable _) hP, hb_or (by omega) hk, ih]
      constructor
      · rintro (h | h)
        · exact ⟨by omega, h.2⟩
        · exact ⟨by omega, h ▸ hP⟩
      · rintro ⟨h1, h2⟩
        by_cases e : k = n
        · exact Or.inr e
        · exact Or.inl ⟨by omega, h2⟩
    · rw [@if_neg _ (Classical.propDecidable _) hP, Int32.or_zero, ih]
      constructor
      · rintro ⟨h1, h2⟩; exact ⟨by omega, h2⟩
      · rintro ⟨h1, h2⟩
        refine ⟨?_, h2⟩
        by_cases e : k = n
        · exact absurd (e ▸ h2) hP
        · omega
theorem orW_eq {P : Nat → Prop} {w : Int32} (h : ∀ k, k < 32 → (hb w k ↔ P k)) : w = orW P 32 := hb_ext (fun k hk => by rw [h k hk, orW_hb hk 32 (by omega)]; exact ⟨fun q => ⟨hk, q⟩, fun q => q.2⟩)
def Wk (σ : Sg) (t k : Nat) : Prop := ¬ σ.2 10 (32 * t + k) = -5000
def Rk (σ : Sg) (t k : Nat) : Prop := ¬ σ.2 9 (32 * t + k) = -1
theorem Mid.op {S : MS} {l1 l2 l3 l4 : Nat} {loc ow : Nat → Nat} {σ σ1 : Sg} {M C N : Nat} (h : Mid S l1 l2 l3 l4 loc ow σ σ1 M C N) {t i z : Nat} (ht : t < M) (hz : σ1.2 7 t = nI z) (h24 : z ≤ 24) (hi : i < z) : OpR S loc σ1 t i := h.rc.2.2.2.2.1 t ht i z hz h24 hi
theorem Mid.sz {S : MS} {l1 l2 l3 l4 : Nat} {loc ow : Nat → Nat} {σ σ1 : Sg} {M C N : Nat} (h : Mid S l1 l2 l3 l4 loc ow σ σ1 M C N) {t : Nat} (ht : t < M) : ∃ z, z ≤ 24 ∧ σ1.2 7 t = nI z ∧ σ1.2 12 t = nI (cP σ1 t z) := (h.wf.2.2.2.2.2.2.1 t ht).2.1
/-! recordedKeys, writtenKeys, predicateCount -/
theorem i32_lt32 {k : Nat} (hk : k < 32) : ¬ (32 : Int32) ≤ nI k := show ¬ nI 32 ≤ nI k from nI_ge hk (by omega)
theorem rf_rk_loop {σ : Sg} {t : Nat} (ht : t < 80) {P : Int32 → Sg → Prop} (hp : P (orW (Rk σ t) 32) σ) : ∀ n i, i + n = 32 → bv_X6_recordedKeys_23 P (n + 1) σ (nI t) (orW (Rk σ t) i) (nI i) := by
  intro n
  induction n with
  | zero =>
    intro i hi
    have e : i = 32 := by omega
    subst e
    rw [bv_X6_recordedKeys_23]
    exact ⟨fun _ => hp, fun q => absurd (Int32.le_refl _) q⟩
  | succ n ih =>
    intro i hi
    rw [bv_X6_recordedKeys_23]
    simp only [bv_X6_recordedKeys_52]
    rw [mul32, ix_nI (by omega)]
    have hs := ih (i + 1) (by omega)
    refine ⟨fun q => absurd q (i32_lt32 (by omega)), fun _ => ⟨vp_in_nI (by omega) (by omega), fun q v hv w hw => ?_, fun q v hv w hw => ?_⟩⟩
    · rw [hv, hw, nI_1]
      rw [orW, @if_pos (_) (Classical.propDecidable _) (show Rk σ t i from q)] at hs
      exact hs
    · rw [hv, hw, nI_1]
      rw [orW, @if_neg (_) (Classical.propDecidable _) (show ¬ Rk σ t i from fun x => x q)] at hs
      exact hs
theorem rf_wk_loop {σ : Sg} {t : Nat} (ht : t < 80) {P : Int32 → Sg → Prop} (hp : P (orW (Wk σ t) 32) σ) : ∀ n i, i + n = 32 → bv_X6_writtenKeys_23 P (n + 1) σ (nI t) (orW (Wk σ t) i) (nI i) := by
  intro n
  induction n with
  | zero =>
    intro i hi
    have e : i = 32 := by omega
    subst e
    rw [bv_X6_writtenKeys_23]
    exact ⟨fun _ => hp, fun q => absurd (Int32.le_refl _) q⟩
  | succ n ih =>
    intro i hi
    rw [bv_X6_writtenKeys_23]
    simp only [bv_X6_writtenKeys_54]
    rw [mul32, ix_nI (by omega)]
    have hs := ih (i + 1) (by omega)
    refine ⟨fun q => absurd q (i32_lt32 (by omega)), fun _ => ⟨vp_in_nI (by omega) (by omega), fun q v hv w hw => ?_, fun q v hv w hw => ?_⟩⟩
    · rw [hv, hw, nI_1]
      rw [orW, @if_pos (_) (Classical.propDecidable _) (show Wk σ t i from q)] at hs
      exact hs
    · rw [hv, hw, nI_1]
      rw [orW, @if_neg (_) (Classical.propDecidable _) (show ¬ Wk σ t i from fun x => x q)] at hs
      exact hs
theorem sp_recordedKeys : Sp_recordedKeys := by
  intro S l1 l2 l3 l4 loc ow σ M C N x0 post h hp
  have h : Mid S l1 l2 l3 l4 loc ow σ σ M C N := h
  have hM := h.M80
  have hw := wf_eqv (eqv.th σ 0) h.wf
  unfold w_L_recordedKeys w_X5_recordedKeys
  refine ⟨h.k1, h.k1, cl_find h (fun t ht e => ?_) (fun hx => ⟨rfl, hp 1 S σ 0 ?_ ⟨loc, ow, M, C, N, h⟩ (fun q => absurd q ne10)⟩)⟩
  · refine ⟨(h.tx ht).1, wr_ret h (fun S6 h6 hs6 => hp 0 S6 σ _ ?_ ⟨loc, ow, M, C, N, h6⟩ (fun _ => hs6))⟩
    unfold v_X6_recordedKeys
    intro σ1 e1
    rw [e1, e]
    refine rf_isTx hw (fun t2 ht2 e2 => ⟨fun _ => ⟨33, rf_rk_loop (by omega) ⟨eqv.th σ 0, rfl, fun _ => ?_⟩ 32 0 (by omega)⟩, fun q => absurd q ne10⟩) (fun q => absurd rfl (neg_nI (by omega) q ht))
    exact (orW_eq (P := Rk (sF σ 0 0) t) (fun k hk => (h.ky ht hk).1)).symm
  · unfold v_X6_recordedKeys
    intro σ1 e1
    rw [e1]
    refine rf_isTx hw (fun t2 ht2 e2 => absurd e2 (neg_nI (by omega) hx ht2)) (fun q => ⟨fun q => absurd rfl q, fun _ => rf_fail ⟨?_, rfl, fun q => absurd q ne10⟩⟩)
    rw [sF_sF]
    exact eqv.th σ 1
theorem sp_writtenKeys : Sp_writtenKeys := by
  intro S l1 l2 l3 l4 loc ow σ M C N x0 post h hp
  have h : Mid S l1 l2 l3 l4 loc ow σ σ M C N := h
  have hM := h.M80
  have hw := wf_eqv (eqv.th σ 0) h.wf
  unfold w_L_writtenKeys w_X5_writtenKeys
  refine ⟨h.k1, h.k1, cl_find h (fun t ht e => ?_) (fun hx => ⟨rfl, hp 1 S σ 0 ?_ ⟨loc, ow, M, C, N, h⟩ (fun q => absurd q ne10)⟩)⟩
  · refine ⟨(h.tx ht).1, wr_ret h (fun S6 h6 hs6 => hp 0 S6 σ _ ?_ ⟨loc, ow, M, C, N, h6⟩ (fun _ => hs6))⟩
    unfold v_X6_writtenKeys
    intro σ1 e1
    rw [e1, e]
    refine rf_isTx hw (fun t2 ht2 e2 => ⟨fun _ => ⟨33, rf_wk_loop (by omega) ⟨eqv.th σ 0, rfl, fun _ => ?_⟩ 32 0 (by omega)⟩, fun q => absurd q ne10⟩) (fun q => absurd rfl (neg_nI (by omega) q ht))
    exact (orW_eq (P := Wk (sF σ 0 0) t) (fun k hk => (h.ky ht hk).2.2.1)).symm
  · unfold v_X6_writtenKeys
    intro σ1 e1
    rw [e1]
    refine rf_isTx hw (fun t2 ht2 e2 => absurd e2 (neg_nI (by omega) hx ht2)) (fun q => ⟨fun q => absurd rfl q, fun _ => rf_fail ⟨?_, rfl, fun q => absurd q ne10⟩⟩)
    rw [sF_sF]
    exact eqv.th σ 1
section PRD
variable {S : MS} {l1 l2 l3 l4 : Nat} {loc ow : Nat → Nat} {σ σ1 : Sg} {M C N : Nat}
theorem cl_isPred {t i : Nat} (o : OpR S loc σ1 t i) {post : Int32 → MS → Prop} (hp : post (bI (isPr σ1 t i = true)) S) : w_X2_isPredicate S (loc (1000 + (24 * t + i))) post := by
  obtain ⟨o1, o2, o3, -⟩ := o
  unfold w_X2_isPredicate b_X2_isPredicate_16 b_X2_isPredicate_21
  rw [o3]
  unfold isPr at hp
  refine ⟨o1, fun q => ⟨zb1, ?_⟩, fun q => ⟨fun q2 => ⟨zb0, ?_⟩, fun q2 => ⟨zb1, ?_⟩⟩⟩
  · rw [bI_1 (by simp [q])] at hp; exact hp
  · rw [bI_0 (by simp [q, q2])] at hp; exact hp
  · rw [bI_1 (by simp [q2])] at hp; exact hp
theorem cl_cp_loop (h : Mid S l1 l2 l3 l4 loc ow σ σ1 M C N) {t z : Nat} (ht : t < M) (hz : σ1.2 7 t = nI z) (h24 : z ≤ 24) {post : Int32 → MS → Prop} (hp : post (nI (cP σ1 t z)) S) : ∀ n i, i + n = z → b_X4_countPredicates_4 post (n + 1) S (loc (200 + t)) (nI (cP σ1 t i)) (nI i) := by
  have hM := h.M80
  obtain ⟨b1, b2, b3, b4, b5, b6, b7, b8, b9, b10, b11, b12, b13, b14, b15, b16, b17, b18⟩ := h.tx ht
  intro n
  induction n with
  | zero =>
    intro i hi
    have e : i = z := by omega
    subst e
    rw [b_X4_countPredicates_4]
    refine ⟨b1, ?_⟩
    rw [b14, hz]
    exact ⟨fun _ => hp, fun q => absurd (Int32.le_refl _) q⟩
  | succ n ih =>
    intro i hi
    have o := h.op ht hz h24 (show i < z by omega)
    rw [b_X4_countPredicates_4]
    simp only [b_X4_countPredicates_33]
    refine ⟨b1, ?_⟩
    rw [b14, hz, b3, b7, ix_nI (by omega), o.2.1]
    refine ⟨fun q => absurd q (nI_ge (by omega) (by omega)), fun _ => ⟨b6, vp_in_nI (by omega) (by omega), fun r4 hr4 => ?_⟩⟩
    rw [hr4]
    have hs := ih (i + 1) (by omega)
    refine ⟨fun q => absurd q (h.nz (us_z ht hz h24 (by omega))), fun _ => ⟨o.1, cl_isPred o ⟨fun q v hv => ?_, fun q v hv w hw => ?_⟩⟩⟩
    · rw [hv, nI_1]
      rw [cP, if_neg (bI_z.mp q)] at hs
      exact hs
    · rw [hw, hv, nI_1, nI_1]
      rw [cP, if_pos (bI_nz.mp q)] at hs
      exact hs
end PRD
theorem sp_predicateCount : Sp_predicateCount := by
  intro S l1 l2 l3 l4 loc ow σ M C N x0 post h hp
  have h : Mid S l1 l2 l3 l4 loc ow σ σ M C N := h
  have hM := h.M80
  have hw := wf_eqv (eqv.th σ 0) h.wf
  unfold w_L_predicateCount w_X5_predicateCount
  refine ⟨h.k1, h.k1, cl_find h (fun t ht e => ?_) (fun hx => ⟨rfl, hp 1 S σ 0 ?_ ⟨loc, ow, M, C, N, h⟩ (fun q => absurd q ne10)⟩)⟩
  · obtain ⟨z, h24, hz, hz2⟩ := h.sz ht
    refine ⟨(h.tx ht).1, z + 1, cl_cp_loop h ht hz h24 ?_ z 0 (by omega)⟩
    refine wr_ret h (fun S6 h6 hs6 => hp 0 S6 σ _ ?_ ⟨loc, ow, M, C, N, h6⟩ (fun _ => hs6))
    unfold v_X6_predicateCount bv_X6_predicateCount_27
    intro σ1 e1
    rw [e1, e]
    refine rf_isTx hw (fun t2 ht2 e2 => ⟨fun q => absurd q ne10, fun _ => ⟨vp80 ht hM, eqv.th σ 0, rfl, fun _ => ?_⟩⟩) (fun q => absurd rfl (neg_nI (by omega) q ht))
    rw [ix_nI (by omega)]
    exact hz2
  · unfold v_X6_predicateCount bv_X6_predicateCount_27
    intro σ1 e1
    rw [e1]
    refine rf_isTx hw (fun t2 ht2 e2 => absurd e2 (neg_nI (by omega) hx ht2)) (fun q => ⟨fun _ => rf_fail ⟨?_, rfl, fun q => absurd q ne10⟩, fun q => absurd rfl q⟩)
    rw [sF_sF]
    exact eqv.th σ 1
