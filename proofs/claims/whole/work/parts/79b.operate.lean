/-! operate, and the six operations -/
def gd (lo hi num : Int32) : Prop := (0 ≤ lo ∧ lo ≤ hi ∧ hi ≤ 31) ∧ -999 ≤ num ∧ num ≤ 999
theorem gd_nI {lo hi num : Int32} (h : gd lo hi num) : ∃ a b : Nat, a ≤ b ∧ b < 32 ∧ lo = nI a ∧ hi = nI b := by
  obtain ⟨⟨h1, h2, h3⟩, -⟩ := h
  have h4 : lo ≤ 31 := Int32.le_trans h2 h3
  have h5 : (0 : Int32) ≤ hi := Int32.le_trans h1 h2
  obtain ⟨a, ha, ea⟩ := key_nI.mp ⟨h1, h4⟩
  obtain ⟨b, hb, eb⟩ := key_nI.mp ⟨h5, h3⟩
  refine ⟨a, b, ?_, hb, ea, eb⟩
  rw [ea, eb, nI_leI (by omega) (by omega)] at h2
  exact h2
section OPE
variable {S S' : MS} {l1 l2 l3 l4 : Nat} {loc ow : Nat → Nat} {σ σ1 : Sg} {M C N : Nat}
theorem cl_wellFormed {q : Nat} {kd lo hi num : Int32} (o : Opq S loc σ1 M N q kd lo hi num) {post : Int32 → MS → Prop} (h1 : gd lo hi num → post 1 S) (h0 : ¬ gd lo hi num → post 0 S) : w_X2_isWellFormed S q post := by
  obtain ⟨q1, q2, q3, q4, q5, q6, q7⟩ := o
  unfold w_X2_isWellFormed b_X2_isWellFormed_34 b_X2_isWellFormed_35
  rw [q5, q6]
  refine ⟨q1, cl_isRange (fun g => ⟨fun r => absurd r ne10, fun _ => ⟨q1, ?_⟩⟩) (fun g => ⟨fun _ => ⟨zb0, h0 (fun r => g r.1)⟩, fun r => absurd rfl r⟩)⟩
  rw [q7]
  exact cl_isBetween (fun g2 => ⟨fun r => absurd r ne10, fun _ => ⟨zb1, h1 ⟨g, g2⟩⟩⟩) (fun g2 => ⟨fun _ => ⟨zb0, h0 (fun r => g2 r.2)⟩, fun r => absurd rfl r⟩)
theorem cl_canOperate (h : Mid S l1 l2 l3 l4 loc ow σ σ1 M C N) {t : Nat} (ht : t < M) {post : Int32 → MS → Prop} (h1 : ∀ z, σ1.2 2 t = 0 → σ1.2 7 t = nI z → z < 24 → post 1 S) (h0 : ¬ (σ1.2 2 t = 0 ∧ ¬ σ1.2 7 t = 24) → post 0 S) : w_X4_canOperate S (loc (200 + t)) post := by
  obtain ⟨b1, b2, b3, b4, b5, b6, b7, b8, b9, b10, b11, b12, b13, b14, b15, b16, b17, b18⟩ := h.tx ht
  obtain ⟨z, h24, hz, -⟩ := h.sz ht
  unfold w_X4_canOperate b_X4_canOperate_20 b_X4_canOperate_21
  rw [b15, b14, hz]
  rw [hz] at h0
  refine ⟨b1, fun g => ⟨zb0, h0 (fun r => g r.1)⟩, fun g => ⟨fun g2 => ⟨zb0, h0 (fun r => r.2 ?_)⟩, fun g2 => ⟨zb1, h1 z g hz ?_⟩⟩⟩
  · have : 24 ≤ z := (nI_leI (a := 24) (b := z) (by omega) (by omega)).mp g2
    rw [show z = 24 by omega]; rfl
  · exact Classical.byContradiction (fun r => g2 (show nI 24 ≤ nI z from nI_le (by omega) (by omega)))
/-- an addition that stays in range -/
def adO (σ : Sg) (C t : Nat) (kd lo : Nat) (num : Int32) : Prop := kd = 5 → -999 ≤ addI (vwd σ C t lo) num ∧ addI (vwd σ C t lo) num ≤ 999
theorem cl_stays {q kd lo : Nat} {hi num : Int32} {f : Nat → Int32} {a : Nat} (o : Opq S loc σ1 M N q (nI kd) (nI lo) hi num) (hkd : kd < 6) (hlo : lo < 32) (k1 : kT S a = 9) (k2 : kL S a = 32) (k3 : ∀ k, k < 32 → sI S a k = f k) {post : Int32 → MS → Prop} (h1 : (kd = 5 → -999 ≤ addI (f lo) num ∧ addI (f lo) num ≤ 999) → post 1 S) (h0 : ¬ (kd = 5 → -999 ≤ addI (f lo) num ∧ addI (f lo) num ≤ 999) → post 0 S) : w_X2_staysInRange S q a post := by
  obtain ⟨q1, q2, q3, q4, q5, q6, q7⟩ := o
  have nk : nI kd = 5 ↔ kd = 5 := nI_eq (b := 5) (by omega) (by omega)
  unfold w_X2_staysInRange b_X2_staysInRange_30 b_X2_staysInRange_35
  rw [q4, q5, k2, ix_nI (by omega), k3 lo hlo]
  refine ⟨q1, fun g => ⟨zb1, h1 (fun e => absurd (nk.mpr e) g)⟩, fun g => ⟨k1, vp_in_nI (by omega) (by omega), cl_sumWith q1 ?_⟩⟩
  rw [q7]
  exact cl_isBetween (fun g2 => ⟨fun r => absurd r ne10, fun _ => ⟨zb1, h1 (fun _ => g2)⟩⟩) (fun g2 => ⟨fun _ => ⟨zb0, h0 (fun r => g2 (r (nk.mp g)))⟩, fun r => absurd rfl r⟩)
theorem cl_operate (h : Mid S l1 l2 l3 l4 loc ow σ σ1 M C N) {a lo hi num : Int32} {kd q : Nat} (hkd : kd < 6) (o : Opq S loc σ1 M N q (nI kd) lo hi num) {post : Int32 → MS → Prop} {xp : String → MS → Prop}
    (hx1 : (a < 0 ∨ nI M ≤ a) → xp "java/lang/IndexOutOfBoundsException" S) (hx2 : ∀ t, t < M → a = nI t → ¬ gd lo hi num → xp "java/lang/IllegalArgumentException" S) (hx3 : ∀ t, t < M → a = nI t → gd lo hi num → ¬ (σ1.2 2 t = 0 ∧ ¬ σ1.2 7 t = 24) → xp "java/lang/IllegalStateException" S)
    (hx4 : ∀ t, t < M → a = nI t → gd lo hi num → (σ1.2 2 t = 0 ∧ ¬ σ1.2 7 t = 24) → ∀ lo', lo = nI lo' → lo' < 32 → ¬ adO σ1 C t kd lo' num → ∀ S', Mid S' l1 l2 l3 l4 loc ow σ σ1 M C N → xp "java/lang/ArithmeticException" S')
    (hp : ∀ t z lo' hi', t < M → a = nI t → gd lo hi num → σ1.2 2 t = 0 → σ1.2 7 t = nI z → z < 24 → lo = nI lo' → lo' < 32 → hi = nI hi' → hi' < 32 → adO σ1 C t kd lo' num → ∀ S', Mid S' l1 l2 l3 l4 (locO loc (1000 + (24 * t + z)) q) (owO ow (1000 + (24 * t + z)) q) σ (opG σ1 C t z (cP σ1 t z) kd lo' hi' num (caV kd lo' hi' num (vwd σ1 C t))) M C N → post (caV kd lo' hi' num (vwd σ1 C t)) S') : w_X5_operate S l1 a q post xp := by
  have u6 : Us σ1 M N 6 := us_s (by omega) (by omega)
  refine ⟨h.k1, cl_find h (fun t ht e => ⟨o.1, cl_wellFormed o (fun g => ⟨fun _ => ⟨(h.tx ht).1, cl_canOperate h ht (fun z hst hz h24 => ⟨fun _ => ⟨h.k1, cl_viewOf h ht (fun S2 h2 sm2 v2 => ?_)⟩, fun r => absurd r ne10⟩) (fun g2 => ⟨fun r => absurd rfl r, fun _ => hx3 t ht e g g2⟩)⟩, fun r => absurd r ne10⟩) (fun g => ⟨fun r => absurd rfl r, fun _ => hx2 t ht e g⟩)⟩) hx1⟩
  obtain ⟨a', b', hab, hb, ea, eb⟩ := gd_nI g
  have q6 : q ≠ loc 6 := Ne.symm (o.2.2.1 6 u6)
  have o2 := o.sm (sm2 q q6)
  rw [ea, eb] at o2
  obtain ⟨w1, w2, w3⟩ := h2.vwr
  have hne : ¬ σ1.2 7 t = 24 := by
    rw [hz]
    exact fun e => by have := (nI_eq (a := z) (b := 24) (by omega) (by omega)).mp e; omega
  refine ⟨o2.1, cl_stays o2 hkd (by omega) w2 w3 v2 (fun g3 => ⟨fun _ => ⟨h2.k1, ?_⟩, fun r => absurd r ne10⟩) (fun g3 => ⟨fun r => absurd rfl r, fun _ => hx4 t ht e g ⟨hst, hne⟩ a' ea (by omega) g3 S2 h2⟩)⟩
  exact cl_perform h2 ht hst hz h24 hkd (by omega) hb o2 g.2 g3 (fun S' h' _ => hp t z a' b' ht e g hst hz h24 ea (by omega) eb hb g3 S' h')
end OPE
/-! the reference's pieces -/
section RPC
variable {σ : Sg} {M C N : Nat}
theorem rf_isRange {a b : Int32} {P : Int32 → Sg → Prop} (h1 : (0 ≤ a ∧ a ≤ b ∧ b ≤ 31) → P 1 σ) (h0 : ¬ (0 ≤ a ∧ a ≤ b ∧ b ≤ 31) → P 0 σ) : v_X6_isRange σ a b P := by
  unfold v_X6_isRange bv_X6_isRange_23 bv_X6_isRange_24
  refine rf_isKey (fun k hk e => ⟨fun r => absurd r ne10, fun _ => rf_isKey (fun k2 hk2 e2 => ⟨fun r => absurd r ne10, fun _ => ⟨fun q => ⟨zb0, h0 (fun r => (fa_of_lt q).2.1 r.2.1)⟩, fun q => ⟨zb1, h1 ⟨?_, fa_of_nlt q, ?_⟩⟩⟩⟩) (fun q => ⟨fun _ => ⟨zb0, h0 (fun r => q ⟨Int32.le_trans r.1 r.2.1, r.2.2⟩)⟩, fun r => absurd rfl r⟩)⟩) (fun q => ⟨fun _ => ⟨zb0, h0 (fun r => q ⟨r.1, Int32.le_trans r.2.1 r.2.2⟩)⟩, fun r => absurd rfl r⟩)
  · exact (key_nI.mpr ⟨k, hk, e⟩).1
  · exact (key_nI.mpr ⟨k2, hk2, e2⟩).2
theorem rf_problem (hw : WF σ M C N) {a g : Int32} {P : Int32 → Sg → Prop} (h1 : (a < 0 ∨ nI M ≤ a) → P 1 σ) (h2 : ∀ t, t < M → a = nI t → g = 0 → P 2 σ) (h3 : ∀ t, t < M → a = nI t → ¬ g = 0 → ¬ (σ.2 2 t = 0 ∧ ¬ σ.2 7 t = 24) → P 3 σ) (h0 : ∀ t, t < M → a = nI t → ¬ g = 0 → σ.2 2 t = 0 ∧ ¬ σ.2 7 t = 24 → P 0 σ) : v_X6_problem σ a g P := by
  have hM := hw.2.1
  unfold v_X6_problem bv_X6_problem_40 bv_X6_problem_45
  refine rf_isTx hw (fun t ht e => ⟨fun _ => ⟨fun hg => ?_, fun hg => h2 t ht e hg⟩, fun r => absurd r ne10⟩) (fun q => ⟨fun r => absurd rfl r, fun _ => h1 q⟩)
  have v : vp_in (nI t) 80 := vp_in_nI (by omega) (by omega)
  rw [e, ix_nI (by omega)]
  exact ⟨v, fun q => h3 t ht e hg (fun r => q r.1), fun q => ⟨v, fun q2 => h0 t ht e hg ⟨q, q2⟩, fun q2 => h3 t ht e hg (fun r => r.2 q2)⟩⟩
theorem rf_viewed {t k : Nat} (ht : t < 80) (hk : k < 32) (hC : C ≤ 60) (h14 : σ.1 14 = nI C) {P : Int32 → Sg → Prop} (h : P (vwd σ C t k) σ) : v_X6_viewed σ (nI t) (nI k) P := by
  unfold v_X6_viewed bv_X6_viewed_32
  rw [mul32, ix_nI (by omega), h14]
  unfold vwd at h
  refine ⟨vp_in_nI (by omega) (by omega), fun v2 hv2 => ?_⟩
  rw [hv2]
  refine ⟨fun q => ?_, fun q => rf_stored hC hk ?_⟩
  · rw [if_neg q] at h; exact h
  · rw [if_pos q] at h; exact h
theorem rf_list {t z : Nat} (ht : t < 80) (hz : σ.2 7 t = nI z) (h24 : z < 24) {kd a b c r : Int32} {P : Sg → Prop} (h : P (lS σ t z kd a b c r)) : v_X6_list σ (nI t) kd a b c r P := by
  unfold v_X6_list
  rw [ix_nI (by omega), hz, mul5]
  have v : vp_in (nI t) 80 := vp_in_nI (by omega) (by omega)
  refine ⟨v, fun v2 hv2 => ?_⟩
  rw [hv2, nI_1, nI_2, nI_3, nI_4, ix_nI (by omega), ix_nI (by omega), ix_nI (by omega), ix_nI (by omega), ix_nI (by omega)]
  refine ⟨vp_in_nI (by omega) (by omega), fun σ4 e4 => ⟨vp_in_nI (by omega) (by omega), fun σ6 e6 => ⟨vp_in_nI (by omega) (by omega), fun σ8 e8 => ⟨vp_in_nI (by omega) (by omega), fun σ10 e10 => ⟨vp_in_nI (by omega) (by omega), fun σ12 e12 => ⟨v, v, fun σ15 e15 => ?_⟩⟩⟩⟩⟩⟩
  have e7 : σ12.2 7 t + 1 = nI (z + 1) := by
    rw [e12, e10, e8, e6, e4, sA_ne _ (by decide), sA_ne _ (by decide), sA_ne _ (by decide), sA_ne _ (by decide), sA_ne _ (by decide), hz, nI_1]
  rw [e7, e12, e10, e8, e6, e4] at e15
  rw [e15]
  exact h
theorem rf_recordRange {t p : Nat} (ht : t < 80) (hp : σ.2 12 t = nI p) (h24 : p < 24) {lo hi least : Int32} {P : Sg → Prop} (h : P (rR σ t p lo hi least (σ.1 14))) : v_X6_recordRange σ (nI t) lo hi least P := by
  unfold v_X6_recordRange
  rw [ix_nI (by omega), hp, mul4]
  have v : vp_in (nI t) 80 := vp_in_nI (by omega) (by omega)
  refine ⟨v, fun v2 hv2 => ?_⟩
  rw [hv2, nI_1, nI_2, nI_3, ix_nI (by omega), ix_nI (by omega), ix_nI (by omega), ix_nI (by omega)]
  refine ⟨vp_in_nI (by omega) (by omega), fun σ4 e4 => ⟨vp_in_nI (by omega) (by omega), fun σ6 e6 => ⟨vp_in_nI (by omega) (by omega), fun σ8 e8 => ⟨vp_in_nI (by omega) (by omega), fun σ10 e10 => ⟨v, v, fun σ13 e13 => ?_⟩⟩⟩⟩⟩
  have e12 : σ10.2 12 t + 1 = nI (p + 1) := by
    rw [e10, e8, e6, e4, sA_ne _ (by decide), sA_ne _ (by decide), sA_ne _ (by decide), sA_ne _ (by decide), hp, nI_1]
  have e14 : σ8.1 14 = σ.1 14 := by rw [e8, e6, e4]; rfl
  rw [e14] at e10
  rw [e12, e10, e8, e6, e4] at e13
  rw [e13]
  exact h
theorem rf_recordKey {t k : Nat} (ht : t < 80) (hk : k < 32) {P : Sg → Prop} (h : P (if σ.2 10 (32 * t + k) = -5000 ∧ σ.2 9 (32 * t + k) = -1 then sA σ 9 (32 * t + k) (σ.1 14) else σ)) : v_X6_recordKey σ (nI t) (nI k) P := by
  unfold v_X6_recordKey bv_X6_recordKey_47
  rw [mul32, ix_nI (by omega)]
  have v : vp_in (nI (32 * t + k)) 2560 := vp_in_nI (by omega) (by omega)
  refine ⟨v, fun q => ?_, fun q => ⟨v, fun q2 => ?_, fun q2 => ⟨v, fun σ4 e4 => ?_⟩⟩⟩
  · rw [if_neg (fun r => q r.1)] at h; exact h
  · rw [if_neg (fun r => q2 r.2)] at h; exact h
  · rw [if_pos ⟨q, q2⟩] at h
    rw [e4]; exact h
theorem rf_ct_loop {t lo hi : Nat} (ht : t < 80) (hlo : lo < 32) (h32 : hi < 32) (hC : C ≤ 60) (h14 : σ.1 14 = nI C) {num : Int32} {P : Int32 → Sg → Prop} (h : P (cntR (vwd σ C t) num lo hi) σ) : ∀ n j, j + n = hi + 1 - lo → bv_X6_counted_6 P (n + 1) σ (nI t) (nI lo) (nI hi) num (rs (fun k => if vwd σ C t k < num then 0 else 1) lo j) (nI (lo + j)) := by
  intro n
  induction n with
  | zero =>
    intro j hj
    rw [bv_X6_counted_6]
    have e : j = hi + 1 - lo := by omega
    rw [e]
    exact ⟨fun _ => h, fun q => absurd (show nI hi < nI (lo + (hi + 1 - lo)) from nI_lt (by omega) (by omega)) q⟩
  | succ n ih =>
    intro j hj
    rw [bv_X6_counted_6]
    dsimp only
    simp only [bv_X6_counted_31]
    have hs := ih (j + 1) (by omega)
    rw [rs] at hs
    refine ⟨fun q => absurd q (nI_nl (by omega) (by omega)), fun _ => rf_viewed ht (by omega) hC h14 ⟨fun g v hv v2 hv2 => ?_, fun g v hv v2 hv2 => ?_⟩⟩
    · rw [hv, hv2, nI_1]
      rw [if_pos g] at hs
      exact hs
    · rw [hv, hv2, nI_1]
      rw [if_neg g] at hs
      exact hs
theorem rf_counted {t lo hi : Nat} (ht : t < 80) (hlo : lo < 32) (h32 : hi < 32) (hC : C ≤ 60) (h14 : σ.1 14 = nI C) {num : Int32} {P : Int32 → Sg → Prop} (h : P (cntR (vwd σ C t) num lo hi) σ) : v_X6_counted σ (nI t) (nI lo) (nI hi) num P := ⟨(hi + 1 - lo) + 1, rf_ct_loop ht hlo h32 hC h14 h _ 0 (by omega)⟩
theorem rf_sm_loop {t lo hi : Nat} (ht : t < 80) (hlo : lo < 32) (h32 : hi < 32) (hC : C ≤ 60) (h14 : σ.1 14 = nI C) {P : Int32 → Sg → Prop} (h : P (totR (vwd σ C t) lo hi) σ) : ∀ n j, j + n = hi + 1 - lo → bv_X6_summed_6 P (n + 1) σ (nI t) (nI lo) (nI hi) (rs (fun k => if vwd σ C t k = -1000 then 0 else vwd σ C t k) lo j) (nI (lo + j)) := by
  intro n
  induction n with
  | zero =>
    intro j hj
    rw [bv_X6_summed_6]
    have e : j = hi + 1 - lo := by omega
    rw [e]
    exact ⟨fun _ => h, fun q => absurd (show nI hi < nI (lo + (hi + 1 - lo)) from nI_lt (by omega) (by omega)) q⟩
  | succ n ih =>
    intro j hj
    rw [bv_X6_summed_6]
    dsimp only
    simp only [bv_X6_summed_37]
    have hs := ih (j + 1) (by omega)
    rw [rs] at hs
    refine ⟨fun q => absurd q (nI_nl (by omega) (by omega)), fun _ => rf_viewed ht (by omega) hC h14 ⟨fun g v hv v2 hv2 => ?_, fun g v hv v2 hv2 => ?_⟩⟩
    · rw [hv, hv2, nI_1]
      rw [if_neg g] at hs
      exact hs
    · rw [hv, hv2, nI_1]
      rw [if_pos g] at hs
      exact hs
theorem rf_summed {t lo hi : Nat} (ht : t < 80) (hlo : lo < 32) (h32 : hi < 32) (hC : C ≤ 60) (h14 : σ.1 14 = nI C) {P : Int32 → Sg → Prop} (h : P (totR (vwd σ C t) lo hi) σ) : v_X6_summed σ (nI t) (nI lo) (nI hi) P := ⟨(hi + 1 - lo) + 1, rf_sm_loop ht hlo h32 hC h14 h _ 0 (by omega)⟩
theorem vwd_r {σ' : Sg} (h10 : σ'.2 10 = σ.2 10) (h15 : σ'.2 15 = σ.2 15) (C t : Nat) : vwd σ' C t = vwd σ C t := by
  funext k
  unfold vwd stf
  rw [h10, h15]
theorem nI_lit : nI 0 = 0 ∧ nI 1 = 1 ∧ nI 2 = 2 ∧ nI 3 = 3 ∧ nI 4 = 4 ∧ nI 5 = 5 := ⟨rfl, rfl, rfl, rfl, rfl, rfl⟩
theorem z7 {k : Nat} (h : k ≠ 7) {i t z : Nat} {v : Int32} (hz : σ.2 7 t = nI z) : (sA σ k i v).2 7 t = nI z := by
  rw [sA_ne _ (Ne.symm h)]; exact hz
theorem opG_k0 (C t z p k hi : Nat) (num r : Int32) : opG σ C t z p 0 k hi num r = lS (if σ.2 10 (32 * t + k) = -5000 ∧ σ.2 9 (32 * t + k) = -1 then sA σ 9 (32 * t + k) (nI C) else σ) t z 0 (nI k) 0 0 r := by
  unfold opG g3 g2 g1 bO cO rO
  simp [nI_lit]
theorem opG_k1 (C t z p k hi : Nat) (num r : Int32) : opG σ C t z p 1 k hi num r = lS (rR σ t p (nI k) (nI hi) num (nI C)) t z 1 (nI k) (nI hi) num r := by
  unfold opG g3 g2 g1 bO cO rO
  simp [nI_lit]
theorem opG_k2 (C t z p k hi : Nat) (num r : Int32) : opG σ C t z p 2 k hi num r = lS (rR σ t p (nI k) (nI hi) num (nI C)) t z 2 (nI k) (nI hi) 0 r := by
  unfold opG g3 g2 g1 bO cO rO
  simp [nI_lit]
theorem opG_k3 (C t z p k hi : Nat) (num r : Int32) : opG σ C t z p 3 k hi num r = lS (sA σ 10 (32 * t + k) r) t z 3 (nI k) num 0 0 := by
  unfold opG g3 g2 g1 bO cO rO
  simp [nI_lit]
theorem opG_k4 (C t z p k hi : Nat) (num r : Int32) : opG σ C t z p 4 k hi num r = lS (sA σ 10 (32 * t + k) r) t z 4 (nI k) 0 0 0 := by
  unfold opG g3 g2 g1 bO cO rO
  simp [nI_lit]
theorem opG_k5 (C t z p k hi : Nat) (num r : Int32) : opG σ C t z p 5 k hi num r = lS (sA (if σ.2 10 (32 * t + k) = -5000 ∧ σ.2 9 (32 * t + k) = -1 then sA σ 9 (32 * t + k) (nI C) else σ) 10 (32 * t + k) r) t z 5 (nI k) num 0 r := by
  unfold opG g3 g2 g1 bO cO rO
  simp [nI_lit]
/-- the reference's operations, good and allowed: what they leave -/
theorem rf_read_ok (hw : WF σ M C N) {t z k : Nat} (ht : t < M) (hz : σ.2 7 t = nI z) (h24 : z < 24) (hk : k < 32) {p : Nat} {P : Int32 → Sg → Prop} (h : P (vwd σ C t k) (opG σ C t z p 0 k k 0 (vwd σ C t k))) : v_X6_recordKey σ (nI t) (nI k) (fun σ4 => v_X6_viewed σ4 (nI t) (nI k) (fun r5 σ5 => v_X6_list σ5 (nI t) 0 (nI k) 0 0 r5 (fun σ6 => P r5 σ6))) := by
  have hM := hw.2.1
  have hC := hw.2.2.2.1
  have ht80 : t < 80 := by omega
  refine rf_recordKey ht80 hk ?_
  rw [hw.2.2.1]
  rw [opG_k0] at h
  by_cases q : σ.2 10 (32 * t + k) = -5000 ∧ σ.2 9 (32 * t + k) = -1
  · rw [if_pos q] at h ⊢
    refine rf_viewed (σ := sA σ 9 (32 * t + k) (nI C)) (C := C) ht80 hk hC hw.2.2.1 ?_
    rw [vwd_r (σ' := sA σ 9 (32 * t + k) (nI C)) (σ := σ) (sA_ne _ (by decide) _ _) (sA_ne _ (by decide) _ _)]
    exact rf_list ht80 (z7 (by decide) hz) h24 h
  · rw [if_neg q] at h ⊢
    exact rf_viewed ht80 hk hC hw.2.2.1 (rf_list ht80 hz h24 h)
theorem rf_scan_ok (hw : WF σ M C N) {t z lo hi : Nat} (ht : t < M) (hz : σ.2 7 t = nI z) (h24 : z < 24) (hlo : lo < 32) (hhi : hi < 32) {num : Int32} {P : Int32 → Sg → Prop} (h : P (cntR (vwd σ C t) num lo hi) (opG σ C t z (cP σ t z) 1 lo hi num (cntR (vwd σ C t) num lo hi))) : v_X6_recordRange σ (nI t) (nI lo) (nI hi) num (fun σ3 => v_X6_counted σ3 (nI t) (nI lo) (nI hi) num (fun r4 σ4 => v_X6_list σ4 (nI t) 1 (nI lo) (nI hi) num r4 (fun σ5 => P r4 σ5))) := by
  have hM := hw.2.1
  have hC := hw.2.2.2.1
  have ht80 : t < 80 := by omega
  obtain ⟨z', hz', ez', ep'⟩ := hw.sz ht
  have ezz : z' = z := by rw [hz] at ez'; exact ((nI_eq (by omega) (by omega)).mp ez').symm
  subst ezz
  have hcp := cP_le σ t z'
  obtain ⟨e0, e1, e2, e3, e4, e5, e6, e7⟩ := rR_row σ t (cP σ t z') (nI lo) (nI hi) num (nI C)
  refine rf_recordRange ht80 ep' (by omega) ?_
  rw [hw.2.2.1]
  rw [opG_k1] at h
  refine rf_counted ht80 hlo hhi hC (by rw [e0]; exact hw.2.2.1) (rf_list ht80 (by rw [e1 7 (by decide) (by decide)]; exact hz) h24 ?_)
  rw [vwd_r (e1 10 (by decide) (by decide)) (e1 15 (by decide) (by decide))]
  exact h
theorem rf_sum_ok (hw : WF σ M C N) {t z lo hi : Nat} (ht : t < M) (hz : σ.2 7 t = nI z) (h24 : z < 24) (hlo : lo < 32) (hhi : hi < 32) {P : Int32 → Sg → Prop} (h : P (totR (vwd σ C t) lo hi) (opG σ C t z (cP σ t z) 2 lo hi (-999) (totR (vwd σ C t) lo hi))) : v_X6_recordRange σ (nI t) (nI lo) (nI hi) ((-999)) (fun σ4 => v_X6_summed σ4 (nI t) (nI lo) (nI hi) (fun r5 σ5 => v_X6_list σ5 (nI t) 2 (nI lo) (nI hi) 0 r5 (fun σ6 => P r5 σ6))) := by
  have hM := hw.2.1
  have hC := hw.2.2.2.1
  have ht80 : t < 80 := by omega
  obtain ⟨z', hz', ez', ep'⟩ := hw.sz ht
  have ezz : z' = z := by rw [hz] at ez'; exact ((nI_eq (by omega) (by omega)).mp ez').symm
  subst ezz
  have hcp := cP_le σ t z'
  obtain ⟨e0, e1, e2, e3, e4, e5, e6, e7⟩ := rR_row σ t (cP σ t z') (nI lo) (nI hi) (-999) (nI C)
  refine rf_recordRange ht80 ep' (by omega) ?_
  rw [hw.2.2.1]
  rw [opG_k2] at h
  refine rf_summed ht80 hlo hhi hC (by rw [e0]; exact hw.2.2.1) (rf_list ht80 (by rw [e1 7 (by decide) (by decide)]; exact hz) h24 ?_)
  rw [vwd_r (e1 10 (by decide) (by decide)) (e1 15 (by decide) (by decide))]
  exact h
theorem rf_wr_ok (hw : WF σ M C N) {t z k : Nat} (ht : t < M) (hz : σ.2 7 t = nI z) (h24 : z < 24) (hk : k < 32) {p : Nat} {v : Int32} {P : Sg → Prop} (h : P (opG σ C t z p 3 k k v v)) : vp_in ((32 * nI t) + nI k) 2560 ∧ ∀ σ4 : Sg, σ4 = sA σ 10 (ix ((32 * nI t) + nI k)) v → v_X6_list σ4 (nI t) 3 (nI k) v 0 0 P := by
  have hM := hw.2.1
  have ht80 : t < 80 := by omega
  rw [mul32, ix_nI (by omega)]
  refine ⟨vp_in_nI (by omega) (by omega), fun σ4 e4 => ?_⟩
  rw [e4]
  rw [opG_k3] at h
  exact rf_list ht80 (z7 (by decide) hz) h24 h
theorem rf_rm_ok (hw : WF σ M C N) {t z k : Nat} (ht : t < M) (hz : σ.2 7 t = nI z) (h24 : z < 24) (hk : k < 32) {p : Nat} {P : Sg → Prop} (h : P (opG σ C t z p 4 k k 0 (-1000))) : vp_in ((32 * nI t) + nI k) 2560 ∧ ∀ σ4 : Sg, σ4 = sA σ 10 (ix ((32 * nI t) + nI k)) ((-1000)) → v_X6_list σ4 (nI t) 4 (nI k) 0 0 0 P := by
  have hM := hw.2.1
  have ht80 : t < 80 := by omega
  rw [mul32, ix_nI (by omega)]
  refine ⟨vp_in_nI (by omega) (by omega), fun σ4 e4 => ?_⟩
  rw [e4]
  rw [opG_k4] at h
  exact rf_list ht80 (z7 (by decide) hz) h24 h
theorem rf_add_ok (hw : WF σ M C N) {t z k : Nat} (ht : t < M) (hz : σ.2 7 t = nI z) (h24 : z < 24) (hk : k < 32) {p : Nat} {num : Int32} {P : Int32 → Sg → Prop} (h1 : -999 ≤ addI (vwd σ C t k) num ∧ addI (vwd σ C t k) num ≤ 999 → P (addI (vwd σ C t k) num) (opG σ C t z p 5 k k num (addI (vwd σ C t k) num))) (h0 : ¬ (-999 ≤ addI (vwd σ C t k) num ∧ addI (vwd σ C t k) num ≤ 999) → P 0 (sF σ 0 4)) : v_X6_viewed σ (nI t) (nI k) (fun r3 σ3 => v_X6_addedTo σ3 r3 num (fun r4 σ4 => v_X6_isIn σ4 r4 ((-999)) 999 (fun r5 σ5 => ((¬ r5 = 0 → v_X6_recordKey σ5 (nI t) (nI k) (fun σ6 => vp_in ((32 * nI t) + nI k) 2560 ∧ ∀ σ8 : Sg, σ8 = sA σ6 10 (ix ((32 * nI t) + nI k)) r4 → v_X6_list σ8 (nI t) 5 (nI k) num 0 r4 (fun σ9 => P r4 σ9))) ∧ (r5 = 0 → v_X6_fail σ5 4 (fun r10 σ10 => P r10 σ10)))))) := by
  have hM := hw.2.1
  have hC := hw.2.2.2.1
  have ht80 : t < 80 := by omega
  refine rf_viewed ht80 hk hC hw.2.2.1 (rf_addedTo (rf_isIn (fun g => ⟨fun _ => rf_recordKey ht80 hk ?_, fun r => absurd r ne10⟩) (fun g => ⟨fun r => absurd rfl r, fun _ => rf_fail (h0 g)⟩)))
  have h := h1 g
  rw [opG_k5] at h
  rw [hw.2.2.1]
  rw [mul32, ix_nI (by omega)]
  refine ⟨vp_in_nI (by omega) (by omega), fun σ8 e8 => ?_⟩
  rw [e8]
  by_cases q : σ.2 10 (32 * t + k) = -5000 ∧ σ.2 9 (32 * t + k) = -1
  · rw [if_pos q] at h ⊢
    exact rf_list ht80 (z7 (by decide) (z7 (by decide) hz)) h24 h
  · rw [if_neg q] at h ⊢
    exact rf_list ht80 (z7 (by decide) hz) h24 h
end RPC
theorem p3 : ¬ (3 : Int32) = 0 := by decide
theorem p4 : ¬ (4 : Int32) = 0 := by decide
theorem gd_key {k : Int32} : gd k k 0 ↔ (0 ≤ k ∧ k ≤ 31) := ⟨fun h => ⟨h.1.1, h.1.2.2⟩, fun h => ⟨⟨h.1, Int32.le_refl k, h.2⟩, by decide, by decide⟩⟩
theorem rf_isKey' {σ : Sg} {a : Int32} {P : Int32 → Sg → Prop} (h : P (bI (0 ≤ a ∧ a ≤ 31)) σ) : v_X6_isKey σ a P := rf_isKey (fun k hk e => pb1 h (key_nI.mpr ⟨k, hk, e⟩)) (fun q => pb0 h q)
theorem rf_isRange' {σ : Sg} {a b : Int32} {P : Int32 → Sg → Prop} (h : P (bI (0 ≤ a ∧ a ≤ b ∧ b ≤ 31)) σ) : v_X6_isRange σ a b P := rf_isRange (fun q => pb1 h q) (fun q => pb0 h q)
/-- the refusals of an operation, and its good end -/
theorem rf_prob {σ : Sg} {M C N : Nat} (hw : WF σ M C N) {a g : Int32} {G : Prop} (hg : g = bI G) {P : Int32 → Sg → Prop} (h1 : (a < 0 ∨ nI M ≤ a) → P 1 σ) (h2 : ∀ t, t < M → a = nI t → ¬ G → P 2 σ) (h3 : ∀ t, t < M → a = nI t → G → ¬ (σ.2 2 t = 0 ∧ ¬ σ.2 7 t = 24) → P 3 σ) (h0 : ∀ t, t < M → a = nI t → G → σ.2 2 t = 0 ∧ ¬ σ.2 7 t = 24 → P 0 σ) : v_X6_problem σ a g P := by
  subst hg
  exact rf_problem hw h1 (fun t ht e q => h2 t ht e (bI_z.mp q)) (fun t ht e q => h3 t ht e (bI_nz.mp q)) (fun t ht e q => h0 t ht e (bI_nz.mp q))
theorem sp_read : Sp_read := by
  intro S l1 l2 l3 l4 loc ow σ M C N x0 x1 post h hp
  have h : Mid S l1 l2 l3 l4 loc ow σ σ M C N := h
  have hw := h.wf
  have hM := h.M80
  have tI : ∀ {t u : Nat}, t < M → u < M → nI t = nI u → t = u := fun ht hu e => (nI_eq (by omega) (by omega)).mp e
  have hw0 := wf_eqv (eqv.th σ 0) hw
  unfold w_L_read w_X5_read
  refine ⟨h.k1, fun q kq zq S2 e2 => ?_⟩
  rw [e2]
  refine cl_opInit h kq zq (fun S4 h4 o4 _ => ⟨h4.k1, cl_operate (kd := 0) h4 (by omega) o4 (fun hx => Or.inl ⟨rfl, hp 1 S4 σ 0 ?_ ⟨loc, ow, M, C, N, h4⟩ (fun q => absurd q ne10)⟩) (fun t ht e hg => Or.inr (Or.inl ⟨rfl, hp 2 S4 σ 0 ?_ ⟨loc, ow, M, C, N, h4⟩ (fun q => absurd q ne20)⟩)) (fun t ht e hg hs => Or.inr (Or.inr ⟨rfl, hp 3 S4 σ 0 ?_ ⟨loc, ow, M, C, N, h4⟩ (fun q => absurd q p3)⟩)) (fun t ht e hg hs lo' _ _ hn => absurd (fun q => absurd q (by decide)) hn) (fun t z lo' hi' ht e hg hst hz h24 elo hlo ehi hhi _ S' h' => wr_ret h' (fun S6 h6 hs6 => hp 0 S6 _ _ ?_ ⟨_, _, M, C, N, h6⟩ (fun _ => hs6)))⟩)
  · unfold v_X6_read
    refine rf_isKey' (rf_prob hw rfl (fun _ σ3 e3 => ?_) (fun u hu eu => absurd eu (neg_nI (by omega) hx hu)) (fun u hu eu => absurd eu (neg_nI (by omega) hx hu)) (fun u hu eu => absurd eu (neg_nI (by omega) hx hu)))
    rw [e3]
    exact ⟨fun q => absurd q ne10, fun _ => ⟨eqv.th σ 1, rfl, fun q => absurd q ne10⟩⟩
  · unfold v_X6_read
    refine rf_isKey' (rf_prob hw rfl (fun q => absurd e (neg_nI (by omega) q ht)) (fun u hu eu _ σ3 e3 => ?_) (fun u hu eu r => absurd (gd_key.mpr r) hg) (fun u hu eu r => absurd (gd_key.mpr r) hg))
    rw [e3]
    exact ⟨fun q => absurd q ne20, fun _ => ⟨eqv.th σ 2, rfl, fun q => absurd q ne20⟩⟩
  · unfold v_X6_read
    refine rf_isKey' (rf_prob hw rfl (fun q => absurd e (neg_nI (by omega) q ht)) (fun u hu eu r => absurd (gd_key.mp hg) r) (fun u hu eu _ _ σ3 e3 => ?_) (fun u hu eu _ r => ?_))
    · rw [e3]
      exact ⟨fun q => absurd q p3, fun _ => ⟨eqv.th σ 3, rfl, fun q => absurd q p3⟩⟩
    · have := tI ht hu (e ▸ eu)
      subst this
      exact absurd r hs
  · have hne : ¬ σ.2 7 t = 24 := by
      rw [hz]
      exact fun e => by have := (nI_eq (a := z) (b := 24) (by omega) (by omega)).mp e; omega
    have elh : hi' = lo' := (nI_eq (by omega) (by omega)).mp (ehi.symm.trans elo)
    subst elh
    unfold v_X6_read
    refine rf_isKey' (rf_prob hw rfl (fun q => absurd e (neg_nI (by omega) q ht)) (fun u hu eu r => absurd (gd_key.mp hg) r) (fun u hu eu _ r => ?_) (fun u hu eu _ _ σ3 e3 => ?_))
    · have := tI ht hu (e ▸ eu)
      subst this
      exact absurd ⟨hst, hne⟩ r
    · rw [e3, e, elo]
      refine ⟨fun _ => ?_, fun q => absurd rfl q⟩
      refine rf_read_ok hw0 (p := cP σ t z) ht hz h24 hlo ⟨?_, ?_, fun _ => ?_⟩
      · exact opG_eqv (eqv.th σ 0) _ _ _ _ _ _ _ _ _
      · rw [(opG_1 _ _ _ _ _ _ _ _ _ _).1]; rfl
      · rfl
