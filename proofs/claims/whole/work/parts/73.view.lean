/-! views: a row of 32 values -/
def rs (g : Nat → Int32) (lo : Nat) : Nat → Int32
  | 0 => 0
  | n + 1 => rs g lo n + g (lo + n)
theorem rs_c {g g' : Nat → Int32} {lo : Nat} : ∀ {n : Nat}, (∀ j, j < n → g (lo + j) = g' (lo + j)) → rs g lo n = rs g' lo n
  | 0, _ => rfl
  | n + 1, h => by rw [rs, rs, rs_c (fun j hj => h j (by omega)), h n (by omega)]
def cntR (f : Nat → Int32) (num : Int32) (lo hi : Nat) : Int32 := rs (fun k => if f k < num then 0 else 1) lo (hi + 1 - lo)
def totR (f : Nat → Int32) (lo hi : Nat) : Int32 := rs (fun k => if f k = -1000 then 0 else f k) lo (hi + 1 - lo)
def addI (v d : Int32) : Int32 := (if v = -1000 then 0 else v) + d
def fset (f : Nat → Int32) (i : Nat) (v : Int32) : Nat → Int32 := fun k => if k = i then v else f k
theorem cntR_c {f f' : Nat → Int32} {num : Int32} {lo hi : Nat} (h32 : hi < 32) (h : ∀ k, k < 32 → f k = f' k) : cntR f num lo hi = cntR f' num lo hi := rs_c (fun j hj => by rw [h _ (by omega)])
theorem totR_c {f f' : Nat → Int32} {lo hi : Nat} (h32 : hi < 32) (h : ∀ k, k < 32 → f k = f' k) : totR f lo hi = totR f' lo hi := rs_c (fun j hj => by rw [h _ (by omega)])
theorem lt999 {a b : Int32} (ha : a = -1000) (hb : -999 ≤ b) : a < b := by
  rw [ha]
  rw [fa_le] at hb
  rw [fa_lt]
  have e1 : (-999 : Int32).toInt = -999 := by decide
  have e2 : (-1000 : Int32).toInt = -1000 := by decide
  omega
section VW
variable {S : MS} {f : Nat → Int32} {a : Nat}
theorem cl_ci_loop (k1 : kT S a = 9) (k2 : kL S a = 32) (k3 : ∀ k, k < 32 → sI S a k = f k) {num : Int32} (hn : -999 ≤ num) {lo hi : Nat} (hlo : lo < 32) (h32 : hi < 32) {post : Int32 → MS → Prop} (hp : post (cntR f num lo hi) S) : ∀ n j, j + n = hi + 1 - lo → b_X5_countIn_6 post (n + 1) S a (nI lo) (nI hi) num (rs (fun k => if f k < num then 0 else 1) lo j) (nI (lo + j)) := by
  intro n
  induction n with
  | zero =>
    intro j hj
    rw [b_X5_countIn_6]
    have e : j = hi + 1 - lo := by omega
    rw [e]
    exact ⟨fun _ => hp, fun q => absurd (show nI hi < nI (lo + (hi + 1 - lo)) from nI_lt (by omega) (by omega)) q⟩
  | succ n ih =>
    intro j hj
    rw [b_X5_countIn_6]
    dsimp only
    simp only [b_X5_countIn_33]
    rw [k2, ix_nI (by omega), k3 _ (by omega)]
    have hs := ih (j + 1) (by omega)
    rw [rs] at hs
    refine ⟨fun q => absurd q (nI_nl (by omega) (by omega)), fun _ => ⟨k1, vp_in_nI (by omega) (by omega), fun g v hv => ?_, fun g => ⟨vp_in_nI (by omega) (by omega), fun g2 v hv => ?_, fun g2 v hv v2 hv2 => ?_⟩⟩⟩
    · rw [hv, nI_1]
      rw [if_pos (lt999 g hn), i32_add0] at hs
      exact hs
    · rw [hv, nI_1]
      rw [if_pos g2, i32_add0] at hs
      exact hs
    · rw [hv2, hv, nI_1]
      rw [if_neg g2] at hs
      exact hs
theorem cl_countIn (k1 : kT S a = 9) (k2 : kL S a = 32) (k3 : ∀ k, k < 32 → sI S a k = f k) {num : Int32} (hn : -999 ≤ num) {lo hi : Nat} (hlo : lo < 32) (h32 : hi < 32) {post : Int32 → MS → Prop} (hp : post (cntR f num lo hi) S) : w_X5_countIn S a (nI lo) (nI hi) num post := ⟨(hi + 1 - lo) + 1, cl_ci_loop k1 k2 k3 hn hlo h32 hp _ 0 (by omega)⟩
theorem cl_ti_loop (k1 : kT S a = 9) (k2 : kL S a = 32) (k3 : ∀ k, k < 32 → sI S a k = f k) {lo hi : Nat} (hlo : lo < 32) (h32 : hi < 32) {post : Int32 → MS → Prop} (hp : post (totR f lo hi) S) : ∀ n j, j + n = hi + 1 - lo → b_X5_totalIn_5 post (n + 1) S a (nI lo) (nI hi) (rs (fun k => if f k = -1000 then 0 else f k) lo j) (nI (lo + j)) := by
  intro n
  induction n with
  | zero =>
    intro j hj
    rw [b_X5_totalIn_5]
    have e : j = hi + 1 - lo := by omega
    rw [e]
    exact ⟨fun _ => hp, fun q => absurd (show nI hi < nI (lo + (hi + 1 - lo)) from nI_lt (by omega) (by omega)) q⟩
  | succ n ih =>
    intro j hj
    rw [b_X5_totalIn_5]
    dsimp only
    simp only [b_X5_totalIn_28]
    rw [k2, ix_nI (by omega), k3 _ (by omega)]
    have hs := ih (j + 1) (by omega)
    rw [rs] at hs
    refine ⟨fun q => absurd q (nI_nl (by omega) (by omega)), fun _ => ⟨k1, vp_in_nI (by omega) (by omega), fun g v hv => ?_, fun g => ⟨vp_in_nI (by omega) (by omega), fun v hv v2 hv2 => ?_⟩⟩⟩
    · rw [hv, nI_1]
      rw [if_pos g, i32_add0] at hs
      exact hs
    · rw [hv2, hv, nI_1]
      rw [if_neg g] at hs
      exact hs
theorem cl_totalIn (k1 : kT S a = 9) (k2 : kL S a = 32) (k3 : ∀ k, k < 32 → sI S a k = f k) {lo hi : Nat} (hlo : lo < 32) (h32 : hi < 32) {post : Int32 → MS → Prop} (hp : post (totR f lo hi) S) : w_X5_totalIn S a (nI lo) (nI hi) post := ⟨(hi + 1 - lo) + 1, cl_ti_loop k1 k2 k3 hlo h32 hp _ 0 (by omega)⟩
/-- an operation over a view: its answer, the view after it -/
def caV (kd lo hi : Nat) (num : Int32) (f : Nat → Int32) : Int32 := match kd with
  | 0 => f lo | 1 => cntR f num lo hi | 2 => totR f lo hi | 3 => num | 4 => -1000 | _ => addI (f lo) num
def caF (kd lo : Nat) (num : Int32) (f : Nat → Int32) : Nat → Int32 := match kd with
  | 0 => f | 1 => f | 2 => f | 3 => fset f lo num | 4 => fset f lo (-1000) | _ => fset f lo (addI (f lo) num)
theorem cl_sumWith {o : Nat} (k0 : kT S o = 3) {v : Int32} {post : Int32 → MS → Prop} (hp : post (addI v (sI S o 3)) S) : w_X2_sumWith S o v post := by
  unfold w_X2_sumWith b_X2_sumWith_12
  unfold addI at hp
  refine ⟨fun q => ⟨k0, ?_⟩, fun q => ⟨k0, ?_⟩⟩
  · rw [if_neg q] at hp; exact hp
  · rw [if_pos q] at hp; exact hp
theorem cl_carryOut {o : Nat} (hoa : o ≠ a) (k0 : kT S o = 3) {kd lo hi : Nat} {num : Int32} (hk : sI S o 0 = nI kd) (hkd : kd < 6) (hl : sI S o 1 = nI lo) (hlo : lo < 32) (hh : kd = 1 ∨ kd = 2 → sI S o 2 = nI hi ∧ hi < 32) (hnum : sI S o 3 = num) (hn : kd = 1 → -999 ≤ num) (k1 : kT S a = 9) (k2 : kL S a = 32) (k3 : ∀ k, k < 32 → sI S a k = f k) {post : Int32 → MS → Prop} (hp : ∀ S', (S' = S ∨ ∃ v, S' = pI S a lo v) → (∀ k, k < 32 → sI S' a k = caF kd lo num f k) → post (caV kd lo hi num f) S') : w_X2_carryOut S o a post := by
  have kt : (sI S o 0).toInt = (kd : Int) := by rw [hk, nI_toInt (by omega)]
  have so : ∀ v, sI (pI S a lo v) o = sI S o := fun v => u2_ne _ _ _ hoa
  have sa : ∀ v, ∀ k, k < 32 → sI (pI S a lo v) a k = fset f lo v k := fun v k hk => by
    rw [sI_pI, if_pos rfl]
    unfold fset
    by_cases q : k = lo
    · rw [if_pos q, if_pos q]
    · rw [if_neg q, if_neg q]; exact k3 k hk
  unfold w_X2_carryOut b_X2_carryOut_117
  rw [kt, hl, k2, ix_nI (by omega), k3 lo hlo, hnum]
  refine ⟨k0, fun q => ?_, fun q => ?_, fun q => ?_, fun q => ?_, fun q => ?_, fun q => ?_, fun q => ?_⟩
  · have e : kd = 0 := by omega
    subst e
    exact ⟨k1, vp_in_nI (by omega) (by omega), hp S (Or.inl rfl) k3⟩
  · have e : kd = 1 := by omega
    subst e
    rw [(hh (Or.inl rfl)).1]
    exact cl_countIn k1 k2 k3 (hn rfl) hlo (hh (Or.inl rfl)).2 (hp S (Or.inl rfl) k3)
  · have e : kd = 2 := by omega
    subst e
    rw [(hh (Or.inr rfl)).1]
    exact cl_totalIn k1 k2 k3 hlo (hh (Or.inr rfl)).2 (hp S (Or.inl rfl) k3)
  · have e : kd = 3 := by omega
    subst e
    refine ⟨k0, k1, vp_in_nI (by omega) (by omega), fun S4 h4 => ?_⟩
    rw [h4, so, hnum]
    exact hp _ (Or.inr ⟨_, rfl⟩) (sa _)
  · have e : kd = 4 := by omega
    subst e
    refine ⟨k1, vp_in_nI (by omega) (by omega), fun S4 h4 => ?_⟩
    rw [h4]
    exact hp _ (Or.inr ⟨_, rfl⟩) (sa _)
  · have e : kd = 5 := by omega
    subst e
    refine ⟨k1, vp_in_nI (by omega) (by omega), cl_sumWith k0 ⟨k1, by rw [k2]; exact vp_in_nI (by omega) (by omega), fun S4 h4 => ?_⟩⟩
    rw [h4, so, hl, ix_nI (by omega), hnum, sa _ lo hlo, show kL (pI S a lo (addI (f lo) num)) a = 32 from k2]
    refine ⟨k0, vp_in_nI (by omega) (by omega), ?_⟩
    have := hp _ (Or.inr ⟨addI (f lo) num, rfl⟩) (sa _)
    unfold fset
    rw [if_pos rfl]
    exact this
  · omega
end VW
/-! the reference does an operation again -/
def sc23 (σ' σ : Sg) : Prop := σ'.1 = σ.1 ∧ ∀ k, k ≠ 23 → σ'.2 k = σ.2 k
theorem sc23.eqv {σ' σ : Sg} (h : sc23 σ' σ) : eqv σ' σ := ⟨⟨by rw [h.1], by rw [h.1], by rw [h.1], by rw [h.1], by rw [h.1], by rw [h.1], by rw [h.1], by rw [h.1], by rw [h.1]⟩, h.2 _ (by decide), h.2 _ (by decide), h.2 _ (by decide), h.2 _ (by decide), h.2 _ (by decide), h.2 _ (by decide), h.2 _ (by decide), h.2 _ (by decide), h.2 _ (by decide), h.2 _ (by decide), h.2 _ (by decide), h.2 _ (by decide), h.2 _ (by decide), h.2 _ (by decide), h.2 _ (by decide)⟩
theorem sc23.put {σ' σ : Sg} (h : sc23 σ' σ) (i : Nat) (v : Int32) : sc23 (sA σ' 23 i v) σ := ⟨h.1, fun k hk => (u2_ne σ'.2 i v hk).trans (h.2 k hk)⟩
theorem sA_at (σ : Sg) (k i : Nat) (v : Int32) (j : Nat) : (sA σ k i v).2 k j = if j = i then v else σ.2 k j := by simp only [sA, u2, if_pos]
theorem sA_ne (σ : Sg) {k k' : Nat} (h : k' ≠ k) (i : Nat) (v : Int32) : (sA σ k i v).2 k' = σ.2 k' := u2_ne _ _ _ h
section AG
variable {σ : Sg} {f : Nat → Int32}
theorem rf_ag1_loop {p lo hi : Nat} (hp : p < 1920) (hlo : lo < 32) (h32 : hi < 32) (hf : ∀ k, k < 32 → σ.2 23 k = f k) {P : Int32 → Sg → Prop} (h : P (cntR f (σ.2 8 (5 * p + 3)) lo hi) σ) : ∀ n j, j + n = hi + 1 - lo → bv_X6_again_70 P (n + 1) σ (nI (5 * p)) (nI lo) (nI hi) (rs (fun k => if f k < σ.2 8 (5 * p + 3) then 0 else 1) lo j) (nI (lo + j)) := by
  intro n
  induction n with
  | zero =>
    intro j hj
    rw [bv_X6_again_70]
    have e : j = hi + 1 - lo := by omega
    rw [e]
    exact ⟨fun _ => h, fun q => absurd (show nI hi < nI (lo + (hi + 1 - lo)) from nI_lt (by omega) (by omega)) q⟩
  | succ n ih =>
    intro j hj
    rw [bv_X6_again_70]
    dsimp only
    simp only [bv_X6_again_101]
    rw [nI_3, ix_nI (by omega), ix_nI (by omega), hf _ (by omega)]
    have hs := ih (j + 1) (by omega)
    rw [rs] at hs
    refine ⟨fun q => absurd q (nI_nl (by omega) (by omega)), fun _ => ⟨vp_in_nI (by omega) (by omega), vp_in_nI (by omega) (by omega), fun g v hv v2 hv2 => ?_, fun g v hv v2 hv2 => ?_⟩⟩
    · rw [hv, hv2, nI_1]
      rw [if_pos g] at hs
      exact hs
    · rw [hv2, hv, nI_1]
      rw [if_neg g] at hs
      exact hs
theorem rf_ag2_loop {p lo hi : Nat} (hlo : lo < 32) (h32 : hi < 32) (hf : ∀ k, k < 32 → σ.2 23 k = f k) {P : Int32 → Sg → Prop} (h : P (totR f lo hi) σ) : ∀ n j, j + n = hi + 1 - lo → bv_X6_again_116 P (n + 1) σ (nI (5 * p)) (nI lo) (nI hi) (rs (fun k => if f k = -1000 then 0 else f k) lo j) (nI (lo + j)) := by
  intro n
  induction n with
  | zero =>
    intro j hj
    rw [bv_X6_again_116]
    have e : j = hi + 1 - lo := by omega
    rw [e]
    exact ⟨fun _ => h, fun q => absurd (show nI hi < nI (lo + (hi + 1 - lo)) from nI_lt (by omega) (by omega)) q⟩
  | succ n ih =>
    intro j hj
    rw [bv_X6_again_116]
    dsimp only
    simp only [bv_X6_again_148]
    rw [ix_nI (by omega), hf _ (by omega)]
    have hs := ih (j + 1) (by omega)
    rw [rs] at hs
    refine ⟨fun q => absurd q (nI_nl (by omega) (by omega)), fun _ => ⟨vp_in_nI (by omega) (by omega), fun g => ⟨vp_in_nI (by omega) (by omega), fun v hv v2 hv2 => ?_⟩, fun g v hv v2 hv2 => ?_⟩⟩
    · rw [hv, hv2, nI_1]
      rw [if_neg g] at hs
      exact hs
    · rw [hv2, hv, nI_1]
      rw [if_pos g] at hs
      exact hs
/-- the number of an operation in the reference's row -/
def opN (σ : Sg) (kd p : Nat) : Int32 := if kd = 1 then σ.2 8 (5 * p + 3) else σ.2 8 (5 * p + 2)
theorem rf_addedTo {v d : Int32} {P : Int32 → Sg → Prop} (h : P (addI v d) σ) : v_X6_addedTo σ v d P := by
  unfold v_X6_addedTo bv_X6_addedTo_12
  unfold addI at h
  refine ⟨fun q => ?_, fun q => ?_⟩
  · rw [if_neg q] at h; exact h
  · rw [if_pos q] at h; exact h
theorem rf_again {p kd lo hi : Nat} (hp : p < 1920) (hk : σ.2 8 (5 * p) = nI kd) (hkd : kd < 6) (hl : σ.2 8 (5 * p + 1) = nI lo) (hlo : lo < 32) (hh : kd = 1 ∨ kd = 2 → σ.2 8 (5 * p + 2) = nI hi ∧ hi < 32) (hf : ∀ k, k < 32 → σ.2 23 k = f k) {P : Int32 → Sg → Prop} (h : ∀ σ', sc23 σ' σ → (∀ k, k < 32 → σ'.2 23 k = caF kd lo (opN σ kd p) f k) → P (if kd = 3 ∨ kd = 4 then 0 else caV kd lo hi (opN σ kd p) f) σ') : v_X6_again σ (nI (5 * p)) P := by
  have kt : (σ.2 8 (5 * p)).toInt = (kd : Int) := by rw [hk, nI_toInt (by omega)]
  have r0 : sc23 σ σ := ⟨rfl, fun _ _ => rfl⟩
  have sa : ∀ v, ∀ k, k < 32 → (sA σ 23 lo v).2 23 k = fset f lo v k := fun v k hk => by
    rw [sA_at]
    unfold fset
    by_cases q : k = lo
    · rw [if_pos q, if_pos q]
    · rw [if_neg q, if_neg q]; exact hf k hk
  unfold v_X6_again
  rw [nI_1, nI_2, ix_nI (by omega), ix_nI (by omega), ix_nI (by omega), kt, hl]
  refine ⟨vp_in_nI (by omega) (by omega), fun v2 hv2 => ⟨vp_in_nI (by omega) (by omega), fun v4 hv4 => ⟨vp_in_nI (by omega) (by omega), ?_⟩⟩⟩
  rw [hv2, hv4, ix_nI (by omega), hf lo hlo]
  refine ⟨fun q => ?_, fun q => ?_, fun q => ?_, fun q => ?_, fun q => ?_, fun q => ?_⟩
  · have e : kd = 0 := by omega
    subst e
    exact ⟨vp_in_nI (by omega) (by omega), h σ r0 hf⟩
  · have e : kd = 1 := by omega
    subst e
    rw [(hh (Or.inl rfl)).1]
    exact ⟨(hi + 1 - lo) + 1, rf_ag1_loop hp hlo (hh (Or.inl rfl)).2 hf (h σ r0 hf) _ 0 (by omega)⟩
  · have e : kd = 2 := by omega
    subst e
    rw [(hh (Or.inr rfl)).1]
    exact ⟨(hi + 1 - lo) + 1, rf_ag2_loop hlo (hh (Or.inr rfl)).2 hf (h σ r0 hf) _ 0 (by omega)⟩
  · have e : kd = 3 := by omega
    subst e
    refine ⟨vp_in_nI (by omega) (by omega), fun σ8 h8 => ?_⟩
    rw [h8]
    exact h _ (r0.put _ _) (sa _)
  · have e : kd = 4 := by omega
    subst e
    refine ⟨vp_in_nI (by omega) (by omega), fun σ8 h8 => ?_⟩
    rw [h8]
    exact h _ (r0.put _ _) (sa _)
  · have e : kd = 5 := by omega
    subst e
    refine ⟨vp_in_nI (by omega) (by omega), rf_addedTo ⟨vp_in_nI (by omega) (by omega), fun σ8 h8 => ⟨vp_in_nI (by omega) (by omega), ?_⟩⟩⟩
    rw [h8, sa _ lo hlo]
    have := h _ (r0.put lo (addI (f lo) (σ.2 8 (5 * p + 2)))) (sa _)
    unfold fset
    rw [if_pos rfl]
    exact this
end AG
