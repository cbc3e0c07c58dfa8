/-! an operation is listed -/
def lS (σ : Sg) (t z : Nat) (kd a b c r : Int32) : Sg := sA (sA (sA (sA (sA (sA σ 8 (5 * (24 * t + z)) kd) 8 (5 * (24 * t + z) + 1) a) 8 (5 * (24 * t + z) + 2) b) 8 (5 * (24 * t + z) + 3) c) 8 (5 * (24 * t + z) + 4) r) 7 t (nI (z + 1))
def rR (σ : Sg) (t p : Nat) (lo hi least clk : Int32) : Sg := sA (sA (sA (sA (sA σ 11 (4 * (24 * t + p)) lo) 11 (4 * (24 * t + p) + 1) hi) 11 (4 * (24 * t + p) + 2) least) 11 (4 * (24 * t + p) + 3) clk) 12 t (nI (p + 1))
theorem lS_row (σ : Sg) (t z : Nat) (kd a b c r : Int32) : (lS σ t z kd a b c r).1 = σ.1 ∧ (∀ j, j ≠ 7 → j ≠ 8 → (lS σ t z kd a b c r).2 j = σ.2 j) ∧ (∀ i, (lS σ t z kd a b c r).2 7 i = if i = t then nI (z + 1) else σ.2 7 i) ∧ (∀ i, (i < 5 * (24 * t + z) ∨ 5 * (24 * t + z) + 5 ≤ i) → (lS σ t z kd a b c r).2 8 i = σ.2 8 i) ∧ (lS σ t z kd a b c r).2 8 (5 * (24 * t + z)) = kd ∧ (lS σ t z kd a b c r).2 8 (5 * (24 * t + z) + 1) = a ∧ (lS σ t z kd a b c r).2 8 (5 * (24 * t + z) + 2) = b ∧ (lS σ t z kd a b c r).2 8 (5 * (24 * t + z) + 3) = c ∧ (lS σ t z kd a b c r).2 8 (5 * (24 * t + z) + 4) = r := by
  unfold lS
  refine ⟨rfl, fun j h7 h8 => ?_, fun i => ?_, fun i hi => ?_, ?_, ?_, ?_, ?_, ?_⟩
  · rw [sA_ne _ h7, sA_ne _ h8, sA_ne _ h8, sA_ne _ h8, sA_ne _ h8, sA_ne _ h8]
  · rw [sA_at, sA_ne _ (by decide), sA_ne _ (by decide), sA_ne _ (by decide), sA_ne _ (by decide), sA_ne _ (by decide)]
  · rw [sA_ne _ (by decide), sA_at, if_neg (by omega), sA_at, if_neg (by omega), sA_at, if_neg (by omega), sA_at, if_neg (by omega), sA_at, if_neg (by omega)]
  · rw [sA_ne _ (by decide), sA_at, if_neg (by omega), sA_at, if_neg (by omega), sA_at, if_neg (by omega), sA_at, if_neg (by omega), sA_at, if_pos rfl]
  · rw [sA_ne _ (by decide), sA_at, if_neg (by omega), sA_at, if_neg (by omega), sA_at, if_neg (by omega), sA_at, if_pos rfl]
  · rw [sA_ne _ (by decide), sA_at, if_neg (by omega), sA_at, if_neg (by omega), sA_at, if_pos rfl]
  · rw [sA_ne _ (by decide), sA_at, if_neg (by omega), sA_at, if_pos rfl]
  · rw [sA_ne _ (by decide), sA_at, if_pos rfl]
theorem rR_row (σ : Sg) (t p : Nat) (lo hi least clk : Int32) : (rR σ t p lo hi least clk).1 = σ.1 ∧ (∀ j, j ≠ 11 → j ≠ 12 → (rR σ t p lo hi least clk).2 j = σ.2 j) ∧ (∀ i, (rR σ t p lo hi least clk).2 12 i = if i = t then nI (p + 1) else σ.2 12 i) ∧ (∀ i, (i < 4 * (24 * t + p) ∨ 4 * (24 * t + p) + 4 ≤ i) → (rR σ t p lo hi least clk).2 11 i = σ.2 11 i) ∧ (rR σ t p lo hi least clk).2 11 (4 * (24 * t + p)) = lo ∧ (rR σ t p lo hi least clk).2 11 (4 * (24 * t + p) + 1) = hi ∧ (rR σ t p lo hi least clk).2 11 (4 * (24 * t + p) + 2) = least ∧ (rR σ t p lo hi least clk).2 11 (4 * (24 * t + p) + 3) = clk := by
  unfold rR
  refine ⟨rfl, fun j h7 h8 => ?_, fun i => ?_, fun i hi => ?_, ?_, ?_, ?_, ?_⟩
  · rw [sA_ne _ h8, sA_ne _ h7, sA_ne _ h7, sA_ne _ h7, sA_ne _ h7]
  · rw [sA_at, sA_ne _ (by decide), sA_ne _ (by decide), sA_ne _ (by decide), sA_ne _ (by decide)]
  · rw [sA_ne _ (by decide), sA_at, if_neg (by omega), sA_at, if_neg (by omega), sA_at, if_neg (by omega), sA_at, if_neg (by omega)]
  · rw [sA_ne _ (by decide), sA_at, if_neg (by omega), sA_at, if_neg (by omega), sA_at, if_neg (by omega), sA_at, if_pos rfl]
  · rw [sA_ne _ (by decide), sA_at, if_neg (by omega), sA_at, if_neg (by omega), sA_at, if_pos rfl]
  · rw [sA_ne _ (by decide), sA_at, if_neg (by omega), sA_at, if_pos rfl]
  · rw [sA_ne _ (by decide), sA_at, if_pos rfl]
theorem lS_eqv {x y : Sg} (h : eqv x y) (t z : Nat) (kd a b c r : Int32) : eqv (lS x t z kd a b c r) (lS y t z kd a b c r) := eqv_sA (eqv_sA (eqv_sA (eqv_sA (eqv_sA (eqv_sA h _ _ _) _ _ _) _ _ _) _ _ _) _ _ _) _ _ _
theorem rR_eqv {x y : Sg} (h : eqv x y) (t p : Nat) (lo hi least clk : Int32) : eqv (rR x t p lo hi least clk) (rR y t p lo hi least clk) := eqv_sA (eqv_sA (eqv_sA (eqv_sA (eqv_sA h _ _ _) _ _ _) _ _ _) _ _ _) _ _ _
theorem sA_comm (σ : Sg) {k k' : Nat} (h : k ≠ k') (i i' : Nat) (v v' : Int32) : sA (sA σ k i v) k' i' v' = sA (sA σ k' i' v') k i v := by
  refine Prod.ext rfl (funext fun j => funext fun x => ?_)
  by_cases h1 : j = k
  · subst h1
    rw [sA_ne _ h, sA_at, sA_at, sA_ne _ h]
  · by_cases h2 : j = k'
    · subst h2
      rw [sA_at, sA_ne _ h1, sA_ne _ h1, sA_at]
    · rw [sA_ne _ h2, sA_ne _ h1, sA_ne _ h1, sA_ne _ h2]
theorem lS_comm (σ : Sg) {k : Nat} (h7 : k ≠ 7) (h8 : k ≠ 8) (i : Nat) (v : Int32) (t z : Nat) (kd a b c r : Int32) : lS (sA σ k i v) t z kd a b c r = sA (lS σ t z kd a b c r) k i v := by
  unfold lS
  rw [sA_comm σ h8, sA_comm _ h8, sA_comm _ h8, sA_comm _ h8, sA_comm _ h8, sA_comm _ h7]
/-- the rows of an operation by its kind -/
def bO (kd hi : Nat) (num : Int32) : Int32 := if kd = 1 ∨ kd = 2 then nI hi else if kd = 3 ∨ kd = 5 then num else 0
def cO (kd : Nat) (num : Int32) : Int32 := if kd = 1 then num else 0
def rO (kd : Nat) (r : Int32) : Int32 := if kd = 3 ∨ kd = 4 then 0 else r
def g1 (σ : Sg) (C t p kd lo hi : Nat) (num : Int32) : Sg := if kd = 1 ∨ kd = 2 then rR σ t p (nI lo) (nI hi) num (nI C) else σ
def gL (σ : Sg) (C t z p kd lo hi : Nat) (num r : Int32) : Sg := lS (g1 σ C t p kd lo hi num) t z (nI kd) (nI lo) (bO kd hi num) (cO kd num) (rO kd r)
theorem g1_row (σ : Sg) (C t p kd lo hi : Nat) (num : Int32) : (g1 σ C t p kd lo hi num).1 = σ.1 ∧ (∀ j, j ≠ 11 → j ≠ 12 → (g1 σ C t p kd lo hi num).2 j = σ.2 j) ∧ (∀ i, (g1 σ C t p kd lo hi num).2 12 i = if (kd = 1 ∨ kd = 2) ∧ i = t then nI (p + 1) else σ.2 12 i) ∧ (∀ i, (i < 4 * (24 * t + p) ∨ 4 * (24 * t + p) + 4 ≤ i) → (g1 σ C t p kd lo hi num).2 11 i = σ.2 11 i) := by
  unfold g1
  by_cases h : kd = 1 ∨ kd = 2
  · rw [if_pos h]
    obtain ⟨a, b, c, d, -⟩ := rR_row σ t p (nI lo) (nI hi) num (nI C)
    refine ⟨a, b, fun i => ?_, d⟩
    rw [c]
    by_cases e : i = t
    · rw [if_pos e, if_pos ⟨h, e⟩]
    · rw [if_neg e, if_neg (fun q => e q.2)]
  · rw [if_neg h]
    exact ⟨rfl, fun _ _ _ => rfl, fun i => by rw [if_neg (fun q => h q.1)], fun _ _ => rfl⟩
theorem gL_row (σ : Sg) (C t z p kd lo hi : Nat) (num r : Int32) : (gL σ C t z p kd lo hi num r).1 = σ.1 ∧ (∀ j, j ≠ 7 → j ≠ 8 → j ≠ 11 → j ≠ 12 → (gL σ C t z p kd lo hi num r).2 j = σ.2 j) ∧ (∀ i, (gL σ C t z p kd lo hi num r).2 7 i = if i = t then nI (z + 1) else σ.2 7 i) ∧ (∀ i, (i < 5 * (24 * t + z) ∨ 5 * (24 * t + z) + 5 ≤ i) → (gL σ C t z p kd lo hi num r).2 8 i = σ.2 8 i) ∧ (∀ i, (gL σ C t z p kd lo hi num r).2 12 i = if (kd = 1 ∨ kd = 2) ∧ i = t then nI (p + 1) else σ.2 12 i) ∧ (∀ i, (i < 4 * (24 * t + p) ∨ 4 * (24 * t + p) + 4 ≤ i) → (gL σ C t z p kd lo hi num r).2 11 i = σ.2 11 i) := by
  obtain ⟨a1, a2, a3, a4⟩ := g1_row σ C t p kd lo hi num
  obtain ⟨b1, b2, b3, b4, -⟩ := lS_row (g1 σ C t p kd lo hi num) t z (nI kd) (nI lo) (bO kd hi num) (cO kd num) (rO kd r)
  unfold gL
  refine ⟨b1.trans a1, fun j h7 h8 h11 h12 => (b2 j h7 h8).trans (a2 j h11 h12), fun i => ?_, fun i hi => (b4 i hi).trans ?_, fun i => ?_, fun i hi => ?_⟩
  · rw [b3, a2 7 (by decide) (by decide)]
  · rw [a2 8 (by decide) (by decide)]
  · rw [b2 12 (by decide) (by decide)]; exact a3 i
  · rw [b2 11 (by decide) (by decide)]; exact a4 i hi
theorem gL_eqv {a b : Sg} (h : eqv a b) (C t z p kd lo hi : Nat) (num r : Int32) : eqv (gL a C t z p kd lo hi num r) (gL b C t z p kd lo hi num r) := by
  unfold gL g1
  by_cases q : kd = 1 ∨ kd = 2
  · rw [if_pos q, if_pos q]; exact lS_eqv (rR_eqv h _ _ _ _ _ _) _ _ _ _ _ _ _
  · rw [if_neg q, if_neg q]; exact lS_eqv h _ _ _ _ _ _ _
theorem OpR_tr {S S' : MS} {loc loc' : Nat → Nat} {σ σ' : Sg} {t i : Nat} (hl : loc' (1000 + (24 * t + i)) = loc (1000 + (24 * t + i))) (hk : kT S' (loc (1000 + (24 * t + i))) = kT S (loc (1000 + (24 * t + i)))) (hI : sI S' (loc (1000 + (24 * t + i))) = sI S (loc (1000 + (24 * t + i)))) (hR : sR S' (loc' (300 + t)) i = sR S (loc (300 + t)) i) (h8 : ∀ j, j < 5 → σ'.2 8 (5 * (24 * t + i) + j) = σ.2 8 (5 * (24 * t + i) + j)) (hp : isPr σ t i = true → cP σ' t i = cP σ t i ∧ ∀ j, j < 4 → σ'.2 11 (4 * (24 * t + cP σ t i) + j) = σ.2 11 (4 * (24 * t + cP σ t i) + j)) (o : OpR S loc σ t i) : OpR S' loc' σ' t i := by
  have e0 := h8 0 (by omega)
  have e1 := h8 1 (by omega)
  have e2 := h8 2 (by omega)
  have e3 := h8 3 (by omega)
  have e4 := h8 4 (by omega)
  rw [Nat.add_zero] at e0
  obtain ⟨o1, o2, o3, o4, o5, o6, o7, o8, o9, o10, o11, o12, o13, o14⟩ := o
  unfold OpR
  rw [hl, hk, hI, hR, e0, e1, e2, e3, e4]
  refine ⟨o1, o2, o3, o4, o5, o6, o7, o8, o9, o10, fun q => ?_, o12, o13, o14⟩
  obtain ⟨c1, c2⟩ := hp (by unfold isPr; simpa using q)
  have d0 := c2 0 (by omega)
  have d1 := c2 1 (by omega)
  have d2 := c2 2 (by omega)
  have d3 := c2 3 (by omega)
  rw [Nat.add_zero] at d0
  rw [c1, d0, d1, d2, d3]
  exact o11 q
def locO (loc : Nat → Nat) (n q : Nat) : Nat → Nat := fun r => if r = n then q else loc r
def owO (ow : Nat → Nat) (n q : Nat) : Nat → Nat := fun a => if a = q then n else ow a
section LST
variable {S S' : MS} {l1 l2 l3 l4 : Nat} {loc ow : Nat → Nat} {σ σ1 : Sg} {M C N : Nat}
theorem us_op {t z : Nat} (ht : t < M) (hz : σ1.2 7 t = nI z) (h24 : z < 24) {σ2 : Sg} (h7 : ∀ i, σ2.2 7 i = if i = t then nI (z + 1) else σ1.2 7 i) {r : Nat} (h : Us σ2 M N r) : Us σ1 M N r ∨ r = 1000 + (24 * t + z) := by
  unfold Us at h ⊢
  rcases h with h | h | h | h | h | h | h | ⟨u, i, z', hu, hz', h24', hi, e⟩ | h | h | h
  · exact Or.inl (Or.inl h)
  · exact Or.inl (Or.inr (Or.inl h))
  · exact Or.inl (Or.inr (Or.inr (Or.inl h)))
  · exact Or.inl (Or.inr (Or.inr (Or.inr (Or.inl h))))
  · exact Or.inl (Or.inr (Or.inr (Or.inr (Or.inr (Or.inl h)))))
  · exact Or.inl (Or.inr (Or.inr (Or.inr (Or.inr (Or.inr (Or.inl h))))))
  · exact Or.inl (Or.inr (Or.inr (Or.inr (Or.inr (Or.inr (Or.inr (Or.inl h)))))))
  · rw [h7] at hz'
    by_cases q : u = t
    · rw [if_pos q] at hz'
      have : z' = z + 1 := ((nI_eq (by omega) (by omega)).mp hz').symm
      by_cases q2 : i = z
      · right; rw [e, q, q2]
      · left
        exact Or.inr (Or.inr (Or.inr (Or.inr (Or.inr (Or.inr (Or.inr (Or.inl ⟨t, i, z, ht, hz, by omega, by omega, by rw [e, q]⟩)))))))
    · rw [if_neg q] at hz'
      exact Or.inl (Or.inr (Or.inr (Or.inr (Or.inr (Or.inr (Or.inr (Or.inr (Or.inl ⟨u, i, z', hu, hz', h24', hi, e⟩))))))))
  · exact Or.inl (Or.inr (Or.inr (Or.inr (Or.inr (Or.inr (Or.inr (Or.inr (Or.inr (Or.inl h)))))))))
  · exact Or.inl (Or.inr (Or.inr (Or.inr (Or.inr (Or.inr (Or.inr (Or.inr (Or.inr (Or.inr (Or.inl h))))))))))
  · exact Or.inl (Or.inr (Or.inr (Or.inr (Or.inr (Or.inr (Or.inr (Or.inr (Or.inr (Or.inr (Or.inr h))))))))))
theorem us_opn (hM : M ≤ 80) (hN : N ≤ 3) {t z : Nat} (ht : t < M) (hz : σ1.2 7 t = nI z) (h24 : z < 24) {r : Nat} (h : Us σ1 M N r) : r ≠ 1000 + (24 * t + z) := by
  unfold Us at h
  rcases h with h | h | h | h | h | h | h | ⟨u, i, z', hu, hz', h24', hi, e⟩ | h | ⟨k, hk, e⟩ | h
  · omega
  · omega
  · omega
  · omega
  · omega
  · omega
  · omega
  · intro q
    have e2 : u = t ∧ i = z := by omega
    rw [e2.1, hz] at hz'
    have := (nI_eq (by omega) (by omega)).mp hz'
    omega
  · omega
  · omega
  · omega
set_option maxHeartbeats 2000000 in
theorem mr_list (h : MR S l1 l2 l3 l4 loc ow σ σ1 M C N) {t z kd lo hi q : Nat} {num r : Int32} (ht : t < M) (hz : σ1.2 7 t = nI z) (h24 : z < 24) (hkd : kd < 6) (hlo : lo < 32) (hhi : hi < 32) (o : Opq S loc σ1 M N q (nI kd) (nI lo) (nI hi) num) (o4 : sI S q 4 = nI C) (o5 : sI S q 5 = r) (hnum : kd = 1 ∨ kd = 2 → -999 ≤ num) (hr3 : kd = 3 → r = num) (hr4 : kd = 4 → r = -1000) : MR (pI (pR S (loc (300 + t)) z q) (loc (200 + t)) 5 (nI (z + 1))) l1 l2 l3 l4 (locO loc (1000 + (24 * t + z)) q) (owO ow (1000 + (24 * t + z)) q) σ (gL σ1 C t z (cP σ1 t z) kd lo hi num r) M C N := by
  obtain ⟨hM, hC, hN⟩ := h.bd
  obtain ⟨ua, ub, uc, ud⟩ := us_t (σ := σ1) (N := N) ht
  obtain ⟨b0, b1, b2, b3, b4, b5⟩ := gL_row σ1 C t z (cP σ1 t z) kd lo hi num r
  obtain ⟨q1, q2, q3, q4, q5, q6, q7⟩ := o
  have hP := cP_le σ1 t z
  have el : ∀ {x}, Us σ1 M N x → locO loc (1000 + (24 * t + z)) q x = loc x := fun {x} hx => if_neg (us_opn hM hN ht hz h24 hx)
  have Ln : locO loc (1000 + (24 * t + z)) q (1000 + (24 * t + z)) = q := if_pos rfl
  have nba : loc (300 + t) ≠ loc (200 + t) := h.ne ub ua (by omega)
  have sm : ∀ {x}, x ≠ loc (200 + t) → x ≠ loc (300 + t) → Sm S (pI (pR S (loc (300 + t)) z q) (loc (200 + t)) 5 (nI (z + 1))) x := fun h1 h2 => (sm_pR h2).tr (sm_pI h1)
  have smr : ∀ {x}, Us σ1 M N x → x ≠ 200 + t → x ≠ 300 + t → Sm S (pI (pR S (loc (300 + t)) z q) (loc (200 + t)) 5 (nI (z + 1))) (loc x) := fun hx h1 h2 => sm (h.ne hx ua h1) (h.ne hx ub h2)
  have smq : Sm S (pI (pR S (loc (300 + t)) z q) (loc (200 + t)) 5 (nI (z + 1))) q := sm (Ne.symm (q3 _ ua)) (Ne.symm (q3 _ ub))
  have ri : ∀ {x}, Us σ1 M N x → x ≠ 200 + t → sI (pI (pR S (loc (300 + t)) z q) (loc (200 + t)) 5 (nI (z + 1))) (loc x) = sI S (loc x) := fun {x} hx h1 => by
    show u2 S.2.1 (loc (200 + t)) 5 (nI (z + 1)) (loc x) = _
    rw [u2_ne _ _ _ (h.ne hx ua h1)]; rfl
  have rr : ∀ {x}, Us σ1 M N x → x ≠ 300 + t → sR (pI (pR S (loc (300 + t)) z q) (loc (200 + t)) 5 (nI (z + 1))) (loc x) = sR S (loc x) := fun {x} hx h1 => by
    show u2 S.2.2.1 (loc (300 + t)) z q (loc x) = _
    rw [u2_ne _ _ _ (h.ne hx ub h1)]; rfl
  have xa : ∀ j, sI (pI (pR S (loc (300 + t)) z q) (loc (200 + t)) 5 (nI (z + 1))) (loc (200 + t)) j = if j = 5 then nI (z + 1) else sI S (loc (200 + t)) j := fun j => by
    rw [sI_pI, if_pos rfl]; rfl
  have xb : ∀ j, sR (pI (pR S (loc (300 + t)) z q) (loc (200 + t)) 5 (nI (z + 1))) (loc (300 + t)) j = if j = z then q else sR S (loc (300 + t)) j := fun j => by
    show sR (pR S (loc (300 + t)) z q) (loc (300 + t)) j = _
    rw [sR_pR, if_pos rfl]
  have kk : (pI (pR S (loc (300 + t)) z q) (loc (200 + t)) 5 (nI (z + 1))).1 = S.1 := rfl
  have kT' : ∀ x, kT (pI (pR S (loc (300 + t)) z q) (loc (200 + t)) 5 (nI (z + 1))) x = kT S x := fun x => rfl
  have kL' : ∀ x, kL (pI (pR S (loc (300 + t)) z q) (loc (200 + t)) 5 (nI (z + 1))) x = kL S x := fun x => rfl
  have hcP : ∀ u i, (u = t → i ≤ z) → i ≤ 24 → cP (gL σ1 C t z (cP σ1 t z) kd lo hi num r) u i = cP σ1 u i := fun u i h1 h2 => cP_at (fun i' hi' => b3 _ (by
    by_cases e : u = t
    · have := h1 e; omega
    · omega))
  refine mr_mk h (fun x hx => if_neg (by omega)) (el (us_s (by omega) (by omega))) (sm (Ne.symm (h.nz ua)) (Ne.symm (h.nz ub))) (fun x hx h5 => smr hx (by omega) (by omega)) (fun x hx => ?_) (fun x hx => h.2.2.2.2.2.2.2.2.2.1 x hx) ⟨hM, hC, hN⟩ ?_
  · rcases us_op ht hz h24 b2 hx with g | g
    · rw [el g]
      refine ⟨?_, (h.owr x g).2⟩
      unfold owO
      rw [if_neg (q3 x g)]; exact (h.owr x g).1
    · rw [g, Ln]
      refine ⟨?_, by rw [kT', q1]; decide⟩
      unfold owO; rw [if_pos rfl]
  · obtain ⟨r1, r2, r3, r4, r5, r6, r7, r8, r9⟩ := h.rc
    refine ⟨?_, fun c hc => ?_, fun u hu => ?_, fun u hu j hj => ?_, fun u hu i z' hz' h24' hi' => ?_, fun c hc' j hj => ?_, fun c h1 hc' u hu hq => ?_, fun i hi' => ?_, fun y i hy h60 hi' => ?_⟩
    · have us : ∀ x, 1 ≤ x → x ≤ 11 → Us σ1 M N x := fun x ha hb => us_s ha hb
      unfold StR at r1 ⊢
      rw [el (us 1 (by omega) (by omega)), el (us 2 (by omega) (by omega)), el (us 3 (by omega) (by omega)), el (us 4 (by omega) (by omega)), el (us 5 (by omega) (by omega)), el (us 6 (by omega) (by omega)), el (us 7 (by omega) (by omega)), el (us 8 (by omega) (by omega)), el (us 9 (by omega) (by omega)), el (us 10 (by omega) (by omega)), el (us 11 (by omega) (by omega))]
      rw [ri (us 1 (by omega) (by omega)) (by omega), ri (us 2 (by omega) (by omega)) (by omega), ri (us 5 (by omega) (by omega)) (by omega), rr (us 1 (by omega) (by omega)) (by omega), rr (us 2 (by omega) (by omega)) (by omega), rr (us 5 (by omega) (by omega)) (by omega), b0]
      exact r1
    · have := r2 c hc
      have u := us_r (σ := σ1) (M := M) (N := N) hc
      have u8 : Us σ1 M N 8 := us_s (by omega) (by omega)
      unfold RwR at this ⊢
      rw [el u, el u8, rr u8 (by omega)]
      exact this
    · obtain ⟨va, vb, vc, vd⟩ := us_t (σ := σ1) (N := N) hu
      have u3 : Us σ1 M N 3 := us_s (by omega) (by omega)
      have := r3 u hu
      unfold TxR at this ⊢
      rw [el va, el vb, el vc, el vd, el u3, rr u3 (by omega), rr va (by omega), b1 3 (by decide) (by decide) (by decide) (by decide), b1 2 (by decide) (by decide) (by decide) (by decide), b1 4 (by decide) (by decide) (by decide) (by decide), b1 5 (by decide) (by decide) (by decide) (by decide), b1 6 (by decide) (by decide) (by decide) (by decide), b2]
      by_cases e : u = t
      · subst e
        rw [if_pos rfl, xa, if_neg (by decide), xa, if_neg (by decide), xa, if_pos rfl, xa, if_neg (by decide), xa, if_neg (by decide), xa, if_neg (by decide), xa, if_neg (by decide)]
        obtain ⟨t1, t2, t3, t4, t5, t6, t7, t8, t9, t10, t11, t12, t13, t14, t15⟩ := this
        exact ⟨t1, t2, t3, t4, t5, t6, t7, t8, t9, t10, t11, t12, t13, rfl, t15⟩
      · rw [if_neg e, ri va (by omega)]
        exact this
    · obtain ⟨va, vb, vc, vd⟩ := us_t (σ := σ1) (N := N) hu
      have := r4 u hu j hj
      have f : ∀ {j}, j ≠ 5 → sI (pI (pR S (loc (300 + t)) z q) (loc (200 + t)) 5 (nI (z + 1))) (loc (200 + u)) j = sI S (loc (200 + u)) j := fun {j} hj => by
        by_cases e : u = t
        · rw [e, xa, if_neg hj]
        · rw [ri va (by omega)]
      unfold KyR at this ⊢
      rw [el va, el vc, el vd, f (by decide), f (by decide), ri vc (by omega), ri vd (by omega), b1 9 (by decide) (by decide) (by decide) (by decide), b1 10 (by decide) (by decide) (by decide) (by decide)]
      exact this
    · obtain ⟨va, vb, vc, vd⟩ := us_t (σ := σ1) (N := N) hu
      rw [b2] at hz'
      have old : ∀ (zu : Nat), σ1.2 7 u = nI zu → zu ≤ 24 → i < zu → (u = t → i < z) → OpR (pI (pR S (loc (300 + t)) z q) (loc (200 + t)) 5 (nI (z + 1))) (locO loc (1000 + (24 * t + z)) q) (gL σ1 C t z (cP σ1 t z) kd lo hi num r) u i := fun zu hzu h24u hiu hne => by
        have uz := us_z (N := N) hu hzu h24u hiu
        refine OpR_tr (S := S) (loc := loc) (σ := σ1) (el uz) rfl (ri uz (by omega)) ?_ (fun j hj => b3 _ ?_) (fun hpr => ⟨hcP u i (fun e => by have := hne e; omega) (by omega), fun j hj => b5 _ ?_⟩) (r5 u hu i zu hzu h24u hiu)
        · rw [el vb]
          by_cases e : u = t
          · have := hne e
            rw [e, xb, if_neg (by omega)]
          · rw [rr vb (by omega)]
        · by_cases e : u = t
          · have := hne e; subst e; omega
          · omega
        · have hci := cP_le σ1 u i
          by_cases e : u = t
          · have := hne e
            subst e
            have h1 : cP σ1 u (i + 1) = cP σ1 u i + 1 := by rw [cP, if_pos hpr]
            have h2 := cP_mono (σ := σ1) (t := u) (show i + 1 ≤ z by omega)
            omega
          · omega
      by_cases e : u = t
      · subst e
        rw [if_pos rfl] at hz'
        have ez : z' = z + 1 := ((nI_eq (by omega) (by omega)).mp hz').symm
        by_cases e2 : i = z
        · subst e2
          obtain ⟨c0, c1, c2, c3, c4, c5, c6, c7, c8⟩ := lS_row (g1 σ1 C u (cP σ1 u i) kd lo hi num) u i (nI kd) (nI lo) (bO kd hi num) (cO kd num) (rO kd r)
          have nk : ∀ {n : Nat}, n < 100 → nI kd = nI n → kd = n := fun hn e => (nI_eq (by omega) (by omega)).mp e
          unfold OpR
          rw [el ub, Ln, kT', smq.2.1, xb, if_pos rfl, hcP u i (fun _ => Nat.le_refl _) (by omega)]
          unfold gL
          rw [c4, c5, c6, c7, c8, c1 11 (by decide) (by decide), q4, q5, q6, q7, o4, o5]
          refine ⟨q1, rfl, rfl, rfl, ⟨kd, hkd, rfl⟩, ⟨lo, hlo, rfl⟩, fun g => ?_, fun g => ?_, fun g => hr3 (nk (n := 3) (by omega) g), fun g => hr4 (nk (n := 4) (by omega) g), fun g => ?_, fun g => ?_, fun g => ?_, ⟨C, hC, rfl⟩⟩
          · unfold rO
            rw [if_neg]
            rcases g with g | g | g | g
            · have := nk (n := 0) (by omega) g; omega
            · have := nk (n := 1) (by omega) g; omega
            · have := nk (n := 2) (by omega) g; omega
            · have := nk (n := 5) (by omega) g; omega
          · have : kd = 3 ∨ kd = 5 := g.imp (fun g => nk (n := 3) (by omega) g) (fun g => nk (n := 5) (by omega) g)
            unfold bO
            rw [if_neg (by omega), if_pos this]
          · have g' : kd = 1 ∨ kd = 2 := g.imp (fun g => nk (n := 1) (by omega) g) (fun g => nk (n := 2) (by omega) g)
            obtain ⟨e0, e1, e2, e3, e4, e5, e6, e7⟩ := rR_row σ1 u (cP σ1 u i) (nI lo) (nI hi) num (nI C)
            unfold g1 bO
            rw [if_pos g', if_pos g', e4, e5, e6, e7]
            exact ⟨rfl, ⟨hi, hhi, rfl⟩, rfl, rfl, rfl, rfl, ⟨C, hC, rfl⟩, hnum g'⟩
          · have := nk (n := 1) (by omega) g
            unfold cO
            rw [if_pos this]
          · have : kd = 3 ∨ kd = 4 := g.imp (fun g => nk (n := 3) (by omega) g) (fun g => nk (n := 4) (by omega) g)
            unfold rO
            rw [if_pos this]
        · exact old z hz (by omega) (by omega) (fun _ => by omega)
      · rw [if_neg e] at hz'
        exact old z' hz' h24' hi' (fun q => absurd q e)
    · have u := us_r (σ := σ1) (M := M) (N := N) (show c ≤ 60 by omega)
      rw [el u, ri u (by omega), b1 15 (by decide) (by decide) (by decide) (by decide)]
      exact r6 c hc' j hj
    · have u9 : Us σ1 M N 9 := us_s (by omega) (by omega)
      rw [b1 16 (by decide) (by decide) (by decide) (by decide)] at hq
      rw [el u9, el (us_t (σ := σ1) (N := N) hu).1, rr u9 (by omega)]
      exact r7 c h1 hc' u hu hq
    · have u := us_c (σ := σ1) (M := M) hi'
      have u4 : Us σ1 M N 4 := us_s (by omega) (by omega)
      have := r8 i hi'
      unfold CnR at this ⊢
      rw [el u, el u4, rr u4 (by omega), ri u (by omega), b1 20 (by decide) (by decide) (by decide) (by decide)]
      exact this
    · have u : Us σ1 M N 10 := us_s (by omega) (by omega)
      rw [b0] at hy
      rw [el u, ri u (by omega), b1 24 (by decide) (by decide) (by decide) (by decide)]
      exact r9 y i hy h60 hi'
end LST
