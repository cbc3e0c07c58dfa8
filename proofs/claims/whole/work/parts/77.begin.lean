/-! a new transaction -/
def fil (σ : Sg) (M n : Nat) : Sg := (σ.1, fun j i => if j = 9 then (if 32 * M ≤ i ∧ i < 32 * M + n then -1 else σ.2 j i) else if j = 10 then (if 32 * M ≤ i ∧ i < 32 * M + n then -5000 else σ.2 j i) else σ.2 j i)
theorem fil_row (σ : Sg) (M : Nat) (n : Nat) : (fil σ M n).1 = σ.1 ∧ (∀ j, j ≠ 9 → j ≠ 10 → (fil σ M n).2 j = σ.2 j) ∧ (∀ i, (fil σ M n).2 9 i = if 32 * M ≤ i ∧ i < 32 * M + n then -1 else σ.2 9 i) ∧ (∀ i, (fil σ M n).2 10 i = if 32 * M ≤ i ∧ i < 32 * M + n then -5000 else σ.2 10 i) := by
  refine ⟨rfl, fun j h9 h10 => ?_, fun i => ?_, fun i => ?_⟩
  · funext i
    simp only [fil, if_neg h9, if_neg h10]
  · simp only [fil, if_pos]
  · simp only [fil, if_pos]
    rw [if_neg (by decide)]
theorem fil_0 (σ : Sg) (M : Nat) : fil σ M 0 = σ := by
  unfold fil
  refine Prod.ext rfl (funext fun j => funext fun i => ?_)
  have : ¬ (32 * M ≤ i ∧ i < 32 * M + 0) := by omega
  simp only [if_neg this, ite_self]
theorem fil_s (σ : Sg) (M k : Nat) : sA (sA (fil σ M k) 9 (32 * M + k) (-1)) 10 (32 * M + k) (-5000) = fil σ M (k + 1) := by
  refine Prod.ext rfl (funext fun j => funext fun i => ?_)
  by_cases h9 : j = 9
  · rw [h9, sA_ne _ (by decide), sA_at, (fil_row σ M k).2.2.1, (fil_row σ M (k + 1)).2.2.1]
    by_cases e : i = 32 * M + k
    · rw [if_pos e, if_pos (by omega)]
    · rw [if_neg e]
      by_cases q : 32 * M ≤ i ∧ i < 32 * M + k
      · rw [if_pos q, if_pos (by omega)]
      · rw [if_neg q, if_neg (by omega)]
  · by_cases h10 : j = 10
    · rw [h10, sA_at, sA_ne _ (by decide), (fil_row σ M k).2.2.2, (fil_row σ M (k + 1)).2.2.2]
      by_cases e : i = 32 * M + k
      · rw [if_pos e, if_pos (by omega)]
      · rw [if_neg e]
        by_cases q : 32 * M ≤ i ∧ i < 32 * M + k
        · rw [if_pos q, if_pos (by omega)]
        · rw [if_neg q, if_neg (by omega)]
    · rw [sA_ne _ h10, sA_ne _ h9, (fil_row σ M k).2.1 j h9 h10, (fil_row σ M (k + 1)).2.1 j h9 h10]
theorem fil_eqv {a b : Sg} (h : eqv a b) (M : Nat) (n : Nat) : eqv (fil a M n) (fil b M n) := by
  have e : ∀ j, a.2 j = b.2 j → (fil a M n).2 j = (fil b M n).2 j := fun j q => by
    funext i
    simp only [fil, q]
  obtain ⟨h1, b2, b3, b4, b5, b6, b7, b8, b9, b10, b11, b12, b15, b16, b20, b24⟩ := h
  exact ⟨h1, e _ b2, e _ b3, e _ b4, e _ b5, e _ b6, e _ b7, e _ b8, e _ b9, e _ b10, e _ b11, e _ b12, e _ b15, e _ b16, e _ b20, e _ b24⟩
def bR (σ : Sg) (M : Nat) (a : Int32) : Sg := fil (sA (sA (sA (sA σ 2 M 0) 3 M a) 7 M 0) 12 M 0) M 32
def bG (σ : Sg) (M : Nat) (a : Int32) : Sg := sF (sF (bR σ M a) 13 (if ¬ a ≤ σ.1 19 ∧ σ.1 13 = -1 then nI M else σ.1 13)) 1 (nI (M + 1))
theorem bG_eqv {a b : Sg} (h : eqv a b) (M : Nat) (x : Int32) : eqv (bG a M x) (bG b M x) := by
  unfold bG bR
  rw [h.1.2.1, h.1.2.2.2.2.2.1]
  exact eqv_sF (eqv_sF (fil_eqv (eqv_sA (eqv_sA (eqv_sA (eqv_sA h _ _ _) _ _ _) _ _ _) _ _ _) _ _) _ _) _ _
theorem bR_row (σ : Sg) (M : Nat) (a : Int32) : (bR σ M a).1 = σ.1 ∧ (∀ j, j ≠ 2 → j ≠ 3 → j ≠ 7 → j ≠ 12 → j ≠ 9 → j ≠ 10 → (bR σ M a).2 j = σ.2 j) ∧ (∀ i, (bR σ M a).2 2 i = if i = M then 0 else σ.2 2 i) ∧ (∀ i, (bR σ M a).2 3 i = if i = M then a else σ.2 3 i) ∧ (∀ i, (bR σ M a).2 7 i = if i = M then 0 else σ.2 7 i) ∧ (∀ i, (bR σ M a).2 12 i = if i = M then 0 else σ.2 12 i) ∧ (∀ i, (bR σ M a).2 9 i = if 32 * M ≤ i ∧ i < 32 * M + 32 then -1 else σ.2 9 i) ∧ (∀ i, (bR σ M a).2 10 i = if 32 * M ≤ i ∧ i < 32 * M + 32 then -5000 else σ.2 10 i) := by
  obtain ⟨f1, f2, f3, f4⟩ := fil_row (sA (sA (sA (sA σ 2 M 0) 3 M a) 7 M 0) 12 M 0) M 32
  refine ⟨f1, fun j h2 h3 h7 h12 h9 h10 => ?_, fun i => ?_, fun i => ?_, fun i => ?_, fun i => ?_, fun i => ?_, fun i => ?_⟩
  · unfold bR; rw [f2 j h9 h10, sA_ne _ h12, sA_ne _ h7, sA_ne _ h3, sA_ne _ h2]
  · unfold bR; rw [f2 2 (by decide) (by decide), sA_ne _ (by decide), sA_ne _ (by decide), sA_ne _ (by decide), sA_at]
  · unfold bR; rw [f2 3 (by decide) (by decide), sA_ne _ (by decide), sA_ne _ (by decide), sA_at, sA_ne _ (by decide)]
  · unfold bR; rw [f2 7 (by decide) (by decide), sA_ne _ (by decide), sA_at, sA_ne _ (by decide), sA_ne _ (by decide)]
  · unfold bR; rw [f2 12 (by decide) (by decide), sA_at, sA_ne _ (by decide), sA_ne _ (by decide), sA_ne _ (by decide)]
  · unfold bR; rw [f3, sA_ne _ (by decide), sA_ne _ (by decide), sA_ne _ (by decide), sA_ne _ (by decide)]
  · unfold bR; rw [f4, sA_ne _ (by decide), sA_ne _ (by decide), sA_ne _ (by decide), sA_ne _ (by decide)]
theorem cP_at {σ σ' : Sg} {t : Nat} : ∀ {n : Nat}, (∀ i, i < n → σ'.2 8 (5 * (24 * t + i)) = σ.2 8 (5 * (24 * t + i))) → cP σ' t n = cP σ t n
  | 0, _ => rfl
  | n + 1, h => by
    rw [cP, cP, cP_at (fun i hi => h i (by omega))]
    unfold isPr
    rw [h n (by omega)]
def locT (loc : Nat → Nat) (M q1 q6 q13 q22 : Nat) : Nat → Nat := fun r => if r = 200 + M then q1 else if r = 300 + M then q6 else if r = 400 + M then q13 else if r = 500 + M then q22 else loc r
def owT (ow : Nat → Nat) (M q1 q6 q13 q22 : Nat) : Nat → Nat := fun a => if a = q1 then 200 + M else if a = q6 then 300 + M else if a = q13 then 400 + M else if a = q22 then 500 + M else ow a
theorem us_new {σ1 σ2 : Sg} {M N : Nat} (hM : M < 80) (h7 : ∀ i, σ2.2 7 i = if i = M then 0 else σ1.2 7 i) {r : Nat} (h : Us σ2 (M + 1) N r) : Us σ1 M N r ∨ r = 200 + M ∨ r = 300 + M ∨ r = 400 + M ∨ r = 500 + M := by
  unfold Us at h ⊢
  rcases h with h | h | h | h | h | h | h | ⟨t, i, z, ht, hz, h24, hi, e⟩ | h | h | h
  · exact Or.inl (Or.inl h)
  · exact Or.inl (Or.inr (Or.inl h))
  · exact Or.inl (Or.inr (Or.inr (Or.inl h)))
  · by_cases q : r = 200 + M
    · exact Or.inr (Or.inl q)
    · exact Or.inl (Or.inr (Or.inr (Or.inr (Or.inl (by omega)))))
  · by_cases q : r = 300 + M
    · exact Or.inr (Or.inr (Or.inl q))
    · exact Or.inl (Or.inr (Or.inr (Or.inr (Or.inr (Or.inl (by omega))))))
  · by_cases q : r = 400 + M
    · exact Or.inr (Or.inr (Or.inr (Or.inl q)))
    · exact Or.inl (Or.inr (Or.inr (Or.inr (Or.inr (Or.inr (Or.inl (by omega)))))))
  · by_cases q : r = 500 + M
    · exact Or.inr (Or.inr (Or.inr (Or.inr q)))
    · exact Or.inl (Or.inr (Or.inr (Or.inr (Or.inr (Or.inr (Or.inr (Or.inl (by omega))))))))
  · left
    rw [h7] at hz
    by_cases q : t = M
    · rw [if_pos q] at hz
      have : z = 0 := (nI_eq (a := z) (b := 0) (by omega) (by omega)).mp hz.symm
      omega
    · rw [if_neg q] at hz
      exact Or.inr (Or.inr (Or.inr (Or.inr (Or.inr (Or.inr (Or.inr (Or.inl ⟨t, i, z, by omega, hz, h24, hi, e⟩)))))))
  · exact Or.inl (Or.inr (Or.inr (Or.inr (Or.inr (Or.inr (Or.inr (Or.inr (Or.inr (Or.inl h)))))))))
  · exact Or.inl (Or.inr (Or.inr (Or.inr (Or.inr (Or.inr (Or.inr (Or.inr (Or.inr (Or.inr (Or.inl h))))))))))
  · exact Or.inl (Or.inr (Or.inr (Or.inr (Or.inr (Or.inr (Or.inr (Or.inr (Or.inr (Or.inr (Or.inr h))))))))))
section STT
variable {S S' : MS} {l1 l2 l3 l4 : Nat} {loc ow : Nat → Nat} {σ σ1 : Sg} {M C N : Nat}
/-- a role in use has a number apart from the new ones -/
theorem us_old (hM : M < 80) {r : Nat} (h : Us σ1 M N r) (hN : N ≤ 3) : r ≠ 200 + M ∧ r ≠ 300 + M ∧ r ≠ 400 + M ∧ r ≠ 500 + M := by
  unfold Us at h
  rcases h with h | h | h | h | h | h | h | ⟨t, i, z, ht, hz, h24, hi, e⟩ | h | ⟨k, hk, e⟩ | h <;> omega
set_option maxHeartbeats 2000000 in
theorem mr_start (h : MR S l1 l2 l3 l4 loc ow σ σ1 M C N) (hM : M < 80) (h1 : σ1.1 1 = nI M) (hf : σ1.2 4 M = 0 ∧ σ1.2 5 M = 0 ∧ σ1.2 6 M = 0) (hcm : ∀ c, 1 ≤ c → c ≤ C → ∃ t : Nat, t < M ∧ σ1.2 16 c = nI t) {a : Int32} {q1 q6 q13 q22 : Nat} (hn : NT S S' q1 q6 q13 q22 (nI M) a) : MR (pI (pR S' (loc 3) M q1) l1 6 (nI (M + 1))) l1 l2 l3 l4 (locT loc M q1 q6 q13 q22) (owT ow M q1 q6 q13 q22) σ (sF (bR σ1 M a) 1 (nI (M + 1))) (M + 1) C N := by
  obtain ⟨hM80, hC, hN⟩ := h.bd
  obtain ⟨b0, b1, b2, b3, b4, b5, b6, b7⟩ := bR_row σ1 M a
  obtain ⟨n1, ⟨d1, d2, d3, d4, d5, d6⟩, ⟨o1, o6, o13, o22⟩, ⟨z1, z6, z13, z22⟩, c1, c2, c3, c4, c5, c6, c7, c8, c9, c10, c11, c12, c13⟩ := hn
  have hnz := h.2.2.2.2.2.2.2.2.2.1
  have u1 : Us σ1 M N 1 := us_s (by omega) (by omega)
  have u3 : Us σ1 M N 3 := us_s (by omega) (by omega)
  have fr : ∀ {r}, Us σ1 M N r → loc r ≠ q1 ∧ loc r ≠ q6 ∧ loc r ≠ q13 ∧ loc r ≠ q22 := fun {r} hr => by
    have k := (h.owr r hr).2
    exact ⟨fun e => k (by rw [e]; exact o1), fun e => k (by rw [e]; exact o6), fun e => k (by rw [e]; exact o13), fun e => k (by rw [e]; exact o22)⟩
  have el : ∀ {r}, Us σ1 M N r → locT loc M q1 q6 q13 q22 r = loc r := fun {r} hr => by
    obtain ⟨e1, e2, e3, e4⟩ := us_old hM hr hN
    unfold locT; rw [if_neg e1, if_neg e2, if_neg e3, if_neg e4]
  have L1 : locT loc M q1 q6 q13 q22 (200 + M) = q1 := by unfold locT; rw [if_pos rfl]
  have L2 : locT loc M q1 q6 q13 q22 (300 + M) = q6 := by unfold locT; rw [if_neg (by omega), if_pos rfl]
  have L3 : locT loc M q1 q6 q13 q22 (400 + M) = q13 := by unfold locT; rw [if_neg (by omega), if_neg (by omega), if_pos rfl]
  have L4 : locT loc M q1 q6 q13 q22 (500 + M) = q22 := by unfold locT; rw [if_neg (by omega), if_neg (by omega), if_neg (by omega), if_pos rfl]
  have e1 : loc 1 = l1 := h.1
  have smS : ∀ {r}, Us σ1 M N r → Sm S S' (loc r) := fun hr => n1 _ (fr hr).1 (fr hr).2.1 (fr hr).2.2.1 (fr hr).2.2.2
  have sm : ∀ {r}, Us σ1 M N r → r ≠ 1 → r ≠ 3 → Sm S (pI (pR S' (loc 3) M q1) l1 6 (nI (M + 1))) (loc r) := fun {r} hr h1 h3 => (smS hr).tr ((sm_pR (h.ne hr u3 h3)).tr (sm_pI (by rw [← e1]; exact h.ne hr u1 h1)))
  have new : ∀ {x}, (x = q1 ∨ x = q6 ∨ x = q13 ∨ x = q22) → Sm S' (pI (pR S' (loc 3) M q1) l1 6 (nI (M + 1))) x := fun {x} hx => by
    have f3 := fr u3
    have f1 := fr u1
    rw [e1] at f1
    refine (sm_pR ?_).tr (sm_pI ?_)
    · rcases hx with e | e | e | e <;> rw [e]
      · exact Ne.symm f3.1
      · exact Ne.symm f3.2.1
      · exact Ne.symm f3.2.2.1
      · exact Ne.symm f3.2.2.2
    · rcases hx with e | e | e | e <;> rw [e]
      · exact Ne.symm f1.1
      · exact Ne.symm f1.2.1
      · exact Ne.symm f1.2.2.1
      · exact Ne.symm f1.2.2.2
  have w1 := new (x := q1) (Or.inl rfl)
  have w6 := new (x := q6) (Or.inr (Or.inl rfl))
  have w13 := new (x := q13) (Or.inr (Or.inr (Or.inl rfl)))
  have w22 := new (x := q22) (Or.inr (Or.inr (Or.inr rfl)))
  have k1' : (pI (pR S' (loc 3) M q1) l1 6 (nI (M + 1))).1 = S'.1 := rfl
  have kk : ∀ {r}, Us σ1 M N r → (pI (pR S' (loc 3) M q1) l1 6 (nI (M + 1))).1 (loc r) = S.1 (loc r) := fun hr => (smS hr).1
  have kT' : ∀ {r}, Us σ1 M N r → kT (pI (pR S' (loc 3) M q1) l1 6 (nI (M + 1))) (loc r) = kT S (loc r) := fun hr => by unfold kT; rw [kk hr]
  have kL' : ∀ {r}, Us σ1 M N r → kL (pI (pR S' (loc 3) M q1) l1 6 (nI (M + 1))) (loc r) = kL S (loc r) := fun hr => by unfold kL; rw [kk hr]
  have ne13 : l1 ≠ loc 3 := by rw [← e1]; exact h.ne u1 u3 (by omega)
  have x1 : ∀ j, sI (pI (pR S' (loc 3) M q1) l1 6 (nI (M + 1))) (loc 1) j = if j = 6 then nI (M + 1) else sI S (loc 1) j := fun j => by
    rw [sI_pI, e1, if_pos rfl]
    have := (smS u1).2.1
    rw [e1] at this
    show (if j = 6 then nI (M + 1) else sI S' l1 j) = _
    rw [this]
  have x1r : sR (pI (pR S' (loc 3) M q1) l1 6 (nI (M + 1))) (loc 1) = sR S (loc 1) := by
    show u2 S'.2.2.1 (loc 3) M q1 (loc 1) = _
    rw [u2_ne _ _ _ (by rw [e1]; exact ne13)]
    exact (smS u1).2.2
  have x3 : ∀ j, sR (pI (pR S' (loc 3) M q1) l1 6 (nI (M + 1))) (loc 3) j = if j = M then q1 else sR S (loc 3) j := fun j => by
    show sR (pR S' (loc 3) M q1) (loc 3) j = _
    rw [sR_pR, if_pos rfl, (smS u3).2.2]
  have R : ∀ j, (sF (bR σ1 M a) 1 (nI (M + 1))).2 j = (bR σ1 M a).2 j := fun _ => rfl
  have b1' : ∀ j, j ≠ 2 → j ≠ 3 → j ≠ 7 → j ≠ 12 → j ≠ 9 → j ≠ 10 → (sF (bR σ1 M a) 1 (nI (M + 1))).2 j = σ1.2 j := b1
  have hcP := cP_8 (σ' := sF (bR σ1 M a) 1 (nI (M + 1))) (b1' 8 (by decide) (by decide) (by decide) (by decide) (by decide) (by decide))
  refine mr_mk h (fun r hr => ?_) (el u1) ?_ (fun r hr h5 => sm hr (by omega) (by omega)) (fun r hr => ?_) (fun x hx => ?_) ⟨by omega, hC, hN⟩ ?_
  · unfold locT; rw [if_neg (by omega), if_neg (by omega), if_neg (by omega), if_neg (by omega)]
  · refine (n1 0 (Ne.symm z1) (Ne.symm z6) (Ne.symm z13) (Ne.symm z22)).tr ((sm_pR (Ne.symm (h.nz u3))).tr (sm_pI ?_))
    rw [← e1]; exact Ne.symm (h.nz u1)
  · rcases us_new hM (fun i => b4 i) hr with q | q | q | q | q
    · rw [el q, kT' q]
      obtain ⟨f1, f2, f3, f4⟩ := fr q
      refine ⟨?_, (h.owr r q).2⟩
      unfold owT
      rw [if_neg f1, if_neg f2, if_neg f3, if_neg f4]; exact (h.owr r q).1
    · rw [q, L1, w1.T, c1]
      refine ⟨?_, by decide⟩
      unfold owT; rw [if_pos rfl]
    · rw [q, L2, w6.T, c2]
      refine ⟨?_, by decide⟩
      unfold owT; rw [if_neg (Ne.symm d1), if_pos rfl]
    · rw [q, L3, w13.T, c4]
      refine ⟨?_, by decide⟩
      unfold owT; rw [if_neg (Ne.symm d2), if_neg (Ne.symm d4), if_pos rfl]
    · rw [q, L4, w22.T, c6]
      refine ⟨?_, by decide⟩
      unfold owT; rw [if_neg (Ne.symm d3), if_neg (Ne.symm d5), if_neg (Ne.symm d6), if_pos rfl]
  · have hx' : kT S' x ≠ 0 := hx
    by_cases e1' : x = q1
    · rw [e1']; exact z1
    by_cases e6' : x = q6
    · rw [e6']; exact z6
    by_cases e13' : x = q13
    · rw [e13']; exact z13
    by_cases e22' : x = q22
    · rw [e22']; exact z22
    rw [(n1 x e1' e6' e13' e22').T] at hx'
    exact hnz x hx'
  · obtain ⟨r1, r2, r3, r4, r5, r6, r7, r8, r9⟩ := h.rc
    refine ⟨?_, fun c hc => ?_, fun t ht => ?_, fun t ht k hk => ?_, fun t ht i z hz h24 hi => ?_, fun c hc k hk => ?_, fun c h1c hc t ht hq => ?_, fun i hi => ?_, fun y i hy h60 hi => ?_⟩
    · have us : ∀ r, 1 ≤ r → r ≤ 11 → Us σ1 M N r := fun r ha hb => us_s ha hb
      unfold StR at r1 ⊢
      rw [el (us 1 (by omega) (by omega)), el (us 2 (by omega) (by omega)), el (us 3 (by omega) (by omega)), el (us 4 (by omega) (by omega)), el (us 5 (by omega) (by omega)), el (us 6 (by omega) (by omega)), el (us 7 (by omega) (by omega)), el (us 8 (by omega) (by omega)), el (us 9 (by omega) (by omega)), el (us 10 (by omega) (by omega)), el (us 11 (by omega) (by omega))]
      rw [kT' (us 1 (by omega) (by omega)), kT' (us 2 (by omega) (by omega)), kT' (us 3 (by omega) (by omega)), kT' (us 4 (by omega) (by omega)), kT' (us 5 (by omega) (by omega)), kT' (us 6 (by omega) (by omega)), kT' (us 7 (by omega) (by omega)), kT' (us 8 (by omega) (by omega)), kT' (us 9 (by omega) (by omega)), kT' (us 10 (by omega) (by omega)), kT' (us 11 (by omega) (by omega)), kL' (us 3 (by omega) (by omega)), kL' (us 4 (by omega) (by omega)), kL' (us 6 (by omega) (by omega)), kL' (us 7 (by omega) (by omega)), kL' (us 8 (by omega) (by omega)), kL' (us 9 (by omega) (by omega)), kL' (us 10 (by omega) (by omega)), kL' (us 11 (by omega) (by omega))]
      rw [x1r, (sm (us 2 (by omega) (by omega)) (by omega) (by omega)).2.2, (sm (us 5 (by omega) (by omega)) (by omega) (by omega)).2.2, (sm (us 2 (by omega) (by omega)) (by omega) (by omega)).2.1, (sm (us 5 (by omega) (by omega)) (by omega) (by omega)).2.1, x1, x1, x1, x1, x1, x1]
      obtain ⟨a1, a2, a3, a4, a5, a6, a7, a8, a9, a10, a11, a12, a13, a14, a15, a16, a17, a18, a19, p1, p2, p3, p4, p5, p6, p7, p8, p9, p10, s1, s2, s3, s4, s5, s6, s7, s8, s9⟩ := r1
      refine ⟨a1, a2, a3, a4, a5, a6, a7, a8, a9, a10, a11, a12, a13, a14, a15, a16, a17, a18, a19, p1, p2, p3, p4, p5, p6, p7, p8, p9, p10, rfl, ?_, ?_, ?_, ?_, ?_, ?_, ?_, ?_⟩
      · show sI S (loc 1) 7 = (bR σ1 M a).1 21; rw [b0]; exact s2
      · show sI S (loc 1) 8 = (bR σ1 M a).1 17; rw [b0]; exact s3
      · show sI S (loc 1) 9 = (bR σ1 M a).1 18; rw [b0]; exact s4
      · show sI S (loc 1) 10 = (bR σ1 M a).1 19; rw [b0]; exact s5
      · show sI S (loc 1) 11 = (bR σ1 M a).1 13; rw [b0]; exact s6
      · show sI S (loc 2) 2 = (bR σ1 M a).1 14; rw [b0]; exact s7
      · show sI S (loc 5) 3 = (bR σ1 M a).1 25; rw [b0]; exact s8
      · show sI S (loc 5) 5 = (bR σ1 M a).1 28; rw [b0]; exact s9
    · have := r2 c hc
      have u := us_r (σ := σ1) (M := M) (N := N) hc
      have u8 : Us σ1 M N 8 := us_s (by omega) (by omega)
      unfold RwR at this ⊢
      rw [el u, el u8, kT' u, kL' u, (sm u8 (by omega) (by omega)).2.2]
      exact this
    · by_cases e : t = M
      · subst e
        unfold TxR
        rw [el u3, L1, L2, L3, L4, x3, if_pos rfl, w1.T, w6.T, w6.L, w13.T, w13.L, w22.T, w22.L, w1.2.1, w1.2.2]
        refine ⟨c1, rfl, c8, c9, c10, c2, c3, c4, c5, c6, c7, c11, ?_, ?_, ?_, ?_, ?_, ?_⟩
        · rw [R, b3, if_pos rfl]; exact c12
        · rw [R, b4, if_pos rfl]; exact c13 5 (by omega)
        · rw [R, b2, if_pos rfl]; exact c13 8 (by omega)
        · rw [b1' 4 (by decide) (by decide) (by decide) (by decide) (by decide) (by decide), hf.1]; exact c13 9 (by omega)
        · rw [b1' 5 (by decide) (by decide) (by decide) (by decide) (by decide) (by decide), hf.2.1]; exact c13 10 (by omega)
        · rw [b1' 6 (by decide) (by decide) (by decide) (by decide) (by decide) (by decide), hf.2.2]; exact c13 11 (by omega)
      · have ht' : t < M := by omega
        obtain ⟨u_1, u_2, u_3, u_4⟩ := us_t (σ := σ1) (N := N) ht'
        have := r3 t ht'
        unfold TxR at this ⊢
        rw [el u3, el u_1, el u_2, el u_3, el u_4, kT' u_1, kT' u_2, kL' u_2, kT' u_3, kL' u_3, kT' u_4, kL' u_4, x3, if_neg e, (sm u_1 (by omega) (by omega)).2.2, (sm u_1 (by omega) (by omega)).2.1, R, b3, if_neg e, R, b4, if_neg e, R, b2, if_neg e, b1' 4 (by decide) (by decide) (by decide) (by decide) (by decide) (by decide), b1' 5 (by decide) (by decide) (by decide) (by decide) (by decide) (by decide), b1' 6 (by decide) (by decide) (by decide) (by decide) (by decide) (by decide)]
        exact this
    · by_cases e : t = M
      · subst e
        unfold KyR
        rw [L1, L3, L4, w1.2.1, c13 6 (by omega), c13 7 (by omega), R, R, b6, if_pos (by omega), b7, if_pos (by omega)]
        exact ⟨⟨fun q => absurd q (hb_z hk), fun q => absurd rfl q⟩, fun q => absurd rfl q, ⟨fun q => absurd q (hb_z hk), fun q => absurd rfl q⟩, fun q => absurd rfl q⟩
      · have ht' : t < M := by omega
        obtain ⟨u_1, u_2, u_3, u_4⟩ := us_t (σ := σ1) (N := N) ht'
        have := r4 t ht' k hk
        unfold KyR at this ⊢
        rw [el u_1, el u_3, el u_4, (sm u_1 (by omega) (by omega)).2.1, (sm u_3 (by omega) (by omega)).2.1, (sm u_4 (by omega) (by omega)).2.1, R, R, b6, if_neg (by omega), b7, if_neg (by omega)]
        exact this
    · rw [R, b4] at hz
      by_cases e : t = M
      · rw [if_pos e] at hz
        have : z = 0 := (nI_eq (a := z) (b := 0) (by omega) (by omega)).mp hz.symm
        omega
      · rw [if_neg e] at hz
        have ht' : t < M := by omega
        have u2' := (us_t (σ := σ1) (N := N) ht').2.1
        have u := us_z (N := N) ht' hz h24 hi
        have := r5 t ht' i z hz h24 hi
        unfold OpR at this ⊢
        rw [el u, el u2', kT' u, (sm u (by omega) (by omega)).2.1, (sm u2' (by omega) (by omega)).2.2, b1' 8 (by decide) (by decide) (by decide) (by decide) (by decide) (by decide), b1' 11 (by decide) (by decide) (by decide) (by decide) (by decide) (by decide), hcP]
        exact this
    · have u := us_r (σ := σ1) (M := M) (N := N) (show c ≤ 60 by omega)
      rw [el u, (sm u (by omega) (by omega)).2.1, b1' 15 (by decide) (by decide) (by decide) (by decide) (by decide) (by decide)]
      exact r6 c hc k hk
    · rw [b1' 16 (by decide) (by decide) (by decide) (by decide) (by decide) (by decide)] at hq
      obtain ⟨t2, ht2, e2⟩ := hcm c h1c hc
      have et : t = t2 := by
        rw [hq] at e2
        exact (nI_eq (by omega) (by omega)).mp e2
      subst et
      have u9 : Us σ1 M N 9 := us_s (by omega) (by omega)
      rw [el u9, el (us_t (σ := σ1) (N := N) ht2).1, (sm u9 (by omega) (by omega)).2.2]
      exact r7 c h1c hc t ht2 hq
    · have u := us_c (σ := σ1) (M := M) hi
      have u4' : Us σ1 M N 4 := us_s (by omega) (by omega)
      have := r8 i hi
      unfold CnR at this ⊢
      rw [el u, el u4', kT' u, (sm u4' (by omega) (by omega)).2.2, (sm u (by omega) (by omega)).2.1, b1' 20 (by decide) (by decide) (by decide) (by decide) (by decide) (by decide)]
      exact this
    · have u : Us σ1 M N 10 := us_s (by omega) (by omega)
      rw [show (sF (bR σ1 M a) 1 (nI (M + 1))).1 25 = (bR σ1 M a).1 25 from rfl, b0] at hy
      rw [el u, (sm u (by omega) (by omega)).2.1, b1' 24 (by decide) (by decide) (by decide) (by decide) (by decide) (by decide)]
      exact r9 y i hy h60 hi
theorem sF_comm (σ : Sg) {k k' : Nat} (h : k ≠ k') (v v' : Int32) : sF (sF σ k v) k' v' = sF (sF σ k' v') k v := by
  unfold sF
  refine Prod.ext (funext fun j => ?_) rfl
  by_cases q : j = k
  · subst q; simp [h]
  · by_cases q' : j = k'
    · subst q'; simp [q]
    · simp [q, q']
theorem cl_start (h : MR S l1 l2 l3 l4 loc ow σ σ1 M C N) (hM : M < 80) (h1 : σ1.1 1 = nI M) (hf : σ1.2 4 M = 0 ∧ σ1.2 5 M = 0 ∧ σ1.2 6 M = 0) (hcm : ∀ c, 1 ≤ c → c ≤ C → ∃ t : Nat, t < M ∧ σ1.2 16 c = nI t) {a : Int32} {post : Nat → MS → Prop} (hp : ∀ S' loc' ow', MR S' l1 l2 l3 l4 loc' ow' σ (bG σ1 M a) (M + 1) C N → post (loc' (200 + M)) S') : w_X5_start S l1 a post := by
  have u1 : Us σ1 M N 1 := us_s (by omega) (by omega)
  have u3 : Us σ1 M N 3 := us_s (by omega) (by omega)
  have e1 : loc 1 = l1 := h.1
  have hk1 := h.k1
  have hk3 : sR S l1 1 = loc 3 ∧ kT S (loc 3) = 13 ∧ kL S (loc 3) = 80 := by
    obtain ⟨-, -, x, y, -, -, -, -, -, -, -, -, -, -, -, -, -, -, -, -, e, -⟩ := h.st
    rw [← e1]; exact ⟨e, x, y⟩
  unfold w_X5_start
  intro q1 kq1 zq1 S2 e2
  have nq1 : l1 ≠ q1 := fun e => by rw [e, kq1] at hk1; exact absurd hk1 (by decide)
  rw [e2]
  refine ⟨by rw [(sm_nw nq1).T]; exact hk1, ?_⟩
  rw [(sm_nw nq1).2.1, h.scal.1, h1]
  refine cl_txInit kq1 zq1 (fun S5 q6 q13 q22 hn => ?_)
  have hr := mr_start h hM h1 hf hcm hn
  obtain ⟨n1, -, ⟨o1, o6, o13, o22⟩, -, c1, -⟩ := id hn
  have fr : ∀ {r}, Us σ1 M N r → Sm S S5 (loc r) := fun {r} hr => by
    have k := (h.owr r hr).2
    exact n1 _ (fun e => k (by rw [e]; exact o1)) (fun e => k (by rw [e]; exact o6)) (fun e => k (by rw [e]; exact o13)) (fun e => k (by rw [e]; exact o22))
  have s1 := fr u1
  rw [e1] at s1
  have s3 := fr u3
  rw [s1.T, s1.2.1, h.scal.1, h1, s1.2.2, hk3.1, s3.T, s3.L, hk3.2.2, ix_nI (by omega)]
  refine ⟨hk1, fun q => absurd q (show ¬ nI 80 ≤ nI M from nI_ge hM (by omega)), fun _ => ⟨hk3.2.1, c1, vp_in_nI (by omega) (by omega), fun S11 e11 S15 e15 => ?_⟩⟩
  have e6 : sI S11 l1 6 + 1 = nI (M + 1) := by
    rw [e11]
    show sI S5 l1 6 + 1 = _
    rw [s1.2.1, h.scal.1, h1, nI_1]
  rw [e6, e11] at e15
  have L1 : locT loc M q1 q6 q13 q22 (200 + M) = q1 := by unfold locT; rw [if_pos rfl]
  have hb0 := (bR_row σ1 M a).1
  unfold b_X5_start_42 b_X5_start_66
  rw [e15]
  have sc := hr.scal
  have v13 : (sF (bR σ1 M a) 1 (nI (M + 1))).1 13 = σ1.1 13 := by show (bR σ1 M a).1 13 = _; rw [hb0]
  have v19 : (sF (bR σ1 M a) 1 (nI (M + 1))).1 19 = σ1.1 19 := by show (bR σ1 M a).1 19 = _; rw [hb0]
  rw [sc.2.2.2.2.2.1, sc.2.2.2.2.1, v13, v19]
  have stay : ¬ (¬ a ≤ σ1.1 19 ∧ σ1.1 13 = -1) → bG σ1 M a = sF (bR σ1 M a) 1 (nI (M + 1)) := fun q => by
    unfold bG
    rw [if_neg q, ← hb0, sF_same]
  refine ⟨hr.k1, fun q => ?_, fun q => ⟨fun q2 => ?_, fun q2 => ?_⟩⟩
  · have := hp _ (locT loc M q1 q6 q13 q22) (owT ow M q1 q6 q13 q22) (by rw [stay (fun r => q r.2)]; exact hr)
    rw [L1] at this; exact this
  · have := hp _ (locT loc M q1 q6 q13 q22) (owT ow M q1 q6 q13 q22) (by rw [stay (fun r => r.1 q2)]; exact hr)
    rw [L1] at this; exact this
  · have tx := hr.tx (show M < M + 1 by omega)
    have tx1 := tx.1
    have tx2 := tx.2.2.2.2.2.2.2.2.2.2.2.1
    rw [L1] at tx1 tx2
    refine ⟨tx1, fun S3 e3 => ?_⟩
    rw [tx2] at e3
    rw [e3]
    have hp2 := hp (pI (pI (pR S5 (loc 3) M q1) l1 6 (nI (M + 1))) l1 11 (nI M)) (locT loc M q1 q6 q13 q22) (owT ow M q1 q6 q13 q22)
    rw [L1] at hp2
    refine hp2 ?_
    have := mr_x (σ2 := sF (sF (bR σ1 M a) 1 (nI (M + 1))) 13 (nI M)) (k := 11) (v := nI M) hr rfl rfl rfl rfl rfl rfl rfl rfl rfl rfl
    unfold bG
    rw [if_pos ⟨q2, q⟩, sF_comm _ (by decide)]
    exact this
/-- the ranges with the new one -/
theorem wf_bG (hw : WF σ1 M C N) (hM : M < 80) {n : Nat} (hn : n ≤ M + 1) : WF (bG σ1 M (nI n)) (M + 1) C N := by
  obtain ⟨b0, b1, b2, b3, b4, b5, b6, b7⟩ := bR_row σ1 M (nI n)
  have com := fun c h1 hc => hw.com (c := c) h1 hc
  obtain ⟨w1, w2, w3, w4, w5, w6, w7, w8, w9, w10, w11, w12, w13, w14, w15, w16, w17⟩ := hw
  have R : ∀ j, (bG σ1 M (nI n)).2 j = (bR σ1 M (nI n)).2 j := fun _ => rfl
  have b1' : ∀ j, j ≠ 2 → j ≠ 3 → j ≠ 7 → j ≠ 12 → j ≠ 9 → j ≠ 10 → (bG σ1 M (nI n)).2 j = σ1.2 j := b1
  have F : ∀ j, j ≠ 1 → j ≠ 13 → (bG σ1 M (nI n)).1 j = σ1.1 j := fun j h1 h13 => by
    show (if j = 1 then nI (M + 1) else if j = 13 then _ else (bR σ1 M (nI n)).1 j) = _
    rw [if_neg h1, if_neg h13, b0]
  have hcP := cP_8 (σ' := bG σ1 M (nI n)) (b1' 8 (by decide) (by decide) (by decide) (by decide) (by decide) (by decide))
  refine ⟨rfl, by omega, by rw [F 14 (by decide) (by decide)]; exact w3, w4, by rw [F 21 (by decide) (by decide)]; exact w5, w6, fun u hu => ?_, fun u hu k hk => ?_, ?_, fun c h1 hc => ?_, ?_, by rw [F 17 (by decide) (by decide)]; exact w12, by rw [F 18 (by decide) (by decide)]; exact w13, by rw [F 19 (by decide) (by decide)]; exact w14, ?_, ?_, fun u h1 h2 => ?_⟩
  · rw [R, R, R, R, b2, b3, b4, b5]
    by_cases e : u = M
    · rw [if_pos e, if_pos e, if_pos e, if_pos e]
      exact ⟨⟨0, by omega, rfl⟩, ⟨0, by omega, rfl, rfl⟩, ⟨n, hn, rfl⟩⟩
    · rw [if_neg e, if_neg e, if_neg e, if_neg e]
      obtain ⟨q1, q2, ⟨a, ha, q3⟩⟩ := w7 u (by omega)
      refine ⟨q1, ?_, ⟨a, by omega, q3⟩⟩
      simp only [hcP]; exact q2
  · rw [R, R, b6, b7]
    by_cases e : u = M
    · rw [if_pos (by omega), if_pos (by omega)]
      exact ⟨Or.inl rfl, Or.inl rfl⟩
    · rw [if_neg (by omega), if_neg (by omega)]
      exact w8 u (by omega) k hk
  · rw [b1' 15 (by decide) (by decide) (by decide) (by decide) (by decide) (by decide)]; exact w9
  · obtain ⟨e1, e2, e3, e4, e5⟩ := com c h1 hc
    refine ⟨cm σ1 c, by omega, ?_, ?_, ?_, fun k hk => ?_⟩
    · rw [b1' 16 (by decide) (by decide) (by decide) (by decide) (by decide) (by decide)]; exact e2
    · rw [R, b2, if_neg (by omega)]; exact e3
    · rw [b1' 5 (by decide) (by decide) (by decide) (by decide) (by decide) (by decide)]; exact e4
    · rw [R, b7, if_neg (by omega), b1' 15 (by decide) (by decide) (by decide) (by decide) (by decide) (by decide)]; exact e5 k hk
  · show (if ¬ nI n ≤ σ1.1 19 ∧ σ1.1 13 = -1 then nI M else σ1.1 13) = -1 ∨ ∃ t : Nat, t < M + 1 ∧ (if ¬ nI n ≤ σ1.1 19 ∧ σ1.1 13 = -1 then nI M else σ1.1 13) = nI t ∧ (bR σ1 M (nI n)).2 2 t = 0
    by_cases q : ¬ nI n ≤ σ1.1 19 ∧ σ1.1 13 = -1
    · rw [if_pos q]
      exact Or.inr ⟨M, by omega, rfl, by rw [b2, if_pos rfl]⟩
    · rw [if_neg q]
      rcases w11 with z | ⟨t, ht, z1, z2⟩
      · exact Or.inl z
      · exact Or.inr ⟨t, by omega, z1, by rw [b2, if_neg (by omega)]; exact z2⟩
  · rw [b1' 20 (by decide) (by decide) (by decide) (by decide) (by decide) (by decide)]; exact w15
  · rw [F 25 (by decide) (by decide), b1' 24 (by decide) (by decide) (by decide) (by decide) (by decide) (by decide)]; exact w16
  · rw [b1' 4 (by decide) (by decide) (by decide) (by decide) (by decide) (by decide), b1' 5 (by decide) (by decide) (by decide) (by decide) (by decide) (by decide), b1' 6 (by decide) (by decide) (by decide) (by decide) (by decide) (by decide)]; exact w17 u (by omega) h2
theorem rf_bg_loop {σ0 : Sg} {M : Nat} (hM : M < 80) {a : Int32} {P : Int32 → Sg → Prop} (h1 : σ0.1 1 = nI M) (hp : P (nI M) (sF (sF (fil σ0 M 32) 13 (if ¬ a ≤ σ0.1 19 ∧ σ0.1 13 = -1 then nI M else σ0.1 13)) 1 (nI (M + 1)))) : ∀ n k, k + n = 32 → bv_X6_beginWith_35 P (n + 1) (fil σ0 M k) a (nI M) (nI k) := by
  intro n
  induction n with
  | zero =>
    intro k hk
    have e : k = 32 := by omega
    subst e
    have f := (fil_row σ0 M 32).1
    rw [bv_X6_beginWith_35]
    dsimp only
    simp only [bv_X6_beginWith_94]
    rw [f, h1, nI_1]
    have stay : ¬ (¬ a ≤ σ0.1 19 ∧ σ0.1 13 = -1) → P (nI M) (sF (fil σ0 M 32) 1 (nI (M + 1))) := fun q => by
      rw [if_neg q, ← f, sF_same] at hp
      exact hp
    refine ⟨fun _ => ⟨fun q σ1 e1 => ?_, fun q => ⟨fun q2 σ1 e1 => ?_, fun q2 σ1 e1 σ2 e2 => ?_⟩⟩, fun q => absurd (Int32.le_refl _) q⟩
    · rw [e1]; exact stay (fun r => r.1 q)
    · rw [e1]; exact stay (fun r => q2 r.2)
    · rw [if_pos ⟨q, q2⟩] at hp
      have e3 : σ1.1 1 = nI M := by
        rw [e1]
        show (fil σ0 M 32).1 1 = _
        rw [f, h1]
      rw [e3, nI_1, e1] at e2
      rw [e2]; exact hp
  | succ n ih =>
    intro k hk
    rw [bv_X6_beginWith_35]
    dsimp only
    rw [mul32, ix_nI (by omega)]
    refine ⟨fun q => absurd q (i32_lt32 (by omega)), fun _ => ⟨vp_in_nI (by omega) (by omega), fun σ5 e5 => ⟨vp_in_nI (by omega) (by omega), fun σ7 e7 v8 hv8 => ?_⟩⟩⟩
    rw [hv8, nI_1, e7, e5, fil_s]
    exact ih (k + 1) (by omega)
theorem rf_beginWith {σ0 : Sg} {M : Nat} (hM : M < 80) {a : Int32} {P : Int32 → Sg → Prop} (h1 : σ0.1 1 = nI M) (hp : P (nI M) (bG σ0 M a)) : v_X6_beginWith σ0 a P := by
  unfold v_X6_beginWith
  rw [h1]
  intro v1 hv1
  rw [hv1, ix_nI (by omega)]
  have v : vp_in (nI M) 80 := vp_in_nI hM (by omega)
  refine ⟨v, fun σ3 e3 => ⟨v, fun σ5 e5 => ⟨v, fun σ7 e7 => ⟨v, fun σ9 e9 => ⟨33, ?_⟩⟩⟩⟩⟩
  rw [e9, e7, e5, e3, ← fil_0 (sA (sA (sA (sA σ0 2 M 0) 3 M a) 7 M 0) 12 M 0) M]
  have h1' : (sA (sA (sA (sA σ0 2 M 0) 3 M a) 7 M 0) 12 M 0).1 1 = nI M := h1
  refine rf_bg_loop (σ0 := sA (sA (sA (sA σ0 2 M 0) 3 M a) 7 M 0) 12 M 0) (P := P) (a := a) hM h1' ?_ 32 0 (by omega)
  exact hp
theorem rf_hasRoom {σ0 : Sg} {M C N : Nat} (hw : WF σ0 M C N) {P : Int32 → Sg → Prop} (h1 : M < 80 → ¬ 6 ≤ nS σ0 0 M → P 1 σ0) (h0 : ¬ (M < 80 ∧ ¬ 6 ≤ nS σ0 0 M) → P 0 σ0) : v_X6_hasRoom σ0 P := by
  have hM := hw.2.1
  unfold v_X6_hasRoom bv_X6_hasRoom_22 bv_X6_hasRoom_23
  refine rf_activeNow hw ?_
  rw [hw.1]
  refine ⟨fun q => ⟨zb0, h0 (fun r => r.2 q)⟩, fun q => ⟨fun q2 => ⟨zb0, h0 (fun r => nI_ge r.1 (by omega) q2)⟩, fun q2 => ⟨zb1, h1 (Classical.byContradiction (fun r => q2 (show nI 80 ≤ nI M from nI_le (by omega) (by omega)))) q⟩⟩⟩
theorem cl_canStart (h : Mid S l1 l2 l3 l4 loc ow σ σ1 M C N) {post : Int32 → MS → Prop} (h1 : M < 80 → ¬ 6 ≤ nS σ1 0 M → post 1 S) (h0 : ¬ (M < 80 ∧ ¬ 6 ≤ nS σ1 0 M) → post 0 S) : w_X5_canStart S l1 post := by
  have hM := h.M80
  unfold w_X5_canStart b_X5_canStart_23 b_X5_canStart_24
  rw [h.many]
  refine ⟨h.k1, fun q => ⟨zb0, h0 (fun r => nI_ge r.1 (by omega) q)⟩, fun q => cl_countInState h ⟨fun q2 => ⟨zb0, h0 (fun r => r.2 q2)⟩, fun q2 => ⟨zb1, h1 (Classical.byContradiction (fun r => q (show nI 80 ≤ nI M from nI_le (by omega) (by omega)))) q2⟩⟩⟩
end STT
theorem WF.hcm {σ : Sg} {M C N : Nat} (hw : WF σ M C N) : ∀ c, 1 ≤ c → c ≤ C → ∃ t : Nat, t < M ∧ σ.2 16 c = nI t := fun c h1 hc => ⟨_, (hw.com h1 hc).1, (hw.com h1 hc).2.1⟩
theorem WF.fre {σ : Sg} {M C N : Nat} (hw : WF σ M C N) (hM : M < 80) : σ.2 4 M = 0 ∧ σ.2 5 M = 0 ∧ σ.2 6 M = 0 := hw.2.2.2.2.2.2.2.2.2.2.2.2.2.2.2.2 M (Nat.le_refl M) hM
theorem sp_begin : Sp_begin := by
  intro S l1 l2 l3 l4 loc ow σ M C N post h hp
  have h : Mid S l1 l2 l3 l4 loc ow σ σ M C N := h
  have hw := h.wf
  have hw0 := wf_eqv (eqv.th σ 0) hw
  unfold w_L_begin w_X5_begin
  refine ⟨h.k1, h.k1, cl_canStart h (fun hM hn => ⟨fun _ => ⟨h.k1, cl_start h.mr hM hw.1 (hw.fre hM) hw.hcm (fun S' loc' ow' h' => ?_)⟩, fun q => absurd q ne10⟩) (fun q => ⟨fun r => absurd rfl r, fun _ => ⟨rfl, hp 1 S σ 0 ?_ ⟨loc, ow, M, C, N, h⟩ (fun q => absurd q ne10)⟩⟩)⟩
  · have hm := h'.mid (wf_bG (n := 1) hw hM (by omega))
    have tx := hm.tx (show M < M + 1 by omega)
    rw [tx.2.2.2.2.2.2.2.2.2.2.2.1]
    refine ⟨tx.1, wr_ret hm (fun S6 h6 hs6 => hp 0 S6 (bG σ M 1) _ ?_ ⟨loc', ow', M + 1, C, N, h6⟩ (fun _ => hs6))⟩
    unfold v_X6_begin bv_X6_begin_25
    intro σ1 e1
    rw [e1]
    refine rf_hasRoom hw0 (fun _ _ => ⟨fun q => absurd q ne10, fun _ => rf_beginWith hM hw.1 ⟨bG_eqv (eqv.th σ 0) M 1, ?_, fun _ => rfl⟩⟩) (fun q => absurd ⟨hM, hn⟩ q)
    show (bR (sF σ 0 0) M 1).1 0 = 0
    rw [(bR_row (sF σ 0 0) M 1).1]; rfl
  · unfold v_X6_begin bv_X6_begin_25
    intro σ1 e1
    rw [e1]
    refine rf_hasRoom hw0 (fun q1 q2 => absurd ⟨q1, q2⟩ q) (fun _ => ⟨fun _ => rf_fail ⟨?_, rfl, fun q => absurd q ne10⟩, fun r => absurd rfl r⟩)
    rw [sF_sF]
    exact eqv.th σ 1
theorem wf_ret {σ1 : Sg} {M C N : Nat} (hw : WF σ1 M C N) {t : Nat} (ht : t < M) (v : Int32) : WF (sA σ1 6 t v) M C N := by
  obtain ⟨w1, w2, w3, w4, w5, w6, w7, w8, w9, w10, w11, w12, w13, w14, w15, w16, w17⟩ := hw
  have rne : ∀ j, j ≠ 6 → (sA σ1 6 t v).2 j = σ1.2 j := fun j hj => u2_ne _ _ _ hj
  have hcP := cP_8 (σ' := sA σ1 6 t v) (rne 8 (by decide))
  refine ⟨w1, w2, w3, w4, w5, w6, ?_, w8, w9, w10, w11, w12, w13, w14, w15, w16, fun u h1 h2 => ?_⟩
  · simp only [hcP]; exact w7
  · rw [sA_at, if_neg (by omega)]; exact w17 u h1 h2
theorem sp_retry : Sp_retry := by
  intro S l1 l2 l3 l4 loc ow σ M C N x0 post h hp
  have h : Mid S l1 l2 l3 l4 loc ow σ σ M C N := h
  have hw := h.wf
  have hM80 := h.M80
  have hw0 := wf_eqv (eqv.th σ 0) hw
  have tI : ∀ {t u : Nat}, t < M → u < M → nI t = nI u → t = u := fun ht hu e => (nI_eq (by omega) (by omega)).mp e
  have f2 : ∀ {σ' : Sg}, σ' = sF σ 0 0 → bv_X6_retry_45 (fun r2 σ2 => eqv σ2 σ ∧ σ2.1 0 = 2 ∧ ((2 : Int32) = 0 → r2 = 0)) σ' x0 := fun {σ'} e => by
    unfold bv_X6_retry_45
    rw [e]
    refine rf_fail ⟨?_, rfl, fun q => absurd q ne20⟩
    rw [sF_sF]
    exact eqv.th σ 2
  unfold w_L_retry w_X5_retry b_X5_retry_28
  refine ⟨h.k1, h.k1, cl_find h (fun t ht e => ?_) (fun hx => Or.inl ⟨rfl, hp 1 S σ 0 ?_ ⟨loc, ow, M, C, N, h⟩ (fun q => absurd q ne10)⟩)⟩
  · obtain ⟨b1, b2, b3, b4, b5, b6, b7, b8, b9, b10, b11, b12, b13, b14, b15, b16, b17, b18⟩ := h.tx ht
    have bad : (∀ v : Int32 → Sg → Prop, (∀ σ', σ' = sF σ 0 0 → bv_X6_retry_45 v σ' x0) → v_X6_retry σ x0 v) → post 2 S := fun q => hp 2 S σ 0 (q _ (fun σ' e => f2 e)) ⟨loc, ow, M, C, N, h⟩ (fun q => absurd q ne20)
    rw [b15, b18]
    refine ⟨b1, fun q => Or.inr ⟨rfl, bad (fun v hv => ?_)⟩, fun q1 => ⟨fun q => Or.inr ⟨rfl, bad (fun v hv => ?_)⟩, fun q2 => ⟨h.k1, cl_canStart h (fun hM hn => ⟨fun _ => ⟨b1, fun S9 e9 => ?_⟩, fun q => absurd q ne10⟩) (fun q => ⟨fun r => absurd rfl r, fun _ => Or.inr ⟨rfl, bad (fun v hv => ?_)⟩⟩)⟩⟩⟩
    · unfold v_X6_retry
      intro σ1 e1
      rw [e1]
      refine rf_isTx hw0 (fun u hu eu => ⟨fun _ => ?_, fun r => absurd r ne10⟩) (fun r => absurd e (neg_nI (by omega) r ht))
      rw [e, ix_nI (by omega)]
      rw [e] at hv
      exact ⟨vp_in_nI (by omega) (by omega), fun _ => hv _ rfl, fun r => absurd r q⟩
    · unfold v_X6_retry
      intro σ1 e1
      rw [e1]
      refine rf_isTx hw0 (fun u hu eu => ⟨fun _ => ?_, fun r => absurd r ne10⟩) (fun r => absurd e (neg_nI (by omega) r ht))
      rw [e, ix_nI (by omega)]
      rw [e] at hv
      exact ⟨vp_in_nI (by omega) (by omega), fun r => absurd q1 r, fun _ => ⟨vp_in_nI (by omega) (by omega), fun _ => hv _ rfl, fun r => absurd r q⟩⟩
    · have h9 := mr_txI (v := 1) h.mr ht (Or.inr (Or.inr (Or.inr ⟨rfl, rfl⟩)))
      have hw9 := wf_ret hw ht 1
      obtain ⟨n, hn', en⟩ := (hw.2.2.2.2.2.2.1 t ht).2.2
      have ea : sI S9 (loc (200 + t)) 1 + 1 = nI (n + 1) := by
        rw [e9, sI_pI, if_pos rfl, if_neg (by decide), b13, en, nI_1]
      rw [ea, e9]
      refine ⟨h9.k1, cl_start h9 hM hw.1 (hw9.fre hM) hw9.hcm (fun S' loc' ow' h' => ?_)⟩
      have hm := h'.mid (wf_bG (n := n + 1) hw9 hM (by omega))
      have tx := hm.tx (show M < M + 1 by omega)
      rw [tx.2.2.2.2.2.2.2.2.2.2.2.1]
      refine ⟨tx.1, wr_ret hm (fun S6 h6 hs6 => hp 0 S6 (bG (sA σ 6 t 1) M (nI (n + 1))) _ ?_ ⟨loc', ow', M + 1, C, N, h6⟩ (fun _ => hs6))⟩
      unfold v_X6_retry
      intro σ1 e1
      rw [e1]
      refine rf_isTx hw0 (fun u hu eu => ⟨fun _ => ?_, fun r => absurd r ne10⟩) (fun r => absurd e (neg_nI (by omega) r ht))
      rw [e, ix_nI (by omega)]
      refine ⟨vp_in_nI (by omega) (by omega), fun r => absurd q1 r, fun _ => ⟨vp_in_nI (by omega) (by omega), fun r => absurd q2 r, fun _ => rf_hasRoom hw0 (fun _ _ => ⟨fun _ => ⟨vp_in_nI (by omega) (by omega), fun σ7 e7 => ⟨vp_in_nI (by omega) (by omega), ?_⟩⟩, fun r => absurd r ne10⟩) (fun r => absurd ⟨hM, hn⟩ r)⟩⟩
      have e7' : σ7 = sA (sF σ 0 0) 6 t 1 := e7
      have e3 : σ7.2 3 t + 1 = nI (n + 1) := by
        rw [e7']
        show σ.2 3 t + 1 = _
        rw [en, nI_1]
      rw [e3, e7']
      refine rf_beginWith hM hw.1 ⟨bG_eqv (eqv_sA (eqv.th σ 0) 6 t 1) M _, ?_, fun _ => rfl⟩
      show (bR (sA (sF σ 0 0) 6 t 1) M (nI (n + 1))).1 0 = 0
      rw [(bR_row (sA (sF σ 0 0) 6 t 1) M (nI (n + 1))).1]; rfl
    · unfold v_X6_retry
      intro σ1 e1
      rw [e1]
      refine rf_isTx hw0 (fun u hu eu => ⟨fun _ => ?_, fun r => absurd r ne10⟩) (fun r => absurd e (neg_nI (by omega) r ht))
      rw [e, ix_nI (by omega)]
      rw [e] at hv
      exact ⟨vp_in_nI (by omega) (by omega), fun r => absurd q1 r, fun _ => ⟨vp_in_nI (by omega) (by omega), fun r => absurd q2 r, fun _ => rf_hasRoom hw0 (fun r1 r2 => absurd ⟨r1, r2⟩ q) (fun _ => ⟨fun r => absurd rfl r, fun _ => hv _ rfl⟩)⟩⟩
  · unfold v_X6_retry
    intro σ1 e1
    rw [e1]
    refine rf_isTx hw0 (fun u hu eu => absurd eu (neg_nI (by omega) hx hu)) (fun r => ⟨fun r => absurd rfl r, fun _ => rf_fail ⟨?_, rfl, fun q => absurd q ne10⟩⟩)
    rw [sF_sF]
    exact eqv.th σ 1
