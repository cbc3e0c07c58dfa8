/-! THE REFERENCE over a pure state: its scalars by field number, its rows by field number and place -/
abbrev Sg : Type := (Nat → Int32) × (Nat → Nat → Int32)
def sF (σ : Sg) (k : Nat) (v : Int32) : Sg := (fun j => if j = k then v else σ.1 j, σ.2)
def sA (σ : Sg) (k i : Nat) (v : Int32) : Sg := (σ.1, u2 σ.2 k i v)
def lenA (k : Nat) : Nat := match k with
  | 2 => 80 | 3 => 80 | 4 => 80 | 5 => 80 | 6 => 80 | 7 => 80 | 8 => 9600 | 9 => 2560 | 10 => 2560 | 11 => 7680 | 12 => 80 | 15 => 1952 | 16 => 61 | 20 => 12 | 22 => 61 | 23 => 32 | 24 => 60 | 29 => 120
  | _ => 0
def tagA (k : Nat) : Nat := if k = 6 then 10 else 9
def RM (m : Nat) (ad : Nat → Nat) (S : MS) (σ : Sg) : Prop := sI S m = σ.1 ∧ sR S m = ad ∧ (∀ k, sI S (ad k) = σ.2 k) ∧ kT S m = 7 ∧ (∀ k, lenA k ≠ 0 → kT S (ad k) = tagA k ∧ kL S (ad k) = lenA k) ∧ (∀ k, ad k ≠ m) ∧ (∀ k, lenA k ≠ 0 → ∀ j, ad j = ad k → j = k)
/-- what isn't the reference's stays -/
def Fm (m : Nat) (ad : Nat → Nat) (S S' : MS) : Prop := S'.1 = S.1 ∧ sR S' = sR S ∧ sL S' = sL S ∧ sD S' = sD S ∧ ∀ a, a ≠ m → (∀ k, lenA k ≠ 0 → a ≠ ad k) → sI S' a = sI S a
theorem Fm.rf (m : Nat) (ad : Nat → Nat) (S : MS) : Fm m ad S S := ⟨rfl, rfl, rfl, rfl, fun _ _ _ => rfl⟩
theorem Fm.tr {m : Nat} {ad : Nat → Nat} {S S1 S2 : MS} (h1 : Fm m ad S S1) (h2 : Fm m ad S1 S2) : Fm m ad S S2 := ⟨h2.1.trans h1.1, h2.2.1.trans h1.2.1, h2.2.2.1.trans h1.2.2.1, h2.2.2.2.1.trans h1.2.2.2.1, fun a ha hk => (h2.2.2.2.2 a ha hk).trans (h1.2.2.2.2 a ha hk)⟩
theorem rm_kL {m : Nat} {ad : Nat → Nat} {S : MS} {σ : Sg} (h : RM m ad S σ) {k n : Nat} (hk : lenA k = n) (hn : n ≠ 0) : kL S (ad k) = n := by
  rw [(h.2.2.2.2.1 k (by rw [hk]; exact hn)).2, hk]
theorem rm_kT {m : Nat} {ad : Nat → Nat} {S : MS} {σ : Sg} (h : RM m ad S σ) {k t : Nat} (hk : lenA k ≠ 0) (ht : tagA k = t) : kT S (ad k) = t := by
  rw [(h.2.2.2.2.1 k hk).1, ht]
theorem rm_putF {m : Nat} {ad : Nat → Nat} {S S1 : MS} {σ σ1 : Sg} (h : RM m ad S σ) {k : Nat} {v : Int32} (hS : S1 = pI S m k v) (hs : σ1 = sF σ k v) : RM m ad S1 σ1 ∧ Fm m ad S S1 := by
  subst hS; subst hs
  obtain ⟨h1, h2, h3, h4, h5, h6, h7⟩ := h
  refine ⟨⟨?_, h2, fun j => ?_, h4, h5, h6, h7⟩, rfl, rfl, rfl, rfl, fun a ha _ => ?_⟩
  · funext j
    rw [sI_pI, if_pos rfl]
    simp only [sF, ← h1]
  · show u2 S.2.1 m k v (ad j) = _
    rw [u2_ne _ _ _ (h6 j)]
    exact h3 j
  · exact u2_ne _ _ _ ha
theorem rm_putA {m : Nat} {ad : Nat → Nat} {S S1 : MS} {σ σ1 : Sg} (h : RM m ad S σ) {k i : Nat} {v : Int32} (hk : lenA k ≠ 0) (hS : S1 = pI S (ad k) i v) (hs : σ1 = sA σ k i v) : RM m ad S1 σ1 ∧ Fm m ad S S1 := by
  subst hS; subst hs
  obtain ⟨h1, h2, h3, h4, h5, h6, h7⟩ := h
  refine ⟨⟨?_, h2, fun j => ?_, h4, h5, h6, h7⟩, rfl, rfl, rfl, rfl, fun a _ ha => ?_⟩
  · show u2 S.2.1 (ad k) i v m = _
    rw [u2_ne _ _ _ (Ne.symm (h6 k))]
    exact h1
  · funext z
    rw [sI_pI]
    by_cases hj : ad j = ad k
    · have e := h7 k hk j hj
      subst e
      rw [if_pos rfl]
      simp only [sA, u2, if_pos, h3]
    · rw [if_neg hj]
      have e : j ≠ k := fun e => hj (by rw [e])
      simp only [sA, u2, if_neg e, h3]
  · exact u2_ne _ _ _ (ha k hk)
