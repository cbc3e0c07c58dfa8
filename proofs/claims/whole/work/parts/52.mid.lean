/-- between the class's call and the reference's: the class means σ1 already, the reference is σ still -/
def Mid (S : MS) (l1 l2 l3 l4 : Nat) (loc ow : Nat → Nat) (σ σ1 : Sg) (M C N : Nat) : Prop :=
  loc 1 = l1 ∧ loc 5000 = l2 ∧ loc 5100 = l3 ∧ loc 5101 = l4 ∧ kT S l3 = 15 ∧ kL S l3 = 1 ∧ kT S l4 = 16 ∧ kL S l4 = 1 ∧ (∀ r, Us σ1 M N r → ow (loc r) = r ∧ kT S (loc r) ≠ 0) ∧ (∀ a, kT S a ≠ 0 → a ≠ 0) ∧
  WF σ1 M C N ∧ RC S loc σ1 M C N ∧ RM l2 (sR S l2) S σ ∧ (∀ k, (lenA k ≠ 0 → sR S l2 k = loc (5001 + k)) ∧ (lenA k = 0 → sR S l2 k = 0))
theorem us_m {σ : Sg} {M N : Nat} : Us σ M N 5000 ∧ Us σ M N 5100 ∧ Us σ M N 5101 := by
  unfold Us
  exact ⟨by omega, by omega, by omega⟩
theorem us_k {σ : Sg} {M N k : Nat} (h : lenA k ≠ 0) : Us σ M N (5001 + k) := by
  unfold Us
  exact Or.inr (Or.inr (Or.inr (Or.inr (Or.inr (Or.inr (Or.inr (Or.inr (Or.inr (Or.inl ⟨k, h, rfl⟩)))))))))
/-- roles apart, addresses apart -/
theorem ow_ne {S : MS} {loc ow : Nat → Nat} {σ : Sg} {M N : Nat} (h : ∀ r, Us σ M N r → ow (loc r) = r ∧ kT S (loc r) ≠ 0) {r q : Nat} (hr : Us σ M N r) (hq : Us σ M N q) (hne : r ≠ q) : loc r ≠ loc q := fun e => hne (by rw [← (h r hr).1, e, (h q hq).1])
/-- the reference has come to σ' over Fm: the tie holds again -/
theorem mid_end {S S' : MS} {l1 l2 l3 l4 : Nat} {loc ow : Nat → Nat} {σ σ1 σ' : Sg} {M C N : Nat} (h : Mid S l1 l2 l3 l4 loc ow σ σ1 M C N) (hF : Fm l2 (sR S l2) S S') (hR : RM l2 (sR S l2) S' σ') (he : eqv σ' σ1) : Inv S' l1 l2 l3 l4 loc ow σ' M C N := by
  obtain ⟨m1, m2, m3, m4, m5, m6, m7, m8, m9, m10, m11, m12, m13, m14⟩ := h
  obtain ⟨f1, f2, f3, f4, f5⟩ := hF
  have kt : ∀ a, kT S' a = kT S a := fun a => by unfold kT; rw [f1]
  have kl : ∀ a, kL S' a = kL S a := fun a => by unfold kL; rw [f1]
  have hsm : ∀ r, Us σ1 M N r → r < 5000 → Sm S S' (loc r) := fun r hr hlt => by
    refine ⟨by rw [f1], f5 _ ?_ (fun k hk => ?_), by rw [f2]⟩
    · rw [← m2]; exact ow_ne m9 hr us_m.1 (by omega)
    · rw [(m14 k).1 hk]; exact ow_ne m9 hr (us_k hk) (by omega)
  have hw := m11
  obtain ⟨-, hM80, -, hC60, -, hN3, -⟩ := hw
  have hsr : sR S' l2 = sR S l2 := by rw [f2]
  refine ⟨m1, m2, m3, m4, by rw [kt]; exact m5, by rw [kl]; exact m6, by rw [kt]; exact m7, by rw [kl]; exact m8, fun r hr => ?_, fun a ha => m10 a (by rw [← kt]; exact ha), wf_eqv he m11, rc_eqv he (rc_same hM80 hC60 hN3 ⟨fun r hr hlt _ _ => hsm r hr hlt, by rw [f1], by rw [f1]⟩ m12), by rw [hsr]; exact hR, fun k => by rw [hsr]; exact m14 k⟩
  rw [kt]
  exact m9 r (us_eqv he hr)
theorem Inv.mid {S : MS} {l1 l2 l3 l4 : Nat} {loc ow : Nat → Nat} {σ : Sg} {M C N : Nat} (h : Inv S l1 l2 l3 l4 loc ow σ M C N) : Mid S l1 l2 l3 l4 loc ow σ σ M C N := h
/-- where the law goes on -/
def Nxt (KH : MS → Nat → Nat → Nat → Nat → Int32 → Prop) (l1 l2 l3 l4 : Nat) (i : Nat) : Prop := ∀ (S : MS) (loc ow : Nat → Nat) (σ : Sg) (M C N : Nat), Inv S l1 l2 l3 l4 loc ow σ M C N → KH S l1 l2 l3 l4 (nI (i + 5))
/-- the answer of the class's wrapper: S1 means σ1, and holds the answer where k is 0 -/
def Ans (S S1 : MS) (l1 l2 l3 l4 : Nat) (σ σ1 : Sg) (k : Int32) (ans : Int32) : Prop := ∃ (loc ow : Nat → Nat) (M C N : Nat), Mid S1 l1 l2 l3 l4 loc ow σ σ1 M C N ∧ (k = 0 → sL S1 l3 0 = ans.toInt64)
theorem lg_refl (x : Int64) : lg_cmp x x = 0 := by simp [lg_cmp]
theorem nI5 (i : Nat) : nI i + 5 = nI (i + 5) := nI_add i 5
