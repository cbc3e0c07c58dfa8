/-! THE MODEL STATE: kinds, ints, references, longs, doubles, by address and place -/
abbrev MS : Type := (Nat → Nat × Nat) × (Nat → Nat → Int32) × (Nat → Nat → Nat) × (Nat → Nat → Int64) × (Nat → Nat → UInt64)
def kT (S : MS) (a : Nat) : Nat := (S.1 a).1
def kL (S : MS) (a : Nat) : Nat := (S.1 a).2
def sI (S : MS) : Nat → Nat → Int32 := S.2.1
def sR (S : MS) : Nat → Nat → Nat := S.2.2.1
def sL (S : MS) : Nat → Nat → Int64 := S.2.2.2.1
def sD (S : MS) : Nat → Nat → UInt64 := S.2.2.2.2
def u2 {α : Type} (f : Nat → Nat → α) (a k : Nat) (v : α) : Nat → Nat → α := fun b j => if b = a then (if j = k then v else f b j) else f b j
def pI (S : MS) (a k : Nat) (v : Int32) : MS := (S.1, u2 S.2.1 a k v, S.2.2)
def pR (S : MS) (a k v : Nat) : MS := (S.1, S.2.1, u2 S.2.2.1 a k v, S.2.2.2)
def pL (S : MS) (a k : Nat) (v : Int64) : MS := (S.1, S.2.1, S.2.2.1, u2 S.2.2.2.1 a k v, S.2.2.2.2)
def pD (S : MS) (a k : Nat) (v : UInt64) : MS := (S.1, S.2.1, S.2.2.1, S.2.2.2.1, u2 S.2.2.2.2 a k v)
def nw (S : MS) (q tag len : Nat) : MS := (fun a => if a = q then (tag, len) else S.1 a, fun a k => if a = q then 0 else S.2.1 a k, fun a k => if a = q then 0 else S.2.2.1 a k, fun a k => if a = q then 0 else S.2.2.2.1 a k, fun a k => if a = q then 0 else S.2.2.2.2 a k)
def op (x : Nat) : Option Nat := if x = 0 then none else some x
def rf (x : Nat) : Value := va_rf (op x)
def ix (i : Int32) : Nat := i.toNatClampNeg
def fl (tag : Nat) : List Bool := match tag with
  | 1 => [false, false, false, false]
  | 2 => [true, true, false]
  | 3 => [false, false, false, false, false, false]
  | 4 => [true, true, false, false, false, false]
  | 5 => [false, false, true, true, true, false, false, false, false, false, false, false]
  | 6 => [true, true, true, true, true, true, false, false, false, false, false, false]
  | _ => [false, false, true, true, true, true, true, true, true, true, true, true, true, false, false, true, true, false, false, false, true, false, true, true, true, false, false, false, false, true, false]
def fv (S : MS) (a : Nat) : Nat → List Bool → List Value
  | _, [] => []
  | k, b :: bs => (if b then rf (sR S a k) else .int (sI S a k)) :: fv S a (k + 1) bs
def cellOf (cy : Nat → ClassId) (S : MS) (a : Nat) : va_E :=
  if kT S a ≤ 7 then .inr (kT S a - 1, fv S a 0 (fl (kT S a)))
  else if kT S a ≤ 10 then .inl (cy (kT S a), kL S a, .inl (sI S a))
  else if kT S a ≤ 14 then .inl (cy (kT S a), kL S a, .inr (.inr (.inr (.inr (fun i => op (sR S a i))))))
  else if kT S a = 15 then .inl (cy (kT S a), kL S a, .inr (.inl (sL S a)))
  else .inl (cy (kT S a), kL S a, .inr (.inr (.inr (.inl (sD S a)))))
abbrev GP : Type := va_G × (Nat → ClassId) × Nat
abbrev cls : List vw_C := [(RX0, TX0, 4), (RX1, TX1, 3), (RX2, TX2, 6), (RX3, TX3, 6), (RX4, TX4, 12), (RX5, TX5, 12), (RX6, TX6, 31)]
abbrev tysOf (G : GP) : List (ClassId × FieldType) := [(G.2.1 8, .char), (G.2.1 9, .int), (G.2.1 10, .boolean), (G.2.1 11, .object RX0), (G.2.1 12, .object RX2), (G.2.1 13, .object RX4), (G.2.1 14, .array .int), (G.2.1 15, .long), (G.2.1 16, .double)]
abbrev Ab (G : GP) : Nat → Prop := fun q => G.2.2 ≤ q
def HR (G : GP) (S : MS) (H : Heap) : Prop := ∃ L : List Nat, (∀ a, a ∈ L ↔ kT S a ≠ 0) ∧ va_P G.1 cls (va_pl L (cellOf G.2.1 S)) H ∧ va_D (Ab G) (va_pl L (cellOf G.2.1 S))
def lw_all : List Cond := lw_tbl.filter goodWord
theorem lw_all_good {w : Cond} (h : w ∈ lw_all) : goodWord w = true := (List.mem_filter.mp h).2
theorem lw_mem {w : Cond} (h : w ∈ lw_tbl) (hg : goodWord w = true) : w ∈ lw_all := List.mem_filter.mpr ⟨h, hg⟩
theorem tb_mem {w : Cond} (i : Nat) (h : tables_1[i]? = some w) (hg : goodWord w = true) : w ∈ lw_all := lw_mem (List.mem_append_right _ (List.mem_of_getElem? h)) hg
theorem rf_ne {a : Nat} (h : a ≠ 0) : rf a = .ref a := by simp [rf, op, h, va_rf]
theorem rf_0 : rf 0 = .null := by simp [rf, op, va_rf]
theorem rf_cat (a : Nat) : (rf a).category = 1 := by
  by_cases h : a = 0
  · subst h; rw [rf_0]; rfl
  · rw [rf_ne h]; rfl
theorem tst1 : Cond.fieldLink RX1 11 "OptimisticStore$History" "stores" "[[I" ∈ lw_all := by decide +kernel
