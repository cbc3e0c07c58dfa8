/-! THE TIE: one pure state sg; the reference's cells are it (RM), the class's cells mean it (RC). Addresses by roles: loc r is the address of role r, ow an address' role.
roles: 1 store, 2 history, 3 transactions, 4 constraints, 5 script, 6 viewRow, 7 chainRow, 8 stores, 9 authors, 10 text, 11 steps, 12+i constraint i, 100+c store row c, 200+t transaction t, 300+t its operations, 400+t its recordedAt, 500+t its newValues, 1000+24t+i its operation i, 5000 reference, 5001+k its row k, 5100 out, 5101 outD -/
def hb (w : Int32) (k : Nat) : Prop := ¬ (w &&& ((1 : Int32) <<< (nI k &&& 31))) = 0
/-- whether operation i of transaction t is a predicate, and how many of the first i are -/
def isPr (σ : Sg) (t i : Nat) : Bool := decide (σ.2 8 (5 * (24 * t + i)) = 1) || decide (σ.2 8 (5 * (24 * t + i)) = 2)
def cP (σ : Sg) (t : Nat) : Nat → Nat
  | 0 => 0
  | i + 1 => cP σ t i + (if isPr σ t i then 1 else 0)
def OpR (S : MS) (loc : Nat → Nat) (σ : Sg) (t i : Nat) : Prop :=
  kT S (loc (1000 + (24 * t + i))) = 3 ∧ sR S (loc (300 + t)) i = loc (1000 + (24 * t + i)) ∧
  sI S (loc (1000 + (24 * t + i))) 0 = σ.2 8 (5 * (24 * t + i)) ∧ sI S (loc (1000 + (24 * t + i))) 1 = σ.2 8 (5 * (24 * t + i) + 1) ∧
  (∃ q : Nat, q < 6 ∧ σ.2 8 (5 * (24 * t + i)) = nI q) ∧ (∃ k : Nat, k < 32 ∧ σ.2 8 (5 * (24 * t + i) + 1) = nI k) ∧
  (σ.2 8 (5 * (24 * t + i)) = 0 ∨ σ.2 8 (5 * (24 * t + i)) = 1 ∨ σ.2 8 (5 * (24 * t + i)) = 2 ∨ σ.2 8 (5 * (24 * t + i)) = 5 → sI S (loc (1000 + (24 * t + i))) 5 = σ.2 8 (5 * (24 * t + i) + 4)) ∧
  (σ.2 8 (5 * (24 * t + i)) = 3 ∨ σ.2 8 (5 * (24 * t + i)) = 5 → sI S (loc (1000 + (24 * t + i))) 3 = σ.2 8 (5 * (24 * t + i) + 2)) ∧
  (σ.2 8 (5 * (24 * t + i)) = 3 → sI S (loc (1000 + (24 * t + i))) 5 = sI S (loc (1000 + (24 * t + i))) 3) ∧
  (σ.2 8 (5 * (24 * t + i)) = 4 → sI S (loc (1000 + (24 * t + i))) 5 = -1000) ∧
  (σ.2 8 (5 * (24 * t + i)) = 1 ∨ σ.2 8 (5 * (24 * t + i)) = 2 → sI S (loc (1000 + (24 * t + i))) 2 = σ.2 8 (5 * (24 * t + i) + 2) ∧ (∃ k : Nat, k < 32 ∧ σ.2 8 (5 * (24 * t + i) + 2) = nI k) ∧
    σ.2 11 (4 * (24 * t + cP σ t i)) = σ.2 8 (5 * (24 * t + i) + 1) ∧ σ.2 11 (4 * (24 * t + cP σ t i) + 1) = σ.2 8 (5 * (24 * t + i) + 2) ∧ σ.2 11 (4 * (24 * t + cP σ t i) + 2) = sI S (loc (1000 + (24 * t + i))) 3 ∧ σ.2 11 (4 * (24 * t + cP σ t i) + 3) = sI S (loc (1000 + (24 * t + i))) 4 ∧ (∃ c : Nat, c ≤ 60 ∧ sI S (loc (1000 + (24 * t + i))) 4 = nI c) ∧ -999 ≤ sI S (loc (1000 + (24 * t + i))) 3) ∧
  (σ.2 8 (5 * (24 * t + i)) = 1 → sI S (loc (1000 + (24 * t + i))) 3 = σ.2 8 (5 * (24 * t + i) + 3)) ∧
  (σ.2 8 (5 * (24 * t + i)) = 3 ∨ σ.2 8 (5 * (24 * t + i)) = 4 → σ.2 8 (5 * (24 * t + i) + 4) = 0) ∧ (∃ c : Nat, c ≤ 60 ∧ sI S (loc (1000 + (24 * t + i))) 4 = nI c)
def TxR (S : MS) (loc : Nat → Nat) (σ : Sg) (t : Nat) : Prop :=
  kT S (loc (200 + t)) = 5 ∧ sR S (loc 3) t = loc (200 + t) ∧
  sR S (loc (200 + t)) 2 = loc (300 + t) ∧ sR S (loc (200 + t)) 3 = loc (400 + t) ∧ sR S (loc (200 + t)) 4 = loc (500 + t) ∧
  kT S (loc (300 + t)) = 12 ∧ kL S (loc (300 + t)) = 24 ∧ kT S (loc (400 + t)) = 9 ∧ kL S (loc (400 + t)) = 32 ∧ kT S (loc (500 + t)) = 9 ∧ kL S (loc (500 + t)) = 32 ∧
  sI S (loc (200 + t)) 0 = nI t ∧ sI S (loc (200 + t)) 1 = σ.2 3 t ∧ sI S (loc (200 + t)) 5 = σ.2 7 t ∧ sI S (loc (200 + t)) 8 = σ.2 2 t ∧ sI S (loc (200 + t)) 9 = σ.2 4 t ∧ sI S (loc (200 + t)) 10 = σ.2 5 t ∧ sI S (loc (200 + t)) 11 = σ.2 6 t
def KyR (S : MS) (loc : Nat → Nat) (σ : Sg) (t k : Nat) : Prop :=
  (hb (sI S (loc (200 + t)) 6) k ↔ ¬ σ.2 9 (32 * t + k) = -1) ∧ (¬ σ.2 9 (32 * t + k) = -1 → sI S (loc (400 + t)) k = σ.2 9 (32 * t + k)) ∧
  (hb (sI S (loc (200 + t)) 7) k ↔ ¬ σ.2 10 (32 * t + k) = -5000) ∧ (¬ σ.2 10 (32 * t + k) = -5000 → sI S (loc (500 + t)) k = σ.2 10 (32 * t + k))
/-- the store's own cells -/
def StR (S : MS) (loc : Nat → Nat) (σ : Sg) : Prop :=
  kT S (loc 1) = 6 ∧ kT S (loc 2) = 2 ∧ kT S (loc 3) = 13 ∧ kL S (loc 3) = 80 ∧ kT S (loc 4) = 11 ∧ kL S (loc 4) = 3 ∧ kT S (loc 5) = 4 ∧ kT S (loc 6) = 9 ∧ kL S (loc 6) = 32 ∧ kT S (loc 7) = 9 ∧ kL S (loc 7) = 61 ∧ kT S (loc 8) = 14 ∧ kL S (loc 8) = 61 ∧ kT S (loc 9) = 13 ∧ kL S (loc 9) = 61 ∧ kT S (loc 10) = 8 ∧ kL S (loc 10) = 60 ∧ kT S (loc 11) = 12 ∧ kL S (loc 11) = 30 ∧
  sR S (loc 1) 0 = loc 2 ∧ sR S (loc 1) 1 = loc 3 ∧ sR S (loc 1) 2 = loc 4 ∧ sR S (loc 1) 3 = loc 5 ∧ sR S (loc 1) 4 = loc 6 ∧ sR S (loc 1) 5 = loc 7 ∧ sR S (loc 2) 0 = loc 8 ∧ sR S (loc 2) 1 = loc 9 ∧ sR S (loc 5) 0 = loc 10 ∧ sR S (loc 5) 1 = loc 11 ∧
  sI S (loc 1) 6 = σ.1 1 ∧ sI S (loc 1) 7 = σ.1 21 ∧ sI S (loc 1) 8 = σ.1 17 ∧ sI S (loc 1) 9 = σ.1 18 ∧ sI S (loc 1) 10 = σ.1 19 ∧ sI S (loc 1) 11 = σ.1 13 ∧ sI S (loc 2) 2 = σ.1 14 ∧ sI S (loc 5) 3 = σ.1 25 ∧ sI S (loc 5) 5 = σ.1 28
def RwR (S : MS) (loc : Nat → Nat) (c : Nat) : Prop := kT S (loc (100 + c)) = 9 ∧ kL S (loc (100 + c)) = 32 ∧ sR S (loc 8) c = loc (100 + c)
def CnR (S : MS) (loc : Nat → Nat) (σ : Sg) (i : Nat) : Prop := sR S (loc 4) i = loc (12 + i) ∧ kT S (loc (12 + i)) = 1 ∧ sI S (loc (12 + i)) 0 = σ.2 20 (4 * i) ∧ sI S (loc (12 + i)) 1 = σ.2 20 (4 * i + 1) ∧ sI S (loc (12 + i)) 2 = σ.2 20 (4 * i + 2) ∧ sI S (loc (12 + i)) 3 = σ.2 20 (4 * i + 3)
/-- numbers in their ranges -/
def WF (σ : Sg) (M C N : Nat) : Prop := σ.1 1 = nI M ∧ M ≤ 80 ∧ σ.1 14 = nI C ∧ C ≤ 60 ∧ σ.1 21 = nI N ∧ N ≤ 3 ∧
  (∀ t, t < M → (∃ q : Nat, q < 3 ∧ σ.2 2 t = nI q) ∧ (∃ z : Nat, z ≤ 24 ∧ σ.2 7 t = nI z ∧ σ.2 12 t = nI (cP σ t z)) ∧ (∃ a : Nat, a ≤ M ∧ σ.2 3 t = nI a)) ∧
  (∀ t, t < M → ∀ k, k < 32 → (σ.2 9 (32 * t + k) = -1 ∨ ∃ c : Nat, c ≤ 60 ∧ σ.2 9 (32 * t + k) = nI c) ∧ (σ.2 10 (32 * t + k) = -5000 ∨ (-1000 ≤ (σ.2 10 (32 * t + k)).toInt ∧ (σ.2 10 (32 * t + k)).toInt ≤ 999))) ∧
  (∀ c, c ≤ C → ∀ k, k < 32 → -1000 ≤ (σ.2 15 (32 * c + k)).toInt ∧ (σ.2 15 (32 * c + k)).toInt ≤ 999) ∧
  (∀ c, 1 ≤ c → c ≤ C → ∃ t : Nat, t < M ∧ σ.2 16 c = nI t ∧ σ.2 2 t = 1 ∧ σ.2 5 t = nI c ∧ ∀ k, k < 32 → ¬ σ.2 10 (32 * t + k) = -5000 → σ.2 15 (32 * c + k) = σ.2 10 (32 * t + k)) ∧
  (σ.1 13 = -1 ∨ ∃ t : Nat, t < M ∧ σ.1 13 = nI t ∧ σ.2 2 t = 0) ∧
  (σ.1 17 = 0 ∨ σ.1 17 = 1) ∧ (σ.1 18 = 0 ∨ σ.1 18 = 1 ∨ σ.1 18 = 2) ∧ (∃ z : Nat, 1 ≤ z ∧ z ≤ 5 ∧ σ.1 19 = nI z) ∧
  (∀ i, i < N → (σ.2 20 (4 * i) = 0 ∨ σ.2 20 (4 * i) = 1 ∨ σ.2 20 (4 * i) = 2) ∧ ∃ a b : Nat, a ≤ b ∧ b < 32 ∧ σ.2 20 (4 * i + 1) = nI a ∧ σ.2 20 (4 * i + 2) = nI b) ∧
  (∃ y : Nat, y ≤ 60 ∧ σ.1 25 = nI y ∧ ∀ i, i < y → 33 ≤ (σ.2 24 i).toInt ∧ (σ.2 24 i).toInt ≤ 126) ∧
  (∀ t, M ≤ t → t < 80 → σ.2 4 t = 0 ∧ σ.2 5 t = 0 ∧ σ.2 6 t = 0)
/-- the class's cells mean the pure state -/
def RC (S : MS) (loc : Nat → Nat) (σ : Sg) (M C N : Nat) : Prop := StR S loc σ ∧ (∀ c, c ≤ 60 → RwR S loc c) ∧
  (∀ t, t < M → TxR S loc σ t) ∧ (∀ t, t < M → ∀ k, k < 32 → KyR S loc σ t k) ∧ (∀ t, t < M → ∀ i z : Nat, σ.2 7 t = nI z → z ≤ 24 → i < z → OpR S loc σ t i) ∧
  (∀ c, c ≤ C → ∀ k, k < 32 → sI S (loc (100 + c)) k = σ.2 15 (32 * c + k)) ∧
  (∀ c, 1 ≤ c → c ≤ C → ∀ t, t < M → σ.2 16 c = nI t → sR S (loc 9) c = loc (200 + t)) ∧
  (∀ i, i < N → CnR S loc σ i) ∧ (∀ y i : Nat, σ.1 25 = nI y → y ≤ 60 → i < y → sI S (loc 10) i = σ.2 24 i)
/-- the roles in use -/
def Us (σ : Sg) (M N r : Nat) : Prop := (1 ≤ r ∧ r ≤ 11) ∨ (12 ≤ r ∧ r < 12 + N) ∨ (100 ≤ r ∧ r ≤ 160) ∨ (200 ≤ r ∧ r < 200 + M) ∨ (300 ≤ r ∧ r < 300 + M) ∨ (400 ≤ r ∧ r < 400 + M) ∨ (500 ≤ r ∧ r < 500 + M) ∨ (∃ t i z : Nat, t < M ∧ σ.2 7 t = nI z ∧ z ≤ 24 ∧ i < z ∧ r = 1000 + (24 * t + i)) ∨ r = 5000 ∨ (∃ k, lenA k ≠ 0 ∧ r = 5001 + k) ∨ r = 5100 ∨ r = 5101
def Inv (S : MS) (l1 l2 l3 l4 : Nat) (loc ow : Nat → Nat) (σ : Sg) (M C N : Nat) : Prop :=
  loc 1 = l1 ∧ loc 5000 = l2 ∧ loc 5100 = l3 ∧ loc 5101 = l4 ∧ kT S l3 = 15 ∧ kL S l3 = 1 ∧ kT S l4 = 16 ∧ kL S l4 = 1 ∧ (∀ r, Us σ M N r → ow (loc r) = r ∧ kT S (loc r) ≠ 0) ∧ (∀ a, kT S a ≠ 0 → a ≠ 0) ∧
  WF σ M C N ∧ RC S loc σ M C N ∧ RM l2 (sR S l2) S σ ∧ (∀ k, (lenA k ≠ 0 → sR S l2 k = loc (5001 + k)) ∧ (lenA k = 0 → sR S l2 k = 0))
