/-! words that aren't good ones, carried by the world: strings, nest mates' methods, arrays over classes, what a class isn't -/
def strs : List (String × Nat × String) := [("OptimisticStore", 61, "policy, victim rule or patience is out of range"), ("OptimisticStore", 72, "a transaction is active"), ("OptimisticStore", 79, "no further transaction can begin"), ("OptimisticStore", 270, "there is no such transaction"), ("OptimisticStore", 98, "the transaction cannot be retried"), ("OptimisticStore", 279, "a number is out of range"), ("OptimisticStore", 284, "the transaction cannot make an operation"), ("OptimisticStore", 293, "the new value would be out of range"), ("OptimisticStore", 115, "the transaction cannot be committed"), ("OptimisticStore", 272, "the transaction is not active"), ("OptimisticStore", 136, "nobody holds the ticket"), ("OptimisticStore", 139, "the transaction is not aborted"), ("OptimisticStore", 144, "the transaction is not committed"), ("OptimisticStore", 263, "the key is out of range"), ("OptimisticStore", 267, "there is no such commit"), ("OptimisticStore", 190, "the first commit is not the earlier one"), ("OptimisticStore", 218, "kind, low or high is out of range"), ("OptimisticStore", 227, "the constraint cannot be added"), ("OptimisticStore", 229, "the reason is out of range"), ("OptimisticStore", 233, "no transaction is committed"), ("OptimisticStore", 236, "no transaction has ended"), ("OptimisticStore", 238, "the character is out of range"), ("OptimisticStore", 243, "the text is full"), ("OptimisticStore", 252, "the text has a fault"), ("OptimisticStore", 254, "no further transaction can begin or be committed")]
def nest : List (String × Nat × MethodName × String) := [("OptimisticStore$Operation", 36, ⟨"OptimisticStore", "countIn", "([IIII)I"⟩, "OptimisticStore"), ("OptimisticStore$Operation", 40, ⟨"OptimisticStore", "totalIn", "([III)I"⟩, "OptimisticStore"), ("OptimisticStore$Operation", 24, ⟨"OptimisticStore", "isRange", "(II)Z"⟩, "OptimisticStore"), ("OptimisticStore$Operation", 28, ⟨"OptimisticStore", "isBetween", "(III)Z"⟩, "OptimisticStore"), ("OptimisticStore$Constraint", 24, ⟨"OptimisticStore", "countIn", "([IIII)I"⟩, "OptimisticStore"), ("OptimisticStore$Constraint", 28, ⟨"OptimisticStore", "totalIn", "([III)I"⟩, "OptimisticStore")]
def excs : List String := ["java/lang/IllegalArgumentException", "java/lang/IllegalStateException", "java/lang/IndexOutOfBoundsException", "java/lang/ArithmeticException", "java/util/NoSuchElementException"]
def odd : List Cond := [.declares (Bundle.initS "java/lang/RuntimeException"), .declares (Bundle.initS "java/lang/Exception"), .declares (Bundle.initS "java/lang/Throwable"), .castable "java/lang/IllegalArgumentException" "java/lang/IllegalArgumentException", .castable "java/lang/IllegalStateException" "java/lang/IllegalStateException", .castable "java/lang/IndexOutOfBoundsException" "java/lang/IndexOutOfBoundsException", .castable "java/lang/ArithmeticException" "java/lang/ArithmeticException", .castable "java/util/NoSuchElementException" "java/util/NoSuchElementException"]
def WI (G : GP) (U : State) : Prop := va_K G.1 cls (tysOf G) U ∧ vx_Zq Bundle.tN "UNASSIGNED_STACK" Bundle.steD (Ab G) U U.heap ∧ vx_Zq Bundle.tN "SUPPRESSED_SENTINEL" Bundle.listD (Ab G) U U.heap ∧ (∀ q ∈ strs, ∃ a, vk_R q.1 q.2.1 q.2.2 a U) ∧ (∀ q ∈ nest, va_Nw (.methodLinkNest q.1 q.2.1 q.2.2.1 q.2.2.2) U) ∧ (∀ C ∈ [RX0, RX2, RX4], va_AO C U) ∧ va_AOA .int U ∧ (∀ a ∈ excs, ∀ b ∈ excs, a ≠ b → va_Nc a b U) ∧ (∀ w ∈ odd, w.before #[] U = true)
def Cx (p : Program) (s : State) (m : MethodId) (args : Array Value) (c : Code) (cc : ByteArray) (nL : Nat) (own : String) (G : GP) : Prop :=
  p.tables.exec = Jvm.exec ∧ c.code = cc ∧ c.maxLocals = nL ∧ s.vm.findClass own = some m.cls ∧ (∀ w ∈ lw_all, w.before args s = true) ∧ WI G s ∧ 1 ≤ G.2.2 ∧ G.2.2 ≤ s.heap.size
def Gd (p : Program) (l : Launch) (e : Env) (R : Room) (s : State) (m : MethodId) (args : Array Value) (below : List Frame) (meth : Method) (c : Code) (nL : Nat) (G : GP) (Q : State → Prop) (k j : Nat) (S : MS) (pc : Nat) (E : List (Nat × Value)) (st : List Value) : Prop :=
  ∀ (H : Heap) (locs : List Loc) (la : Array Slot), HR G S H → va_S (Ab G) s.heap H locs → lv_has la nL E → W p l e R s m args below meth c H locs k j Q (F0 m pc la st)
/-- what a class' number says: its name, its fields, their types -/
def CI (ci : Nat) (C : String) (T : u_T) (N : Nat) (ty : Nat → FieldType) : Prop := ci < 7 ∧ cls[ci]? = some (C, T, N) ∧ (∀ w ∈ u_ws C T N, w ∈ lw_all) ∧ (∀ k, k < N → parseFieldDescriptor (T k).2.2.1 = some (ty k)) ∧ (∀ a, a < N → ∀ b, b < N → a ≠ b → (T a).2.1 ≠ (T b).2.1) ∧ (fl (ci + 1)).length = N

theorem ci0 : CI 0 RX0 TX0 4 tyX0 := ⟨by decide, rfl, by decide +kernel, tyX0_ok, nmX0, rfl⟩
theorem ci1 : CI 1 RX1 TX1 3 tyX1 := ⟨by decide, rfl, by decide +kernel, tyX1_ok, nmX1, rfl⟩
theorem ci2 : CI 2 RX2 TX2 6 tyX2 := ⟨by decide, rfl, by decide +kernel, tyX2_ok, nmX2, rfl⟩
theorem ci3 : CI 3 RX3 TX3 6 tyX3 := ⟨by decide, rfl, by decide +kernel, tyX3_ok, nmX3, rfl⟩
theorem ci4 : CI 4 RX4 TX4 12 tyX4 := ⟨by decide, rfl, by decide +kernel, tyX4_ok, nmX4, rfl⟩
theorem ci5 : CI 5 RX5 TX5 12 tyX5 := ⟨by decide, rfl, by decide +kernel, tyX5_ok, nmX5, rfl⟩
theorem ci6 : CI 6 RX6 TX6 31 tyX6 := ⟨by decide, rfl, by decide +kernel, tyX6_ok, nmX6, rfl⟩
section GD
variable {p : Program} {l : Launch} {e : Env} {R : Room} {s : State} {m : MethodId} {args : Array Value} {below : List Frame} {meth : Method} {c : Code} {Q : State → Prop}
variable {cc : ByteArray} {nL : Nat} {own : String} {G : GP} {k j : Nat} {S : MS} {pc : Nat} {E : List (Nat × Value)} {st : List Value}

theorem gd_wide {k2 j2 : Nat} (h1 : k ≤ k2) (h2 : j ≤ j2) (K : Gd p l e R s m args below meth c nL G Q k2 j2 S pc E st) : Gd p l e R s m args below meth c nL G Q k j S pc E st := fun H locs la hH hS hl => W.widen h1 h2 (K H locs la hH hS hl)
theorem gd_sub {E2 : List (Nat × Value)} (ks : List Nat) (h : lv_pick E ks = E2) (K : Gd p l e R s m args below meth c nL G Q k j S pc E2 st) : Gd p l e R s m args below meth c nL G Q k j S pc E st := fun H locs la hH hS hl => K H locs la hH hS (lv_sub hl ks h)
theorem gd_pc {pc2 : Nat} (h : pc = pc2) (K : Gd p l e R s m args below meth c nL G Q k j S pc2 E st) : Gd p l e R s m args below meth c nL G Q k j S pc E st := h ▸ K
theorem gd_iconst (X : Cx p s m args c cc nL own G) {n : Int} (v : Int32) (d : decode cc pc = .ok (.iconst n, 1)) (hv : Int32.ofInt n = v) (K : Gd p l e R s m args below meth c nL G Q k j S (pc + 1) E (.int v :: st)) : Gd p l e R s m args below meth c nL G Q k j S pc E st := fun H locs la hH hS hl => lv_iconst X.1 X.2.1 d hv (K H locs la hH hS hl)
theorem gd_bipush (X : Cx p s m args c cc nL own G) {n : Int} (v : Int32) (d : decode cc pc = .ok (.bipush n, 2)) (hv : (Int8.ofInt n).toInt32 = v) (K : Gd p l e R s m args below meth c nL G Q k j S (pc + 2) E (.int v :: st)) : Gd p l e R s m args below meth c nL G Q k j S pc E st := fun H locs la hH hS hl => lv_bipush X.1 X.2.1 d hv (K H locs la hH hS hl)
theorem gd_sipush (X : Cx p s m args c cc nL own G) {n : Int} (v : Int32) (d : decode cc pc = .ok (.sipush n, 3)) (hv : (Int16.ofInt n).toInt32 = v) (K : Gd p l e R s m args below meth c nL G Q k j S (pc + 3) E (.int v :: st)) : Gd p l e R s m args below meth c nL G Q k j S pc E st := fun H locs la hH hS hl => lv_sipush X.1 X.2.1 d hv (K H locs la hH hS hl)
theorem gd_iload_n (X : Cx p s m args c cc nL own G) {f : Fin 4} {x : Int32} (q : Nat) (d : decode cc pc = .ok (.iload_n f, 1)) (hq : E[q]? = some ((f : Nat), .int x)) (K : Gd p l e R s m args below meth c nL G Q k j S (pc + 1) E (.int x :: st)) : Gd p l e R s m args below meth c nL G Q k j S pc E st := fun H locs la hH hS hl => lv_iload_n X.1 X.2.1 d rfl (lv_at hl q hq) (K H locs la hH hS hl)
theorem gd_iload (X : Cx p s m args c cc nL own G) {i : Nat} {x : Int32} (q : Nat) (d : decode cc pc = .ok (.iload i, 2)) (hq : E[q]? = some (i, .int x)) (K : Gd p l e R s m args below meth c nL G Q k j S (pc + 2) E (.int x :: st)) : Gd p l e R s m args below meth c nL G Q k j S pc E st := fun H locs la hH hS hl => lv_iload X.1 X.2.1 d (lv_at hl q hq) (K H locs la hH hS hl)
theorem gd_fload (X : Cx p s m args c cc nL own G) {i : Nat} {x : UInt32} (q : Nat) (d : decode cc pc = .ok (.fload i, 2)) (hq : E[q]? = some (i, .float x)) (K : Gd p l e R s m args below meth c nL G Q k j S (pc + 2) E (.float x :: st)) : Gd p l e R s m args below meth c nL G Q k j S pc E st := fun H locs la hH hS hl => lv_fload X.1 X.2.1 d (lv_at hl q hq) (K H locs la hH hS hl)
theorem gd_dload (X : Cx p s m args c cc nL own G) {i : Nat} {x : UInt64} (q : Nat) (d : decode cc pc = .ok (.dload i, 2)) (hq : E[q]? = some (i, .double x)) (K : Gd p l e R s m args below meth c nL G Q k j S (pc + 2) E (.double x :: st)) : Gd p l e R s m args below meth c nL G Q k j S pc E st := fun H locs la hH hS hl => lv_dload X.1 X.2.1 d (lv_at hl q hq) (K H locs la hH hS hl)
theorem gd_lconst (X : Cx p s m args c cc nL own G) {n : Fin 2} (v : Int64) (d : decode cc pc = .ok (.lconst n, 1)) (hv : Int64.ofNat n = v) (K : Gd p l e R s m args below meth c nL G Q k j S (pc + 1) E (.long v :: st)) : Gd p l e R s m args below meth c nL G Q k j S pc E st := fun H locs la hH hS hl => lv_lconst X.1 X.2.1 d hv (K H locs la hH hS hl)
theorem gd_aload_n (X : Cx p s m args c cc nL own G) {f : Fin 4} {x : Nat} (q : Nat) (d : decode cc pc = .ok (.aload_n f, 1)) (hq : E[q]? = some ((f : Nat), rf x)) (K : Gd p l e R s m args below meth c nL G Q k j S (pc + 1) E (rf x :: st)) : Gd p l e R s m args below meth c nL G Q k j S pc E st := fun H locs la hH hS hl => by
  have h := lv_at hl q hq
  have K2 := K H locs la hH hS hl
  by_cases hx : x = 0
  · subst hx; rw [rf_0] at h K2; exact lv_aload_nN X.1 X.2.1 d rfl h K2
  · rw [rf_ne hx] at h K2; exact lv_aload_n X.1 X.2.1 d rfl h K2
theorem gd_aload (X : Cx p s m args c cc nL own G) {i : Nat} {x : Nat} (q : Nat) (d : decode cc pc = .ok (.aload i, 2)) (hq : E[q]? = some (i, rf x)) (K : Gd p l e R s m args below meth c nL G Q k j S (pc + 2) E (rf x :: st)) : Gd p l e R s m args below meth c nL G Q k j S pc E st := fun H locs la hH hS hl => by
  have h := lv_at hl q hq
  have K2 := K H locs la hH hS hl
  by_cases hx : x = 0
  · subst hx; rw [rf_0] at h K2; exact lv_aloadN X.1 X.2.1 d h K2
  · rw [rf_ne hx] at h K2; exact lv_aload X.1 X.2.1 d h K2
theorem gd_null (X : Cx p s m args c cc nL own G)  (d : decode cc pc = .ok (.aconst_null, 1))  (K : Gd p l e R s m args below meth c nL G Q k j S (pc + 1) E (rf 0 :: st)) : Gd p l e R s m args below meth c nL G Q k j S pc E st := fun H locs la hH hS hl => by have K2 := K H locs la hH hS hl; rw [rf_0] at K2; exact lv_null X.1 X.2.1 d K2
theorem gd_istore_n (X : Cx p s m args c cc nL own G) {f : Fin 4} {x : Int32} (d : decode cc pc = .ok (.istore_n f, 1)) (hn : (f : Nat) < nL) {E2 : List (Nat × Value)} (hE : ((f : Nat), Value.int x) :: E.filter (fun q => !(q.1 == (f : Nat)) && !(q.1 + 1 == (f : Nat) && q.2.category == 2)) = E2) (K : Gd p l e R s m args below meth c nL G Q k j S (pc + 1) E2 st) : Gd p l e R s m args below meth c nL G Q k j S pc E (.int x :: st) := fun H locs la hH hS hl => lv_istore_n X.1 X.2.1 d rfl hl hn hE (fun la2 hl2 => K H locs la2 hH hS hl2)
theorem gd_istore (X : Cx p s m args c cc nL own G) {i : Nat} {x : Int32} (d : decode cc pc = .ok (.istore i, 2)) (hn : i < nL) {E2 : List (Nat × Value)} (hE : (i, Value.int x) :: E.filter (fun q => !(q.1 == i) && !(q.1 + 1 == i && q.2.category == 2)) = E2) (K : Gd p l e R s m args below meth c nL G Q k j S (pc + 2) E2 st) : Gd p l e R s m args below meth c nL G Q k j S pc E (.int x :: st) := fun H locs la hH hS hl => lv_istore X.1 X.2.1 d hl hn hE (fun la2 hl2 => K H locs la2 hH hS hl2)
theorem gd_fstore (X : Cx p s m args c cc nL own G) {i : Nat} {x : UInt32} (d : decode cc pc = .ok (.fstore i, 2)) (hn : i < nL) {E2 : List (Nat × Value)} (hE : (i, Value.float x) :: E.filter (fun q => !(q.1 == i) && !(q.1 + 1 == i && q.2.category == 2)) = E2) (K : Gd p l e R s m args below meth c nL G Q k j S (pc + 2) E2 st) : Gd p l e R s m args below meth c nL G Q k j S pc E (.float x :: st) := fun H locs la hH hS hl => lv_fstore X.1 X.2.1 d hl hn hE (fun la2 hl2 => K H locs la2 hH hS hl2)
theorem gd_dstore (X : Cx p s m args c cc nL own G) {i : Nat} {x : UInt64} (d : decode cc pc = .ok (.dstore i, 2)) (hn : i + 1 < nL) {E2 : List (Nat × Value)} (hE : (i, Value.double x) :: E.filter (fun q => !(q.1 == i) && (!(q.1 == i + 1) && !(q.1 + 1 == i && q.2.category == 2))) = E2) (K : Gd p l e R s m args below meth c nL G Q k j S (pc + 2) E2 st) : Gd p l e R s m args below meth c nL G Q k j S pc E (.double x :: st) := fun H locs la hH hS hl => lv_dstore X.1 X.2.1 d hl hn hE (fun la2 hl2 => K H locs la2 hH hS hl2)
theorem gd_astore_n (X : Cx p s m args c cc nL own G) {f : Fin 4} {x : Nat} (d : decode cc pc = .ok (.astore_n f, 1)) (hn : (f : Nat) < nL) {E2 : List (Nat × Value)} (hE : ((f : Nat), rf x) :: E.filter (fun q => !(q.1 == (f : Nat)) && !(q.1 + 1 == (f : Nat) && q.2.category == 2)) = E2) (K : Gd p l e R s m args below meth c nL G Q k j S (pc + 1) E2 st) : Gd p l e R s m args below meth c nL G Q k j S pc E (rf x :: st) := fun H locs la hH hS hl => by
  by_cases hx : x = 0
  · subst hx; rw [rf_0] at hE ⊢; exact lv_astore_nN X.1 X.2.1 d rfl hl hn hE (fun la2 hl2 => K H locs la2 hH hS hl2)
  · rw [rf_ne hx] at hE ⊢; exact lv_astore_n X.1 X.2.1 d rfl hl hn hE (fun la2 hl2 => K H locs la2 hH hS hl2)
theorem gd_astore (X : Cx p s m args c cc nL own G) {i : Nat} {x : Nat} (d : decode cc pc = .ok (.astore i, 2)) (hn : i < nL) {E2 : List (Nat × Value)} (hE : (i, rf x) :: E.filter (fun q => !(q.1 == i) && !(q.1 + 1 == i && q.2.category == 2)) = E2) (K : Gd p l e R s m args below meth c nL G Q k j S (pc + 2) E2 st) : Gd p l e R s m args below meth c nL G Q k j S pc E (rf x :: st) := fun H locs la hH hS hl => by
  by_cases hx : x = 0
  · subst hx; rw [rf_0] at hE ⊢; exact lv_astoreN X.1 X.2.1 d hl hn hE (fun la2 hl2 => K H locs la2 hH hS hl2)
  · rw [rf_ne hx] at hE ⊢; exact lv_astore X.1 X.2.1 d hl hn hE (fun la2 hl2 => K H locs la2 hH hS hl2)
theorem gd_iinc (X : Cx p s m args c cc nL own G) {i : Nat} {n : Int} {x v : Int32} (q : Nat) (d : decode cc pc = .ok (.iinc i n, 3)) (hq : E[q]? = some (i, .int x)) (hv : x + Int32.ofInt n = v) (hn : i < nL) {E2 : List (Nat × Value)} (hE : (i, Value.int v) :: E.filter (fun q => !(q.1 == i) && !(q.1 + 1 == i && q.2.category == 2)) = E2) (K : Gd p l e R s m args below meth c nL G Q k j S (pc + 3) E2 st) : Gd p l e R s m args below meth c nL G Q k j S pc E st := fun H locs la hH hS hl => lv_iinc X.1 X.2.1 d hl hq hv hn hE (fun la2 hl2 => K H locs la2 hH hS hl2)
theorem gd_iadd (X : Cx p s m args c cc nL own G) {x y : Int32} (d : decode cc pc = .ok (.iadd, 1))  (K : Gd p l e R s m args below meth c nL G Q k j S (pc + 1) E (.int (x + y) :: st)) : Gd p l e R s m args below meth c nL G Q k j S pc E (.int y :: .int x :: st) := fun H locs la hH hS hl => lv_iadd X.1 X.2.1 d  (K H locs la hH hS hl)
theorem gd_isub (X : Cx p s m args c cc nL own G) {x y : Int32} (d : decode cc pc = .ok (.isub, 1))  (K : Gd p l e R s m args below meth c nL G Q k j S (pc + 1) E (.int (x - y) :: st)) : Gd p l e R s m args below meth c nL G Q k j S pc E (.int y :: .int x :: st) := fun H locs la hH hS hl => lv_isub X.1 X.2.1 d  (K H locs la hH hS hl)
theorem gd_imul (X : Cx p s m args c cc nL own G) {x y : Int32} (d : decode cc pc = .ok (.imul, 1))  (K : Gd p l e R s m args below meth c nL G Q k j S (pc + 1) E (.int (x * y) :: st)) : Gd p l e R s m args below meth c nL G Q k j S pc E (.int y :: .int x :: st) := fun H locs la hH hS hl => lv_imul X.1 X.2.1 d  (K H locs la hH hS hl)
theorem gd_iand (X : Cx p s m args c cc nL own G) {x y : Int32} (d : decode cc pc = .ok (.iand, 1))  (K : Gd p l e R s m args below meth c nL G Q k j S (pc + 1) E (.int (x &&& y) :: st)) : Gd p l e R s m args below meth c nL G Q k j S pc E (.int y :: .int x :: st) := fun H locs la hH hS hl => lv_iand X.1 X.2.1 d  (K H locs la hH hS hl)
theorem gd_ior (X : Cx p s m args c cc nL own G) {x y : Int32} (d : decode cc pc = .ok (.ior, 1))  (K : Gd p l e R s m args below meth c nL G Q k j S (pc + 1) E (.int (x ||| y) :: st)) : Gd p l e R s m args below meth c nL G Q k j S pc E (.int y :: .int x :: st) := fun H locs la hH hS hl => lv_ior X.1 X.2.1 d  (K H locs la hH hS hl)
theorem gd_ixor (X : Cx p s m args c cc nL own G) {x y : Int32} (d : decode cc pc = .ok (.ixor, 1))  (K : Gd p l e R s m args below meth c nL G Q k j S (pc + 1) E (.int (x ^^^ y) :: st)) : Gd p l e R s m args below meth c nL G Q k j S pc E (.int y :: .int x :: st) := fun H locs la hH hS hl => lv_ixor X.1 X.2.1 d  (K H locs la hH hS hl)
theorem gd_ishl (X : Cx p s m args c cc nL own G) {x y : Int32} (d : decode cc pc = .ok (.ishl, 1))  (K : Gd p l e R s m args below meth c nL G Q k j S (pc + 1) E (.int (x <<< (y &&& 31)) :: st)) : Gd p l e R s m args below meth c nL G Q k j S pc E (.int y :: .int x :: st) := fun H locs la hH hS hl => lv_ishl X.1 X.2.1 d  (K H locs la hH hS hl)
theorem gd_ddiv (X : Cx p s m args c cc nL own G) {x y : UInt64} (d : decode cc pc = .ok (.ddiv, 1)) (hne : vf_n64 (FP.ddiv x y)) (K : Gd p l e R s m args below meth c nL G Q k j S (pc + 1) E (.double (FP.ddiv x y) :: st)) : Gd p l e R s m args below meth c nL G Q k j S pc E (.double y :: .double x :: st) := fun H locs la hH hS hl => lv_ddiv X.1 X.2.1 d hne (K H locs la hH hS hl)
theorem gd_fdiv (X : Cx p s m args c cc nL own G) {x y : UInt32} (d : decode cc pc = .ok (.fdiv, 1)) (hne : vf_n32 (FP.fdiv x y)) (K : Gd p l e R s m args below meth c nL G Q k j S (pc + 1) E (.float (FP.fdiv x y) :: st)) : Gd p l e R s m args below meth c nL G Q k j S pc E (.float y :: .float x :: st) := fun H locs la hH hS hl => lv_fdiv X.1 X.2.1 d hne (K H locs la hH hS hl)
theorem gd_lcmp (X : Cx p s m args c cc nL own G) {x y : Int64} (d : decode cc pc = .ok (.lcmp, 1))  (K : Gd p l e R s m args below meth c nL G Q k j S (pc + 1) E (.int (lg_cmp x y) :: st)) : Gd p l e R s m args below meth c nL G Q k j S pc E (.long y :: .long x :: st) := fun H locs la hH hS hl => W.lcmp X.1 X.2.1 d  (K H locs la hH hS hl)
theorem gd_dcmp (X : Cx p s m args c cc nL own G) {x y : UInt64} {o : CmpOp} (d : decode cc pc = .ok (.dcmp o, 1)) (K : Gd p l e R s m args below meth c nL G Q k j S (pc + 1) E (.int (Op.cmpValue (FP.dcmp x y) o) :: st)) : Gd p l e R s m args below meth c nL G Q k j S pc E (.double y :: .double x :: st) := fun H locs la hH hS hl => lv_dcmp X.1 X.2.1 d (K H locs la hH hS hl)
theorem gd_fcmp (X : Cx p s m args c cc nL own G) {x y : UInt32} {o : CmpOp} (d : decode cc pc = .ok (.fcmp o, 1)) (K : Gd p l e R s m args below meth c nL G Q k j S (pc + 1) E (.int (Op.cmpValue (FP.fcmp x y) o) :: st)) : Gd p l e R s m args below meth c nL G Q k j S pc E (.float y :: .float x :: st) := fun H locs la hH hS hl => lv_fcmp X.1 X.2.1 d (K H locs la hH hS hl)
theorem gd_ineg (X : Cx p s m args c cc nL own G) {x : Int32} (d : decode cc pc = .ok (.ineg, 1))  (K : Gd p l e R s m args below meth c nL G Q k j S (pc + 1) E (.int (-x) :: st)) : Gd p l e R s m args below meth c nL G Q k j S pc E (.int x :: st) := fun H locs la hH hS hl => lv_ineg X.1 X.2.1 d  (K H locs la hH hS hl)
theorem gd_i2l (X : Cx p s m args c cc nL own G) {x : Int32} (d : decode cc pc = .ok (.i2l, 1))  (K : Gd p l e R s m args below meth c nL G Q k j S (pc + 1) E (.long (x.toInt64) :: st)) : Gd p l e R s m args below meth c nL G Q k j S pc E (.int x :: st) := fun H locs la hH hS hl => lv_i2l X.1 X.2.1 d rfl (K H locs la hH hS hl)
theorem gd_i2c (X : Cx p s m args c cc nL own G) {x : Int32} (d : decode cc pc = .ok (.i2c, 1))  (K : Gd p l e R s m args below meth c nL G Q k j S (pc + 1) E (.int ((x.toUInt32 % 65536).toInt32) :: st)) : Gd p l e R s m args below meth c nL G Q k j S pc E (.int x :: st) := fun H locs la hH hS hl => lv_i2c X.1 X.2.1 d rfl (K H locs la hH hS hl)
theorem gd_i2f (X : Cx p s m args c cc nL own G) {x : Int32} (d : decode cc pc = .ok (.i2f, 1))  (K : Gd p l e R s m args below meth c nL G Q k j S (pc + 1) E (.float (FP.i2f x) :: st)) : Gd p l e R s m args below meth c nL G Q k j S pc E (.int x :: st) := fun H locs la hH hS hl => lv_i2f X.1 X.2.1 d  (K H locs la hH hS hl)
theorem gd_i2d (X : Cx p s m args c cc nL own G) {x : Int32} (d : decode cc pc = .ok (.i2d, 1))  (K : Gd p l e R s m args below meth c nL G Q k j S (pc + 1) E (.double (FP.i2d x) :: st)) : Gd p l e R s m args below meth c nL G Q k j S pc E (.int x :: st) := fun H locs la hH hS hl => lv_i2d X.1 X.2.1 d  (K H locs la hH hS hl)
theorem gd_f2d (X : Cx p s m args c cc nL own G) {x : UInt32} (d : decode cc pc = .ok (.f2d, 1)) (hne : vf_n64 (FP.f2d x)) (K : Gd p l e R s m args below meth c nL G Q k j S (pc + 1) E (.double (FP.f2d x) :: st)) : Gd p l e R s m args below meth c nL G Q k j S pc E (.float x :: st) := fun H locs la hH hS hl => lv_f2d X.1 X.2.1 d hne (K H locs la hH hS hl)
theorem gd_dupI (X : Cx p s m args c cc nL own G) {x : Int32} (d : decode cc pc = .ok (.dup, 1)) (K : Gd p l e R s m args below meth c nL G Q k j S (pc + 1) E (.int x :: .int x :: st)) : Gd p l e R s m args below meth c nL G Q k j S pc E (.int x :: st) := fun H locs la hH hS hl => lv_dup X.1 X.2.1 d rfl (K H locs la hH hS hl)
theorem gd_dupR (X : Cx p s m args c cc nL own G) {x : Nat} (d : decode cc pc = .ok (.dup, 1)) (K : Gd p l e R s m args below meth c nL G Q k j S (pc + 1) E (rf x :: rf x :: st)) : Gd p l e R s m args below meth c nL G Q k j S pc E (rf x :: st) := fun H locs la hH hS hl => lv_dup X.1 X.2.1 d (rf_cat x) (K H locs la hH hS hl)
theorem gd_popI (X : Cx p s m args c cc nL own G) {x : Int32} (d : decode cc pc = .ok (.pop, 1)) (K : Gd p l e R s m args below meth c nL G Q k j S (pc + 1) E st) : Gd p l e R s m args below meth c nL G Q k j S pc E (.int x :: st) := fun H locs la hH hS hl => lv_pop X.1 X.2.1 d rfl (K H locs la hH hS hl)
theorem gd_dup2 (X : Cx p s m args c cc nL own G) {x : Int32} {a : Nat} (d : decode cc pc = .ok (.dup2, 1)) (K : Gd p l e R s m args below meth c nL G Q k j S (pc + 1) E (.int x :: rf a :: .int x :: rf a :: st)) : Gd p l e R s m args below meth c nL G Q k j S pc E (.int x :: rf a :: st) := fun H locs la hH hS hl => lv_dup2_11 X.1 X.2.1 d rfl (rf_cat a) (K H locs la hH hS hl)
theorem gd_if_eq (X : Cx p s m args c cc nL own G) {x : Int32} {off : Int} (tgt : Nat) (d : decode cc pc = .ok (.ifCond .eq off, 3)) (ht : (pc : Int) + off = (tgt : Int)) (K1 : x = 0 → Gd p l e R s m args below meth c nL G Q k j S tgt E st) (K2 : ¬ x = 0 → Gd p l e R s m args below meth c nL G Q k j S (pc + 3) E st) : Gd p l e R s m args below meth c nL G Q k j S pc E (.int x :: st) := fun H locs la hH hS hl => lv_if_eq X.1 X.2.1 d ht (fun h => K1 h H locs la hH hS hl) (fun h => K2 h H locs la hH hS hl)
theorem gd_icmp_eq (X : Cx p s m args c cc nL own G) {x y : Int32} {off : Int} (tgt : Nat) (d : decode cc pc = .ok (.if_icmp .eq off, 3)) (ht : (pc : Int) + off = (tgt : Int)) (K1 : x = y → Gd p l e R s m args below meth c nL G Q k j S tgt E st) (K2 : ¬ x = y → Gd p l e R s m args below meth c nL G Q k j S (pc + 3) E st) : Gd p l e R s m args below meth c nL G Q k j S pc E (.int y :: .int x :: st) := fun H locs la hH hS hl => lv_icmp_eq X.1 X.2.1 d ht (fun h => K1 h H locs la hH hS hl) (fun h => K2 h H locs la hH hS hl)
theorem gd_if_ne (X : Cx p s m args c cc nL own G) {x : Int32} {off : Int} (tgt : Nat) (d : decode cc pc = .ok (.ifCond .ne off, 3)) (ht : (pc : Int) + off = (tgt : Int)) (K1 : ¬ x = 0 → Gd p l e R s m args below meth c nL G Q k j S tgt E st) (K2 : x = 0 → Gd p l e R s m args below meth c nL G Q k j S (pc + 3) E st) : Gd p l e R s m args below meth c nL G Q k j S pc E (.int x :: st) := fun H locs la hH hS hl => lv_if_ne X.1 X.2.1 d ht (fun h => K1 h H locs la hH hS hl) (fun h => K2 h H locs la hH hS hl)
theorem gd_icmp_ne (X : Cx p s m args c cc nL own G) {x y : Int32} {off : Int} (tgt : Nat) (d : decode cc pc = .ok (.if_icmp .ne off, 3)) (ht : (pc : Int) + off = (tgt : Int)) (K1 : ¬ x = y → Gd p l e R s m args below meth c nL G Q k j S tgt E st) (K2 : x = y → Gd p l e R s m args below meth c nL G Q k j S (pc + 3) E st) : Gd p l e R s m args below meth c nL G Q k j S pc E (.int y :: .int x :: st) := fun H locs la hH hS hl => lv_icmp_ne X.1 X.2.1 d ht (fun h => K1 h H locs la hH hS hl) (fun h => K2 h H locs la hH hS hl)
theorem gd_if_lt (X : Cx p s m args c cc nL own G) {x : Int32} {off : Int} (tgt : Nat) (d : decode cc pc = .ok (.ifCond .lt off, 3)) (ht : (pc : Int) + off = (tgt : Int)) (K1 : x < 0 → Gd p l e R s m args below meth c nL G Q k j S tgt E st) (K2 : ¬ x < 0 → Gd p l e R s m args below meth c nL G Q k j S (pc + 3) E st) : Gd p l e R s m args below meth c nL G Q k j S pc E (.int x :: st) := fun H locs la hH hS hl => lv_if_lt X.1 X.2.1 d ht (fun h => K1 h H locs la hH hS hl) (fun h => K2 h H locs la hH hS hl)
theorem gd_icmp_lt (X : Cx p s m args c cc nL own G) {x y : Int32} {off : Int} (tgt : Nat) (d : decode cc pc = .ok (.if_icmp .lt off, 3)) (ht : (pc : Int) + off = (tgt : Int)) (K1 : x < y → Gd p l e R s m args below meth c nL G Q k j S tgt E st) (K2 : ¬ x < y → Gd p l e R s m args below meth c nL G Q k j S (pc + 3) E st) : Gd p l e R s m args below meth c nL G Q k j S pc E (.int y :: .int x :: st) := fun H locs la hH hS hl => lv_icmp_lt X.1 X.2.1 d ht (fun h => K1 h H locs la hH hS hl) (fun h => K2 h H locs la hH hS hl)
theorem gd_if_ge (X : Cx p s m args c cc nL own G) {x : Int32} {off : Int} (tgt : Nat) (d : decode cc pc = .ok (.ifCond .ge off, 3)) (ht : (pc : Int) + off = (tgt : Int)) (K1 : 0 ≤ x → Gd p l e R s m args below meth c nL G Q k j S tgt E st) (K2 : ¬ 0 ≤ x → Gd p l e R s m args below meth c nL G Q k j S (pc + 3) E st) : Gd p l e R s m args below meth c nL G Q k j S pc E (.int x :: st) := fun H locs la hH hS hl => lv_if_ge X.1 X.2.1 d ht (fun h => K1 h H locs la hH hS hl) (fun h => K2 h H locs la hH hS hl)
theorem gd_icmp_ge (X : Cx p s m args c cc nL own G) {x y : Int32} {off : Int} (tgt : Nat) (d : decode cc pc = .ok (.if_icmp .ge off, 3)) (ht : (pc : Int) + off = (tgt : Int)) (K1 : y ≤ x → Gd p l e R s m args below meth c nL G Q k j S tgt E st) (K2 : ¬ y ≤ x → Gd p l e R s m args below meth c nL G Q k j S (pc + 3) E st) : Gd p l e R s m args below meth c nL G Q k j S pc E (.int y :: .int x :: st) := fun H locs la hH hS hl => lv_icmp_ge X.1 X.2.1 d ht (fun h => K1 h H locs la hH hS hl) (fun h => K2 h H locs la hH hS hl)
theorem gd_if_gt (X : Cx p s m args c cc nL own G) {x : Int32} {off : Int} (tgt : Nat) (d : decode cc pc = .ok (.ifCond .gt off, 3)) (ht : (pc : Int) + off = (tgt : Int)) (K1 : 0 < x → Gd p l e R s m args below meth c nL G Q k j S tgt E st) (K2 : ¬ 0 < x → Gd p l e R s m args below meth c nL G Q k j S (pc + 3) E st) : Gd p l e R s m args below meth c nL G Q k j S pc E (.int x :: st) := fun H locs la hH hS hl => lv_if_gt X.1 X.2.1 d ht (fun h => K1 h H locs la hH hS hl) (fun h => K2 h H locs la hH hS hl)
theorem gd_icmp_gt (X : Cx p s m args c cc nL own G) {x y : Int32} {off : Int} (tgt : Nat) (d : decode cc pc = .ok (.if_icmp .gt off, 3)) (ht : (pc : Int) + off = (tgt : Int)) (K1 : y < x → Gd p l e R s m args below meth c nL G Q k j S tgt E st) (K2 : ¬ y < x → Gd p l e R s m args below meth c nL G Q k j S (pc + 3) E st) : Gd p l e R s m args below meth c nL G Q k j S pc E (.int y :: .int x :: st) := fun H locs la hH hS hl => lv_icmp_gt X.1 X.2.1 d ht (fun h => K1 h H locs la hH hS hl) (fun h => K2 h H locs la hH hS hl)
theorem gd_if_le (X : Cx p s m args c cc nL own G) {x : Int32} {off : Int} (tgt : Nat) (d : decode cc pc = .ok (.ifCond .le off, 3)) (ht : (pc : Int) + off = (tgt : Int)) (K1 : x ≤ 0 → Gd p l e R s m args below meth c nL G Q k j S tgt E st) (K2 : ¬ x ≤ 0 → Gd p l e R s m args below meth c nL G Q k j S (pc + 3) E st) : Gd p l e R s m args below meth c nL G Q k j S pc E (.int x :: st) := fun H locs la hH hS hl => lv_if_le X.1 X.2.1 d ht (fun h => K1 h H locs la hH hS hl) (fun h => K2 h H locs la hH hS hl)
theorem gd_icmp_le (X : Cx p s m args c cc nL own G) {x y : Int32} {off : Int} (tgt : Nat) (d : decode cc pc = .ok (.if_icmp .le off, 3)) (ht : (pc : Int) + off = (tgt : Int)) (K1 : x ≤ y → Gd p l e R s m args below meth c nL G Q k j S tgt E st) (K2 : ¬ x ≤ y → Gd p l e R s m args below meth c nL G Q k j S (pc + 3) E st) : Gd p l e R s m args below meth c nL G Q k j S pc E (.int y :: .int x :: st) := fun H locs la hH hS hl => lv_icmp_le X.1 X.2.1 d ht (fun h => K1 h H locs la hH hS hl) (fun h => K2 h H locs la hH hS hl)
theorem gd_ifnull (X : Cx p s m args c cc nL own G) {x : Nat} {off : Int} (tgt : Nat) (d : decode cc pc = .ok (.ifnull off, 3)) (ht : (pc : Int) + off = (tgt : Int)) (K1 : x = 0 → Gd p l e R s m args below meth c nL G Q k j S tgt E st) (K2 : ¬ x = 0 → Gd p l e R s m args below meth c nL G Q k j S (pc + 3) E st) : Gd p l e R s m args below meth c nL G Q k j S pc E (rf x :: st) := fun H locs la hH hS hl => by
  by_cases hx : x = 0
  · have K := K1 hx H locs la hH hS hl
    subst hx; rw [rf_0]; exact lv_ifnullN X.1 X.2.1 d ht K
  · have K := K2 hx H locs la hH hS hl
    rw [rf_ne hx]; exact lv_ifnull X.1 X.2.1 d K
theorem gd_ifnonnull (X : Cx p s m args c cc nL own G) {x : Nat} {off : Int} (tgt : Nat) (d : decode cc pc = .ok (.ifnonnull off, 3)) (ht : (pc : Int) + off = (tgt : Int)) (K1 : ¬ x = 0 → Gd p l e R s m args below meth c nL G Q k j S tgt E st) (K2 : x = 0 → Gd p l e R s m args below meth c nL G Q k j S (pc + 3) E st) : Gd p l e R s m args below meth c nL G Q k j S pc E (rf x :: st) := fun H locs la hH hS hl => by
  by_cases hx : x = 0
  · have K := K2 hx H locs la hH hS hl
    subst hx; rw [rf_0]; exact lv_ifnonnullN X.1 X.2.1 d K
  · have K := K1 hx H locs la hH hS hl
    rw [rf_ne hx]; exact lv_ifnonnull X.1 X.2.1 d ht K
theorem op_inj {x y : Nat} : op x = op y ↔ x = y := by
  unfold op
  by_cases hx : x = 0 <;> by_cases hy : y = 0 <;> simp [hx, hy]
  · exact fun h => hy h.symm
theorem gd_acmp_eq (X : Cx p s m args c cc nL own G) {x y : Nat} {off : Int} (tgt : Nat) (d : decode cc pc = .ok (.if_acmp .eq off, 3)) (ht : (pc : Int) + off = (tgt : Int)) (K1 : x = y → Gd p l e R s m args below meth c nL G Q k j S tgt E st) (K2 : ¬ x = y → Gd p l e R s m args below meth c nL G Q k j S (pc + 3) E st) : Gd p l e R s m args below meth c nL G Q k j S pc E (rf y :: rf x :: st) := fun H locs la hH hS hl => lv_acmp_eq X.1 X.2.1 d ht (fun h => K1 (op_inj.mp h) H locs la hH hS hl) (fun h => K2 (fun h2 => h (op_inj.mpr h2)) H locs la hH hS hl)
theorem gd_goto (X : Cx p s m args c cc nL own G) {off : Int} (tgt : Nat) (d : decode cc pc = .ok (.goto off, 3)) (ht : (pc : Int) + off = (tgt : Int)) (K : Gd p l e R s m args below meth c nL G Q k j S tgt E st) : Gd p l e R s m args below meth c nL G Q k j S pc E st := fun H locs la hH hS hl => lv_goto X.1 X.2.1 d ht (K H locs la hH hS hl)
theorem Cx.ne (X : Cx p s m args c cc nL own G) {H : Heap} {a : Nat} (hH : HR G S H) (h : kT S a ≠ 0) : a ≠ 0 := fun h0 => by
  have := HR_ab hH h
  have := X.2.2.2.2.2.2.1
  omega
theorem Cx.A (X : Cx p s m args c cc nL own G) : ∀ q : Nat, s.heap.size ≤ q → Ab G q := fun _ h => Nat.le_trans X.2.2.2.2.2.2.2 h
theorem gd_getI (X : Cx p s m args c cc nL own G) {ci kf index N a : Nat} {C : String} {T : u_T} {ty : Nat → FieldType} (hc : CI ci C T N ty) (hk : kf < N) (hf : (fl (ci + 1))[kf]? = some false) (hw : Cond.fieldLink own index (T kf).1 (T kf).2.1 (T kf).2.2.1 ∈ lw_all) (d : decode cc pc = .ok (.getfield index, 3)) (ha : kT S a = ci + 1) (K : Gd p l e R s m args below meth c nL G Q k j S (pc + 3) E (.int (sI S a kf) :: st)) : Gd p l e R s m args below meth c nL G Q k j S pc E (rf a :: st) := fun H locs la hH hS hl => by
  obtain ⟨L, q, hL, hP, hD, hm, hq⟩ := HR_at hH (a := a) (by rw [ha]; omega)
  rw [cell_o ha hc.1] at hq
  rw [rf_ne (a := a) (Cx.ne X hH (by rw [ha]; omega))]
  have hv := fv_getI (S := S) (a := a) (k0 := 0) hf
  rw [Nat.zero_add] at hv
  exact va_get X.1 X.2.1 X.2.2.2.2.1 hc.2.2.1 X.2.2.2.1 X.2.2.2.2.2.1.1 hP q hq hc.2.1 kf hk (X.2.2.2.2.1 _ hw) (fun _ h => h) hv d (K H locs la hH hS hl)
theorem gd_getR (X : Cx p s m args c cc nL own G) {ci kf index N a : Nat} {C : String} {T : u_T} {ty : Nat → FieldType} (hc : CI ci C T N ty) (hk : kf < N) (hf : (fl (ci + 1))[kf]? = some true) (hw : Cond.fieldLink own index (T kf).1 (T kf).2.1 (T kf).2.2.1 ∈ lw_all) (d : decode cc pc = .ok (.getfield index, 3)) (ha : kT S a = ci + 1) (K : Gd p l e R s m args below meth c nL G Q k j S (pc + 3) E (rf (sR S a kf) :: st)) : Gd p l e R s m args below meth c nL G Q k j S pc E (rf a :: st) := fun H locs la hH hS hl => by
  obtain ⟨L, q, hL, hP, hD, hm, hq⟩ := HR_at hH (a := a) (by rw [ha]; omega)
  rw [cell_o ha hc.1] at hq
  rw [rf_ne (a := a) (Cx.ne X hH (by rw [ha]; omega))]
  have hv := fv_getR (S := S) (a := a) (k0 := 0) hf
  rw [Nat.zero_add] at hv
  exact va_get X.1 X.2.1 X.2.2.2.2.1 hc.2.2.1 X.2.2.2.1 X.2.2.2.2.2.1.1 hP q hq hc.2.1 kf hk (X.2.2.2.2.1 _ hw) (fun _ h => h) hv d (K H locs la hH hS hl)
theorem gd_putI (X : Cx p s m args c cc nL own G) {ci kf index N a : Nat} {v : Int32} {C : String} {T : u_T} {ty : Nat → FieldType} (hc : CI ci C T N ty) (hk : kf < N) (hf : (fl (ci + 1))[kf]? = some false) (hfin : (T kf).2.2.2 = false) (hw : Cond.fieldLink own index (T kf).1 (T kf).2.1 (T kf).2.2.1 ∈ lw_all) (hn : narrow (ty kf) (.int v) = .int v) (hft : fits (ty kf) (.int v) = true) (d : decode cc pc = .ok (.putfield index, 3)) (ha : kT S a = ci + 1) (K : Gd p l e R s m args below meth c nL G Q k j (pI S a kf v) (pc + 3) E st) : Gd p l e R s m args below meth c nL G Q k j S pc E (.int v :: rf a :: st) := fun H locs la hH hS hl => by
  obtain ⟨L, q, hL, hP, hD, hm, hq⟩ := HR_at hH (a := a) (by rw [ha]; omega)
  have hq0 := hq
  rw [cell_o ha hc.1] at hq
  rw [rf_ne (a := a) (Cx.ne X hH (by rw [ha]; omega))]
  refine va_put X.1 X.2.1 X.2.2.2.2.1 hc.2.2.1 ty hc.2.2.2.1 hc.2.2.2.2.1 X.2.2.2.1 X.2.2.2.2.2.1.1 hP hD hS q hq hc.2.1 kf hk (X.2.2.2.2.1 _ hw) (fun _ h => h) hfin (hc.2.2.2.1 kf hk) hn hft (by rw [fv_len, hc.2.2.2.2.2]; exact hk) d (fun H1 locs1 hP1 hD1 hS1 => ?_)
  refine K H1 locs1 la (HR_put hL hD hm hq0 hP1 hD1 (fun _ => rfl) ?_ (fun b hb => cell_pI hb)) hS1 hl
  rw [cell_o (S := pI S a kf v) ha hc.1, fv_setI hf, Nat.zero_add]
theorem gd_putR (X : Cx p s m args c cc nL own G) {ci kf index N a : Nat} {v : Nat} {C : String} {T : u_T} {ty : Nat → FieldType} (hc : CI ci C T N ty) (hk : kf < N) (hf : (fl (ci + 1))[kf]? = some true) (hfin : (T kf).2.2.2 = false) (hw : Cond.fieldLink own index (T kf).1 (T kf).2.1 (T kf).2.2.1 ∈ lw_all) (hn : narrow (ty kf) (rf v) = rf v) (hft : fits (ty kf) (rf v) = true) (d : decode cc pc = .ok (.putfield index, 3)) (ha : kT S a = ci + 1) (K : Gd p l e R s m args below meth c nL G Q k j (pR S a kf v) (pc + 3) E st) : Gd p l e R s m args below meth c nL G Q k j S pc E (rf v :: rf a :: st) := fun H locs la hH hS hl => by
  obtain ⟨L, q, hL, hP, hD, hm, hq⟩ := HR_at hH (a := a) (by rw [ha]; omega)
  have hq0 := hq
  rw [cell_o ha hc.1] at hq
  rw [rf_ne (a := a) (Cx.ne X hH (by rw [ha]; omega))]
  refine va_put X.1 X.2.1 X.2.2.2.2.1 hc.2.2.1 ty hc.2.2.2.1 hc.2.2.2.2.1 X.2.2.2.1 X.2.2.2.2.2.1.1 hP hD hS q hq hc.2.1 kf hk (X.2.2.2.2.1 _ hw) (fun _ h => h) hfin (hc.2.2.2.1 kf hk) hn hft (by rw [fv_len, hc.2.2.2.2.2]; exact hk) d (fun H1 locs1 hP1 hD1 hS1 => ?_)
  refine K H1 locs1 la (HR_put hL hD hm hq0 hP1 hD1 (fun _ => rfl) ?_ (fun b hb => cell_pR hb)) hS1 hl
  rw [cell_o (S := pR S a kf v) ha hc.1, fv_setR hf, Nat.zero_add]
theorem gd_putFI (X : Cx p s m args c cc nL own G) {ci kf index N a : Nat} {v : Int32} {C : String} {T : u_T} {ty : Nat → FieldType} (hc : CI ci C T N ty) (hk : kf < N) (hf : (fl (ci + 1))[kf]? = some false) (hfin : (T kf).2.2.2 = true) (hin : meth.name = "<init>") (hdecl : (T kf).1 = own) (hw : Cond.fieldLink own index (T kf).1 (T kf).2.1 (T kf).2.2.1 ∈ lw_all) (hn : narrow (ty kf) (.int v) = .int v) (hft : fits (ty kf) (.int v) = true) (d : decode cc pc = .ok (.putfield index, 3)) (ha : kT S a = ci + 1) (K : Gd p l e R s m args below meth c nL G Q k j (pI S a kf v) (pc + 3) E st) : Gd p l e R s m args below meth c nL G Q k j S pc E (.int v :: rf a :: st) := fun H locs la hH hS hl => by
  obtain ⟨L, q, hL, hP, hD, hm, hq⟩ := HR_at hH (a := a) (by rw [ha]; omega)
  have hq0 := hq
  rw [cell_o ha hc.1] at hq
  rw [rf_ne (a := a) (Cx.ne X hH (by rw [ha]; omega))]
  refine va_putF X.1 X.2.1 X.2.2.2.2.1 hc.2.2.1 ty hc.2.2.2.1 hc.2.2.2.2.1 X.2.2.2.1 X.2.2.2.2.2.1.1 hP hD hS q hq hc.2.1 kf hk (X.2.2.2.2.1 _ hw) (fun _ h => h) hfin hin hdecl (hc.2.2.2.1 kf hk) hn hft (by rw [fv_len, hc.2.2.2.2.2]; exact hk) d (fun H1 locs1 hP1 hD1 hS1 => ?_)
  refine K H1 locs1 la (HR_put hL hD hm hq0 hP1 hD1 (fun _ => rfl) ?_ (fun b hb => cell_pI hb)) hS1 hl
  rw [cell_o (S := pI S a kf v) ha hc.1, fv_setI hf, Nat.zero_add]
theorem gd_putFR (X : Cx p s m args c cc nL own G) {ci kf index N a : Nat} {v : Nat} {C : String} {T : u_T} {ty : Nat → FieldType} (hc : CI ci C T N ty) (hk : kf < N) (hf : (fl (ci + 1))[kf]? = some true) (hfin : (T kf).2.2.2 = true) (hin : meth.name = "<init>") (hdecl : (T kf).1 = own) (hw : Cond.fieldLink own index (T kf).1 (T kf).2.1 (T kf).2.2.1 ∈ lw_all) (hn : narrow (ty kf) (rf v) = rf v) (hft : fits (ty kf) (rf v) = true) (d : decode cc pc = .ok (.putfield index, 3)) (ha : kT S a = ci + 1) (K : Gd p l e R s m args below meth c nL G Q k j (pR S a kf v) (pc + 3) E st) : Gd p l e R s m args below meth c nL G Q k j S pc E (rf v :: rf a :: st) := fun H locs la hH hS hl => by
  obtain ⟨L, q, hL, hP, hD, hm, hq⟩ := HR_at hH (a := a) (by rw [ha]; omega)
  have hq0 := hq
  rw [cell_o ha hc.1] at hq
  rw [rf_ne (a := a) (Cx.ne X hH (by rw [ha]; omega))]
  refine va_putF X.1 X.2.1 X.2.2.2.2.1 hc.2.2.1 ty hc.2.2.2.1 hc.2.2.2.2.1 X.2.2.2.1 X.2.2.2.2.2.1.1 hP hD hS q hq hc.2.1 kf hk (X.2.2.2.2.1 _ hw) (fun _ h => h) hfin hin hdecl (hc.2.2.2.1 kf hk) hn hft (by rw [fv_len, hc.2.2.2.2.2]; exact hk) d (fun H1 locs1 hP1 hD1 hS1 => ?_)
  refine K H1 locs1 la (HR_put hL hD hm hq0 hP1 hD1 (fun _ => rfl) ?_ (fun b hb => cell_pR hb)) hS1 hl
  rw [cell_o (S := pR S a kf v) ha hc.1, fv_setR hf, Nat.zero_add]
theorem gd_iald (X : Cx p s m args c cc nL own G) {a : Nat} {i : Int32} (d : decode cc pc = .ok (.iaload, 1)) (ha : kT S a = 9) (hi : vp_in i (kL S a)) (K : Gd p l e R s m args below meth c nL G Q k j S (pc + 1) E (.int (sI S a (ix i)) :: st)) : Gd p l e R s m args below meth c nL G Q k j S pc E (.int i :: rf a :: st) := fun H locs la hH hS hl => by
  obtain ⟨L, q, hL, hP, hD, hm, hq⟩ := HR_at hH (a := a) (by rw [ha]; omega)
  rw [cell_i ha (by omega) (by omega)] at hq
  rw [rf_ne (a := a) (Cx.ne X hH (by rw [ha]; omega))]
  exact va_iald X.1 X.2.1 X.2.2.2.2.2.1.1 hP q 1 hq rfl hi d (K H locs la hH hS hl)
theorem gd_cald (X : Cx p s m args c cc nL own G) {a : Nat} {i : Int32} (d : decode cc pc = .ok (.caload, 1)) (ha : kT S a = 8) (hi : vp_in i (kL S a)) (K : Gd p l e R s m args below meth c nL G Q k j S (pc + 1) E (.int (sI S a (ix i)) :: st)) : Gd p l e R s m args below meth c nL G Q k j S pc E (.int i :: rf a :: st) := fun H locs la hH hS hl => by
  obtain ⟨L, q, hL, hP, hD, hm, hq⟩ := HR_at hH (a := a) (by rw [ha]; omega)
  rw [cell_i ha (by omega) (by omega)] at hq
  rw [rf_ne (a := a) (Cx.ne X hH (by rw [ha]; omega))]
  exact va_cald X.1 X.2.1 X.2.2.2.2.2.1.1 hP q 0 hq rfl hi d (K H locs la hH hS hl)
theorem gd_zald (X : Cx p s m args c cc nL own G) {a : Nat} {i : Int32} (d : decode cc pc = .ok (.baload, 1)) (ha : kT S a = 10) (hi : vp_in i (kL S a)) (K : Gd p l e R s m args below meth c nL G Q k j S (pc + 1) E (.int (sI S a (ix i)) :: st)) : Gd p l e R s m args below meth c nL G Q k j S pc E (.int i :: rf a :: st) := fun H locs la hH hS hl => by
  obtain ⟨L, q, hL, hP, hD, hm, hq⟩ := HR_at hH (a := a) (by rw [ha]; omega)
  rw [cell_i ha (by omega) (by omega)] at hq
  rw [rf_ne (a := a) (Cx.ne X hH (by rw [ha]; omega))]
  exact va_zald X.1 X.2.1 X.2.2.2.2.2.1.1 hP q 2 hq rfl hi d (K H locs la hH hS hl)
theorem gd_iast (X : Cx p s m args c cc nL own G) {a : Nat} {i v : Int32} (d : decode cc pc = .ok (.iastore, 1)) (ha : kT S a = 9) (hi : vp_in i (kL S a)) (K : Gd p l e R s m args below meth c nL G Q k j (pI S a (ix i) v) (pc + 1) E st) : Gd p l e R s m args below meth c nL G Q k j S pc E (.int v :: .int i :: rf a :: st) := fun H locs la hH hS hl => by
  obtain ⟨L, q, hL, hP, hD, hm, hq⟩ := HR_at hH (a := a) (by rw [ha]; omega)
  have hq0 := hq
  rw [cell_i ha (by omega) (by omega)] at hq
  rw [rf_ne (a := a) (Cx.ne X hH (by rw [ha]; omega))]
  refine va_iast X.1 X.2.1 X.2.2.2.2.2.1.1 hP hD hS q 1 hq rfl hi d (fun H1 locs1 hP1 hD1 hS1 => ?_)
  refine K H1 locs1 la (HR_put hL hD hm hq0 hP1 hD1 (fun _ => rfl) ?_ (fun b hb => cell_pI hb)) hS1 hl
  rw [cell_i (S := pI S a (ix i) v) ha (by omega) (by omega)]
  congr 2
  congr 1
  congr 1
  funext j
  simp [sI_pI, upd, ix]
theorem gd_cast (X : Cx p s m args c cc nL own G) {a : Nat} {i v : Int32} (d : decode cc pc = .ok (.castore, 1)) (ha : kT S a = 8) (hi : vp_in i (kL S a)) (K : Gd p l e R s m args below meth c nL G Q k j (pI S a (ix i) (vp_nar .char v)) (pc + 1) E st) : Gd p l e R s m args below meth c nL G Q k j S pc E (.int v :: .int i :: rf a :: st) := fun H locs la hH hS hl => by
  obtain ⟨L, q, hL, hP, hD, hm, hq⟩ := HR_at hH (a := a) (by rw [ha]; omega)
  have hq0 := hq
  rw [cell_i ha (by omega) (by omega)] at hq
  rw [rf_ne (a := a) (Cx.ne X hH (by rw [ha]; omega))]
  refine va_cast X.1 X.2.1 X.2.2.2.2.2.1.1 hP hD hS q 0 hq rfl hi d (fun H1 locs1 hP1 hD1 hS1 => ?_)
  refine K H1 locs1 la (HR_put hL hD hm hq0 hP1 hD1 (fun _ => rfl) ?_ (fun b hb => cell_pI hb)) hS1 hl
  rw [cell_i (S := pI S a (ix i) (vp_nar .char v)) ha (by omega) (by omega)]
  congr 2
  congr 1
  congr 1
  funext j
  simp [sI_pI, upd, ix]
theorem gd_zast (X : Cx p s m args c cc nL own G) {a : Nat} {i v : Int32} (d : decode cc pc = .ok (.bastore, 1)) (ha : kT S a = 10) (hi : vp_in i (kL S a)) (K : Gd p l e R s m args below meth c nL G Q k j (pI S a (ix i) (vp_nar .boolean v)) (pc + 1) E st) : Gd p l e R s m args below meth c nL G Q k j S pc E (.int v :: .int i :: rf a :: st) := fun H locs la hH hS hl => by
  obtain ⟨L, q, hL, hP, hD, hm, hq⟩ := HR_at hH (a := a) (by rw [ha]; omega)
  have hq0 := hq
  rw [cell_i ha (by omega) (by omega)] at hq
  rw [rf_ne (a := a) (Cx.ne X hH (by rw [ha]; omega))]
  refine va_zast X.1 X.2.1 X.2.2.2.2.2.1.1 hP hD hS q 2 hq rfl hi d (fun H1 locs1 hP1 hD1 hS1 => ?_)
  refine K H1 locs1 la (HR_put hL hD hm hq0 hP1 hD1 (fun _ => rfl) ?_ (fun b hb => cell_pI hb)) hS1 hl
  rw [cell_i (S := pI S a (ix i) (vp_nar .boolean v)) ha (by omega) (by omega)]
  congr 2
  congr 1
  congr 1
  funext j
  simp [sI_pI, upd, ix]
theorem gd_lald (X : Cx p s m args c cc nL own G) {a : Nat} {i : Int32} (d : decode cc pc = .ok (.laload, 1)) (ha : kT S a = 15) (hi : vp_in i (kL S a)) (K : Gd p l e R s m args below meth c nL G Q k j S (pc + 1) E (.long (sL S a (ix i)) :: st)) : Gd p l e R s m args below meth c nL G Q k j S pc E (.int i :: rf a :: st) := fun H locs la hH hS hl => by
  obtain ⟨L, q, hL, hP, hD, hm, hq⟩ := HR_at hH (a := a) (by rw [ha]; omega)
  rw [cell_l ha] at hq
  rw [rf_ne (a := a) (Cx.ne X hH (by rw [ha]; omega))]
  exact va_lald X.1 X.2.1 X.2.2.2.2.2.1.1 hP q 7 hq rfl hi d (K H locs la hH hS hl)
theorem gd_last (X : Cx p s m args c cc nL own G) {a : Nat} {i : Int32} {v : Int64} (d : decode cc pc = .ok (.lastore, 1)) (ha : kT S a = 15) (hi : vp_in i (kL S a)) (K : Gd p l e R s m args below meth c nL G Q k j (pL S a (ix i) v) (pc + 1) E st) : Gd p l e R s m args below meth c nL G Q k j S pc E (.long v :: .int i :: rf a :: st) := fun H locs la hH hS hl => by
  obtain ⟨L, q, hL, hP, hD, hm, hq⟩ := HR_at hH (a := a) (by rw [ha]; omega)
  have hq0 := hq
  rw [cell_l ha] at hq
  rw [rf_ne (a := a) (Cx.ne X hH (by rw [ha]; omega))]
  refine va_last X.1 X.2.1 X.2.2.2.2.2.1.1 hP hD hS q 7 hq rfl hi d (fun H1 locs1 hP1 hD1 hS1 => ?_)
  refine K H1 locs1 la (HR_put hL hD hm hq0 hP1 hD1 (fun _ => rfl) ?_ (fun b hb => cell_pL hb)) hS1 hl
  rw [cell_l (S := pL S a (ix i) v) ha]
  congr 2
  congr 1
  congr 1
  congr 1
  funext j
  simp [sL_pL, vp_updL, ix]
theorem gd_dald (X : Cx p s m args c cc nL own G) {a : Nat} {i : Int32} (d : decode cc pc = .ok (.daload, 1)) (ha : kT S a = 16) (hi : vp_in i (kL S a)) (K : Gd p l e R s m args below meth c nL G Q k j S (pc + 1) E (.double (sD S a (ix i)) :: st)) : Gd p l e R s m args below meth c nL G Q k j S pc E (.int i :: rf a :: st) := fun H locs la hH hS hl => by
  obtain ⟨L, q, hL, hP, hD, hm, hq⟩ := HR_at hH (a := a) (by rw [ha]; omega)
  rw [cell_d ha] at hq
  rw [rf_ne (a := a) (Cx.ne X hH (by rw [ha]; omega))]
  exact va_dald X.1 X.2.1 X.2.2.2.2.2.1.1 hP q 8 hq rfl hi d (K H locs la hH hS hl)
theorem gd_dast (X : Cx p s m args c cc nL own G) {a : Nat} {i : Int32} {v : UInt64} (d : decode cc pc = .ok (.dastore, 1)) (ha : kT S a = 16) (hi : vp_in i (kL S a)) (K : Gd p l e R s m args below meth c nL G Q k j (pD S a (ix i) v) (pc + 1) E st) : Gd p l e R s m args below meth c nL G Q k j S pc E (.double v :: .int i :: rf a :: st) := fun H locs la hH hS hl => by
  obtain ⟨L, q, hL, hP, hD, hm, hq⟩ := HR_at hH (a := a) (by rw [ha]; omega)
  have hq0 := hq
  rw [cell_d ha] at hq
  rw [rf_ne (a := a) (Cx.ne X hH (by rw [ha]; omega))]
  refine va_dast X.1 X.2.1 X.2.2.2.2.2.1.1 hP hD hS q 8 hq rfl hi d (fun H1 locs1 hP1 hD1 hS1 => ?_)
  refine K H1 locs1 la (HR_put hL hD hm hq0 hP1 hD1 (fun _ => rfl) ?_ (fun b hb => cell_pD hb)) hS1 hl
  rw [cell_d (S := pD S a (ix i) v) ha]
  congr 2
  congr 1
  congr 1
  congr 1; congr 1; congr 1
  funext j
  simp [sD_pD, vf_upd, ix]
end GD
