theorem sp_mem {w : Cond} (i : Nat) (h : (k2_sels lw_privs)[i]? = some w) (hg : goodWord w = true) : w ∈ lw_all := lw_mem (List.mem_append_left _ (List.mem_of_getElem? h)) hg
theorem oi_1 : Cond.instanceMethod objectInit ∈ lw_all := by decide +kernel
theorem oi_2 : Cond.code objectInit ⟨#[0xb1]⟩ 1 none ∈ lw_all := by decide +kernel
theorem mx_1 : Cond.static Lib.Math.max.name ∈ lw_all := by decide +kernel
theorem mx_2 : Cond.initialized "java/lang/Math" ∈ lw_all := by decide +kernel
theorem mx_3 : Cond.code Lib.Math.max.name Lib.Math.max.code 2 (some .int) ∈ lw_all := by decide +kernel
theorem rf_nar {ty : FieldType} (h : ty.isReference = true) (v : Nat) : narrow ty (rf v) = rf v := by
  by_cases hv : v = 0
  · subst hv; rw [rf_0]; cases ty <;> first | rfl | (simp [FieldType.isReference] at h)
  · rw [rf_ne hv]; cases ty <;> first | rfl | (simp [FieldType.isReference] at h)
theorem rf_fit {ty : FieldType} (h : ty.isReference = true) (v : Nat) : fits ty (rf v) = true := by
  by_cases hv : v = 0
  · subst hv; rw [rf_0]; cases ty <;> first | rfl | (simp [FieldType.isReference] at h)
  · rw [rf_ne hv]; cases ty <;> first | rfl | (simp [FieldType.isReference] at h)
theorem kT_nwo {S : MS} {a q t u n : Nat} (h : kT S a = t) (hz : kT S q = 0) (ht : t ≠ 0) : kT (nw S q u n) a = t := by
  have hne : a ≠ q := fun e => ht (by rw [← h, e, hz])
  simp only [kT, nw, if_neg hne]
  exact h
/-- an int array's first n places copied to another -/
def cpI (S : MS) (a b : Nat) (n : Int32) : MS := (S.1, fun x => if x = b then va_cpy (sI S a) (sI S b) (ix 0) (ix 0) (ix n) else sI S x, S.2.2)
section TOPS
variable {p : Program} {l : Launch} {e : Env} {R : Room} {s : State} {m : MethodId} {args : Array Value} {below : List Frame} {meth : Method} {c : Code} {Q : State → Prop}
variable {cc : ByteArray} {nL : Nat} {own : String} {G : GP} {k j : Nat} {S : MS} {pc : Nat} {E : List (Nat × Value)} {st rest : List Value} {kc jc : Nat}
theorem gd_topS (K : ∀ S2 : MS, S2 = S → Gd p l e R s m args below meth c nL G Q k j S2 pc E st) : Gd p l e R s m args below meth c nL G Q k j S pc E st := K S rfl
theorem gd_topI {x : Int32} (K : ∀ y : Int32, y = x → Gd p l e R s m args below meth c nL G Q k j S pc E (.int y :: st)) : Gd p l e R s m args below meth c nL G Q k j S pc E (.int x :: st) := K x rfl
theorem gd_topR {x : Nat} (K : ∀ y : Nat, y = x → Gd p l e R s m args below meth c nL G Q k j S pc E (rf y :: st)) : Gd p l e R s m args below meth c nL G Q k j S pc E (rf x :: st) := K x rfl
theorem gd_topF {x : UInt32} (K : ∀ y : UInt32, y = x → Gd p l e R s m args below meth c nL G Q k j S pc E (.float y :: st)) : Gd p l e R s m args below meth c nL G Q k j S pc E (.float x :: st) := K x rfl
theorem gd_topD {x : UInt64} (K : ∀ y : UInt64, y = x → Gd p l e R s m args below meth c nL G Q k j S pc E (.double y :: st)) : Gd p l e R s m args below meth c nL G Q k j S pc E (.double x :: st) := K x rfl
theorem kI {post : Int32 → MS → Prop} (K : ∀ (r : Int32) (S2 : MS), post r S2 → Gd p l e R s m args below meth c nL G Q kc jc S2 pc E (.int r :: rest)) : ∀ (v : Option Value) (S2 : MS), pI_ post v S2 → Gd p l e R s m args below meth c nL G Q kc jc S2 pc E (v.toList ++ rest) := fun v S2 h => by
  obtain ⟨r, rfl, h⟩ := h
  exact K r S2 h
theorem kR {post : Nat → MS → Prop} (K : ∀ (r : Nat) (S2 : MS), post r S2 → Gd p l e R s m args below meth c nL G Q kc jc S2 pc E (rf r :: rest)) : ∀ (v : Option Value) (S2 : MS), pR_ post v S2 → Gd p l e R s m args below meth c nL G Q kc jc S2 pc E (v.toList ++ rest) := fun v S2 h => by
  obtain ⟨r, rfl, h⟩ := h
  exact K r S2 h
theorem kD {post : UInt64 → MS → Prop} (K : ∀ (r : UInt64) (S2 : MS), post r S2 → Gd p l e R s m args below meth c nL G Q kc jc S2 pc E (.double r :: rest)) : ∀ (v : Option Value) (S2 : MS), pD_ post v S2 → Gd p l e R s m args below meth c nL G Q kc jc S2 pc E (v.toList ++ rest) := fun v S2 h => by
  obtain ⟨r, rfl, h⟩ := h
  exact K r S2 h
theorem kF {post : UInt32 → MS → Prop} (K : ∀ (r : UInt32) (S2 : MS), post r S2 → Gd p l e R s m args below meth c nL G Q kc jc S2 pc E (.float r :: rest)) : ∀ (v : Option Value) (S2 : MS), pF_ post v S2 → Gd p l e R s m args below meth c nL G Q kc jc S2 pc E (v.toList ++ rest) := fun v S2 h => by
  obtain ⟨r, rfl, h⟩ := h
  exact K r S2 h
theorem kV {post : MS → Prop} (K : ∀ (S2 : MS), post S2 → Gd p l e R s m args below meth c nL G Q kc jc S2 pc E rest) : ∀ (v : Option Value) (S2 : MS), pV_ post v S2 → Gd p l e R s m args below meth c nL G Q kc jc S2 pc E (v.toList ++ rest) := fun v S2 h => by
  obtain ⟨rfl, h⟩ := h
  exact K S2 h
theorem gd_alen (X : Cx p s m args c cc nL own G) {a : Nat} (d : decode cc pc = .ok (.arraylength, 1)) (ha : kT S a = 9) (K : Gd p l e R s m args below meth c nL G Q k j S (pc + 1) E (.int (Int32.ofNat (kL S a)) :: st)) : Gd p l e R s m args below meth c nL G Q k j S pc E (rf a :: st) := fun H locs la hH hS hl => by
  obtain ⟨L, q, hL, hP, hD, hm, hq⟩ := HR_at hH (a := a) (by rw [ha]; omega)
  rw [cell_i ha (by omega) (by omega)] at hq
  rw [rf_ne (a := a) (Cx.ne X hH (by rw [ha]; omega))]
  exact va_alen X.1 X.2.1 X.2.2.2.2.2.1.1 hP q 1 hq rfl rfl d (K H locs la hH hS hl)
end TOPS
/-- new int[N][M]: the rows' addresses r, the outer array q -/
def mnaS (S : MS) (q : Nat) (r : Nat → Nat) (N M : Nat) : MS := (fun a => if a = q then (14, N) else if a ∈ (List.range N).map r then (9, M) else S.1 a, fun a k => if a = q ∨ a ∈ (List.range N).map r then 0 else S.2.1 a k, fun a k => if a = q then (if k < N then r k else 0) else if a ∈ (List.range N).map r then 0 else S.2.2.1 a k, fun a k => if a = q ∨ a ∈ (List.range N).map r then 0 else S.2.2.2.1 a k, fun a k => if a = q ∨ a ∈ (List.range N).map r then 0 else S.2.2.2.2 a k)
def mna (S : MS) (q : Nat) (r : Nat → Nat) (N M : Nat) (S9 : MS) : Prop := kT S q = 0 ∧ q ≠ 0 ∧ (∀ i, i < N → kT S (r i) = 0 ∧ r i ≠ 0 ∧ r i ≠ q) ∧ (∀ i j, i < N → j < N → r i = r j → i = j) ∧ S9 = mnaS S q r N M
section MNA
variable {p : Program} {l : Launch} {e : Env} {R : Room} {s : State} {m : MethodId} {args : Array Value} {below : List Frame} {meth : Method} {c : Code} {Q : State → Prop}
variable {cc : ByteArray} {nL : Nat} {own : String} {G : GP} {k j : Nat} {S : MS} {pc : Nat} {E : List (Nat × Value)} {st rest : List Value} {index : Nat}
theorem gd_mna (X : Cx p s m args c cc nL own G) {N M : Nat} {n z : Int32} (h1 : Cond.classLink own index "[[I" ∈ lw_all) (h2 : Cond.arrayClass .int ∈ lw_all) (hn : ¬ n < 0) (hz : ¬ z < 0) (hN : n.toNatClampNeg = N) (hM : z.toNatClampNeg = M) (hb1 : N * 4 ≤ 536870912) (hb2 : M * 4 ≤ 536870912) (d : decode cc pc = .ok (.multianewarray index 2, 4)) (hR : k + (1 + N) ≤ R.cells ∧ j + (N + N * M) ≤ R.slots)
    (K : ∀ (q : Nat) (r : Nat → Nat) (S9 : MS), mna S q r N M S9 → Gd p l e R s m args below meth c nL G Q (k + 1 + N) (j + N + N * M) S9 (pc + 4) E (rf q :: st)) : Gd p l e R s m args below meth c nL G Q k j S pc E (.int z :: .int n :: st) := fun H locs la hH hS hl => by
  obtain ⟨L, hL, hP, hD⟩ := hH
  have hcy : s.vm.findClass (FieldType.array .int).toString = some (G.2.1 9) := (X.2.2.2.2.2.1.1.2 1 _ rfl).2
  refine va_mna (X := []) (L := L) (f := cellOf G.2.1 S) (ty := .int) (z := (M, .inl (fun _ => 0))) X.1 X.2.1 X.2.2.2.1 (X.2.2.2.2.1 _ h1) X.2.2.2.2.2.1.2.2.2.2.2.2.1 (X.2.2.2.2.1 _ h2) hcy X.2.2.2.2.2.1.1 hP hD hS X.A hn hz hN hM hb1 hb2 (Nat.le_trans (Nat.le_mul_of_pos_right M (by decide)) hb2) rfl rfl hR.1 hR.2 (fun cA => by show _ = arrV cA M (fun _ => .int 0); rw [← arrV_new]; rfl) d (fun q r cA H1 hinj hnl hK1 hP1 hD1 hS1 => ?_)
  have hcA := cy_eq X hK1 (t0 := 6) rfl
  subst hcA
  have hrow : ∀ i, i < N → r i ∈ (List.range N).map r := fun i hi => List.mem_map.mpr ⟨i, List.mem_range.mpr hi, rfl⟩
  have hq0 : G.2.2 ≤ q := hD1.2 0 _ rfl
  have h1b := X.2.2.2.2.2.2.1
  have hat : ∀ a, a ∈ L ++ (List.range N).map r → ∃ (i : Nat) (x : va_E), (([] ++ [(q, (Sum.inl (G.2.1 (6 + 8), N, Sum.inr (Sum.inr (Sum.inr (Sum.inr fun i => if i < N then some (r i) else none)))) : va_E))]) ++ va_pl (L ++ (List.range N).map r) (vr_up (cellOf G.2.1 S) ((List.range N).map r) (.inl (G.2.1 9, M, .inl fun _ => 0))))[i + 1]? = some (a, x) := fun a ha => by
    obtain ⟨i, hi⟩ := List.getElem?_of_mem ha
    refine ⟨i, vr_up (cellOf G.2.1 S) ((List.range N).map r) (.inl (G.2.1 9, M, .inl fun _ => 0)) a, ?_⟩
    show (va_pl (L ++ (List.range N).map r) _)[i]? = _
    unfold va_pl
    rw [List.getElem?_map, hi]
    rfl
  have hqn : q ∉ L ++ (List.range N).map r := fun hm => by
    obtain ⟨i, x, hi⟩ := hat q hm
    have := hD1.1 0 (i + 1) _ _ rfl hi rfl
    omega
  have hqL : q ∉ L := fun h => hqn (List.mem_append_left _ h)
  have hqR : q ∉ (List.range N).map r := fun h => hqn (List.mem_append_right _ h)
  have hkq : kT S q = 0 := Classical.byContradiction fun h => hqL ((hL q).mpr h)
  have hkr : ∀ i, i < N → kT S (r i) = 0 := fun i hi => Classical.byContradiction fun h => hnl i hi ((hL _).mpr h)
  have hr0 : ∀ i, i < N → G.2.2 ≤ r i := fun i hi => by
    obtain ⟨u, x, hu⟩ := hat (r i) (List.mem_append_right _ (hrow i hi))
    exact hD1.2 _ _ hu
  have hLr : ∀ a, a ∈ L → a ∉ (List.range N).map r := fun a ha hm => by
    obtain ⟨i, hi, rfl⟩ := List.mem_map.mp hm
    exact hnl i (List.mem_range.mp hi) ha
  have e0 : cellOf G.2.1 (mnaS S q r N M) q = .inl (G.2.1 (6 + 8), N, .inr (.inr (.inr (.inr (fun i => if i < N then some (r i) else none))))) := by
    have hk : kT (mnaS S q r N M) q = 14 := by simp [kT, mnaS]
    rw [cell_q hk (by omega) (by omega)]
    have hk2 : kL (mnaS S q r N M) q = N := by simp [kL, mnaS]
    rw [hk2]
    congr 2
    congr 1
    congr 1
    congr 1
    congr 1
    congr 1
    funext i
    by_cases hi : i < N
    · have := hr0 i hi
      simp [sR, mnaS, hi, op_ne (show r i ≠ 0 by omega)]
    · simp [sR, mnaS, hi, op]
  have e1 : ∀ a, a ∈ L ++ (List.range N).map r → vr_up (cellOf G.2.1 S) ((List.range N).map r) (.inl (G.2.1 9, M, .inl fun _ => 0)) a = cellOf G.2.1 (mnaS S q r N M) a := fun a ha => by
    have haq : a ≠ q := fun h => hqn (h ▸ ha)
    by_cases hm : a ∈ (List.range N).map r
    · rw [vr_up_in hm]
      have hk : kT (mnaS S q r N M) a = 9 := by
        unfold kT mnaS
        simp only [if_neg haq, if_pos hm]
      rw [cell_i hk (by omega) (by omega)]
      have hk2 : kL (mnaS S q r N M) a = M := by
        unfold kL mnaS
        simp only [if_neg haq, if_pos hm]
      have hk3 : sI (mnaS S q r N M) a = fun _ => 0 := by
        funext i
        unfold sI mnaS
        simp only [if_pos (Or.inr hm : a = q ∨ _)]
      rw [hk2, hk3]
    · rw [vr_up_ne hm]
      have hno : ¬ (a = q ∨ a ∈ (List.range N).map r) := fun h => h.elim haq hm
      refine (cell_congr ?_ ?_ ?_ ?_ ?_ ?_).symm
      · unfold kT mnaS; simp only [if_neg haq, if_neg hm]
      · unfold kL mnaS; simp only [if_neg haq, if_neg hm]
      · funext i; unfold sI mnaS; simp only [if_neg hno]
      · funext i; unfold sR mnaS; simp only [if_neg haq, if_neg hm]
      · funext i; unfold sL mnaS; simp only [if_neg hno]
      · funext i; unfold sD mnaS; simp only [if_neg hno]
  have hlist : (([] ++ [(q, (Sum.inl (G.2.1 (6 + 8), N, Sum.inr (Sum.inr (Sum.inr (Sum.inr fun i => if i < N then some (r i) else none)))) : va_E))]) ++ va_pl (L ++ (List.range N).map r) (vr_up (cellOf G.2.1 S) ((List.range N).map r) (.inl (G.2.1 9, M, .inl fun _ => 0)))) = va_pl (q :: (L ++ (List.range N).map r)) (cellOf G.2.1 (mnaS S q r N M)) := by
    unfold va_pl
    rw [List.map_cons, e0]
    show _ :: _ = _
    congr 1
    exact List.map_congr_left (fun a ha => by rw [e1 a ha])
  rw [hlist] at hP1 hD1
  have hH1 : HR G (mnaS S q r N M) H1 := by
    refine ⟨_, fun a => ?_, hP1, hD1⟩
    by_cases haq : a = q
    · subst haq
      simp [kT, mnaS]
    · by_cases hm : a ∈ (List.range N).map r
      · constructor
        · intro _
          unfold kT mnaS
          simp only [if_neg haq, if_pos hm]
          decide
        · intro _
          exact List.mem_cons_of_mem _ (List.mem_append_right _ hm)
      · have e : kT (mnaS S q r N M) a = kT S a := by unfold kT mnaS; simp only [if_neg haq, if_neg hm]
        rw [e, ← hL a]
        constructor
        · intro h
          rcases List.mem_cons.mp h with h | h
          · exact absurd h haq
          · rcases List.mem_append.mp h with h | h
            · exact h
            · exact absurd h hm
        · exact fun h => List.mem_cons_of_mem _ (List.mem_append_left _ h)
  have := K q r _ ⟨hkq, by omega, fun i hi => ⟨hkr i hi, by have := hr0 i hi; omega, fun h => hqR (h ▸ hrow i hi)⟩, hinj, rfl⟩ H1 locs la hH1 hS1 hl
  rw [rf_ne (show q ≠ 0 by omega)] at this
  exact this
end MNA
theorem tw_853 : Cond.methodLink "OptimisticStore$Constraint" 3 (⟨"java/lang/Object", "<init>", "()V"⟩ : MethodName) ∈ lw_all := tb_mem 853 (by decide +kernel) rfl
theorem tw_854 : Cond.fieldLink "OptimisticStore$Constraint" 9 "OptimisticStore$Constraint" "kind" "I" ∈ lw_all := tb_mem 854 (by decide +kernel) rfl
theorem tw_855 : Cond.fieldLink "OptimisticStore$Constraint" 15 "OptimisticStore$Constraint" "low" "I" ∈ lw_all := tb_mem 855 (by decide +kernel) rfl
theorem tw_856 : Cond.fieldLink "OptimisticStore$Constraint" 18 "OptimisticStore$Constraint" "high" "I" ∈ lw_all := tb_mem 856 (by decide +kernel) rfl
theorem tw_857 : Cond.fieldLink "OptimisticStore$Constraint" 21 "OptimisticStore$Constraint" "bound" "I" ∈ lw_all := tb_mem 857 (by decide +kernel) rfl
theorem tw_208 : Cond.static (yX5_totalIn : MethodName) ∈ lw_all := tb_mem 208 (by decide +kernel) rfl
theorem tw_1 : Cond.initialized "OptimisticStore" ∈ lw_all := tb_mem 1 (by decide +kernel) rfl
theorem tw_209 : Cond.code yX5_totalIn cX5_totalIn 5 (some .int) ∈ lw_all := tb_mem 209 (by decide +kernel) rfl
theorem mw_X5_totalIn : MSw yX5_totalIn cX5_totalIn 5 (some .int) 3 := ⟨tw_208, tw_1, tw_209, by decide, by decide, by decide +kernel⟩
theorem tw_205 : Cond.static (yX5_countIn : MethodName) ∈ lw_all := tb_mem 205 (by decide +kernel) rfl
theorem tw_206 : Cond.code yX5_countIn cX5_countIn 6 (some .int) ∈ lw_all := tb_mem 206 (by decide +kernel) rfl
theorem mw_X5_countIn : MSw yX5_countIn cX5_countIn 6 (some .int) 4 := ⟨tw_205, tw_1, tw_206, by decide, by decide, by decide +kernel⟩
theorem tw_34 : Cond.methodLink "OptimisticStore$History" 3 (⟨"java/lang/Object", "<init>", "()V"⟩ : MethodName) ∈ lw_all := tb_mem 34 (by decide +kernel) rfl
theorem tw_35 : Cond.classLink "OptimisticStore$History" 9 "[[I" ∈ lw_all := tb_mem 35 (by decide +kernel) rfl
theorem tw_53 : Cond.arrayClass .int ∈ lw_all := tb_mem 53 (by decide +kernel) rfl
theorem tw_42 : Cond.fieldLink "OptimisticStore$History" 11 "OptimisticStore$History" "stores" "[[I" ∈ lw_all := tb_mem 42 (by decide +kernel) rfl
theorem tw_37 : Cond.classLink "OptimisticStore$History" 16 "OptimisticStore$Transaction" ∈ lw_all := tb_mem 37 (by decide +kernel) rfl
theorem tw_43 : Cond.fieldLink "OptimisticStore$History" 18 "OptimisticStore$History" "authors" "[LOptimisticStore$Transaction;" ∈ lw_all := tb_mem 43 (by decide +kernel) rfl
theorem tw_40 : Cond.static (yJ7_fill_53178 : MethodName) ∈ lw_all := tb_mem 40 (by decide +kernel) rfl
theorem tw_3 : Cond.initialized "java/util/Arrays" ∈ lw_all := tb_mem 3 (by decide +kernel) rfl
theorem tw_41 : Cond.code yJ7_fill_53178 cJ7_fill_53178 4 none ∈ lw_all := tb_mem 41 (by decide +kernel) rfl
theorem mw_J7_fill_53178 : MSw yJ7_fill_53178 cJ7_fill_53178 4 none 2 := ⟨tw_40, tw_3, tw_41, by decide, by decide, by decide +kernel⟩
theorem tw_39 : Cond.methodLink "OptimisticStore$History" 22 (yJ7_fill_53178 : MethodName) ∈ lw_all := tb_mem 39 (by decide +kernel) rfl
theorem tw_44 : Cond.fieldLink "OptimisticStore$History" 28 "OptimisticStore$History" "latest" "I" ∈ lw_all := tb_mem 44 (by decide +kernel) rfl
theorem tw_359 : Cond.fieldLink "OptimisticStore$Transaction" 40 "OptimisticStore$Transaction" "written" "I" ∈ lw_all := tb_mem 359 (by decide +kernel) rfl
theorem tw_170 : Cond.instanceMethod (yX4_hasWritten : MethodName) ∈ lw_all := tb_mem 170 (by decide +kernel) rfl
theorem tw_171 : Cond.selects "OptimisticStore$Transaction" (yX4_hasWritten : MethodName) (yX4_hasWritten : MethodName) ∈ lw_all := tb_mem 171 (by decide +kernel) rfl
theorem tw_11 : Cond.initialized "OptimisticStore$Transaction" ∈ lw_all := tb_mem 11 (by decide +kernel) rfl
theorem tw_172 : Cond.code yX4_hasWritten cX4_hasWritten 2 (some .boolean) ∈ lw_all := tb_mem 172 (by decide +kernel) rfl
theorem mw_X4_hasWritten : MVw yX4_hasWritten cX4_hasWritten 2 (some .boolean) 1 := ⟨tw_170, tw_171, tw_11, tw_172, by decide, by decide, by decide +kernel⟩
theorem tw_507 : Cond.methodLink "OptimisticStore$Transaction" 60 (yX4_hasWritten : MethodName) ∈ lw_all := tb_mem 507 (by decide +kernel) rfl
theorem tw_351 : Cond.fieldLink "OptimisticStore$Transaction" 28 "OptimisticStore$Transaction" "newValues" "[I" ∈ lw_all := tb_mem 351 (by decide +kernel) rfl
theorem tw_593 : Cond.instanceMethod (yX1_isFull : MethodName) ∈ lw_all := tb_mem 593 (by decide +kernel) rfl
theorem tw_594 : Cond.selects "OptimisticStore$History" (yX1_isFull : MethodName) (yX1_isFull : MethodName) ∈ lw_all := tb_mem 594 (by decide +kernel) rfl
theorem tw_2 : Cond.initialized "OptimisticStore$History" ∈ lw_all := tb_mem 2 (by decide +kernel) rfl
theorem tw_595 : Cond.code yX1_isFull cX1_isFull 1 (some .boolean) ∈ lw_all := tb_mem 595 (by decide +kernel) rfl
theorem mw_X1_isFull : MVw yX1_isFull cX1_isFull 1 (some .boolean) 0 := ⟨tw_593, tw_594, tw_2, tw_595, by decide, by decide, by decide +kernel⟩
theorem tw_662 : Cond.methodLink "OptimisticStore$History" 32 (yX1_isFull : MethodName) ∈ lw_all := tb_mem 662 (by decide +kernel) rfl
theorem tw_663 : Cond.methodLink "OptimisticStore$History" 36 (⟨"java/lang/System", "arraycopy", "(Ljava/lang/Object;ILjava/lang/Object;II)V"⟩ : MethodName) ∈ lw_all := tb_mem 663 (by decide +kernel) rfl
theorem tw_195 : Cond.native (⟨"java/lang/System", "arraycopy", "(Ljava/lang/Object;ILjava/lang/Object;II)V"⟩ : MethodName) ∈ lw_all := tb_mem 195 (by decide +kernel) rfl
theorem tw_194 : Cond.static (⟨"java/lang/System", "arraycopy", "(Ljava/lang/Object;ILjava/lang/Object;II)V"⟩ : MethodName) ∈ lw_all := tb_mem 194 (by decide +kernel) rfl
theorem tw_16 : Cond.initialized "java/lang/System" ∈ lw_all := tb_mem 16 (by decide +kernel) rfl
theorem tw_504 : Cond.instanceMethod (yX4_applyWrites : MethodName) ∈ lw_all := tb_mem 504 (by decide +kernel) rfl
theorem tw_505 : Cond.selects "OptimisticStore$Transaction" (yX4_applyWrites : MethodName) (yX4_applyWrites : MethodName) ∈ lw_all := tb_mem 505 (by decide +kernel) rfl
theorem tw_506 : Cond.code yX4_applyWrites cX4_applyWrites 3 none ∈ lw_all := tb_mem 506 (by decide +kernel) rfl
theorem mw_X4_applyWrites : MVw yX4_applyWrites cX4_applyWrites 3 none 1 := ⟨tw_504, tw_505, tw_11, tw_506, by decide, by decide, by decide +kernel⟩
theorem tw_664 : Cond.methodLink "OptimisticStore$History" 42 (yX4_applyWrites : MethodName) ∈ lw_all := tb_mem 664 (by decide +kernel) rfl
theorem tw_364 : Cond.fieldLink "OptimisticStore$History" 46 "OptimisticStore$Transaction" "state" "I" ∈ lw_all := tb_mem 364 (by decide +kernel) rfl
theorem tw_367 : Cond.fieldLink "OptimisticStore$History" 49 "OptimisticStore$Transaction" "commitNumber" "I" ∈ lw_all := tb_mem 367 (by decide +kernel) rfl
theorem tw_362 : Cond.fieldLink "OptimisticStore$Transaction" 31 "OptimisticStore$Transaction" "state" "I" ∈ lw_all := tb_mem 362 (by decide +kernel) rfl
theorem tw_365 : Cond.fieldLink "OptimisticStore$Transaction" 77 "OptimisticStore$Transaction" "abortReason" "I" ∈ lw_all := tb_mem 365 (by decide +kernel) rfl
theorem tw_647 : Cond.instanceMethod (yX4_becomeAborted : MethodName) ∈ lw_all := tb_mem 647 (by decide +kernel) rfl
theorem tw_648 : Cond.selects "OptimisticStore$Transaction" (yX4_becomeAborted : MethodName) (yX4_becomeAborted : MethodName) ∈ lw_all := tb_mem 648 (by decide +kernel) rfl
theorem tw_649 : Cond.code yX4_becomeAborted cX4_becomeAborted 2 none ∈ lw_all := tb_mem 649 (by decide +kernel) rfl
theorem mw_X4_becomeAborted : MVw yX4_becomeAborted cX4_becomeAborted 2 none 1 := ⟨tw_647, tw_648, tw_11, tw_649, by decide, by decide, by decide +kernel⟩
theorem tw_840 : Cond.methodLink "OptimisticStore$History" 52 (yX4_becomeAborted : MethodName) ∈ lw_all := tb_mem 840 (by decide +kernel) rfl
theorem tw_360 : Cond.fieldLink "OptimisticStore$History" 89 "OptimisticStore$Transaction" "written" "I" ∈ lw_all := tb_mem 360 (by decide +kernel) rfl
theorem tw_155 : Cond.instanceMethod (yX1_writtenBy : MethodName) ∈ lw_all := tb_mem 155 (by decide +kernel) rfl
theorem sp_2 : Cond.selects "OptimisticStore$History" yX1_writtenBy yX1_writtenBy ∈ lw_all := sp_mem 2 (by decide +kernel) rfl
theorem tw_156 : Cond.code yX1_writtenBy cX1_writtenBy 3 (some .int) ∈ lw_all := tb_mem 156 (by decide +kernel) rfl
theorem mw_X1_writtenBy : MVw yX1_writtenBy cX1_writtenBy 3 (some .int) 1 := ⟨tw_155, sp_2, tw_2, tw_156, by decide, by decide, by decide +kernel⟩
theorem tw_153 : Cond.methodLink "OptimisticStore$History" 56 (yX1_writtenBy : MethodName) ∈ lw_all := tb_mem 153 (by decide +kernel) rfl
theorem tw_356 : Cond.fieldLink "OptimisticStore$Transaction" 37 "OptimisticStore$Transaction" "recorded" "I" ∈ lw_all := tb_mem 356 (by decide +kernel) rfl
theorem tw_456 : Cond.fieldLink "OptimisticStore$Operation" 9 "OptimisticStore$Operation" "kind" "I" ∈ lw_all := tb_mem 456 (by decide +kernel) rfl
theorem tw_460 : Cond.fieldLink "OptimisticStore$Operation" 21 "OptimisticStore$Operation" "number" "I" ∈ lw_all := tb_mem 460 (by decide +kernel) rfl
theorem tw_166 : Cond.instanceMethod (yX2_isPredicate : MethodName) ∈ lw_all := tb_mem 166 (by decide +kernel) rfl
theorem tw_167 : Cond.selects "OptimisticStore$Operation" (yX2_isPredicate : MethodName) (yX2_isPredicate : MethodName) ∈ lw_all := tb_mem 167 (by decide +kernel) rfl
theorem tw_15 : Cond.initialized "OptimisticStore$Operation" ∈ lw_all := tb_mem 15 (by decide +kernel) rfl
theorem tw_168 : Cond.code yX2_isPredicate cX2_isPredicate 1 (some .boolean) ∈ lw_all := tb_mem 168 (by decide +kernel) rfl
theorem mw_X2_isPredicate : MVw yX2_isPredicate cX2_isPredicate 1 (some .boolean) 0 := ⟨tw_166, tw_167, tw_15, tw_168, by decide, by decide, by decide +kernel⟩
theorem tw_165 : Cond.methodLink "OptimisticStore$Operation" 44 (yX2_isPredicate : MethodName) ∈ lw_all := tb_mem 165 (by decide +kernel) rfl
theorem tw_457 : Cond.fieldLink "OptimisticStore$Operation" 15 "OptimisticStore$Operation" "low" "I" ∈ lw_all := tb_mem 457 (by decide +kernel) rfl
theorem tw_459 : Cond.fieldLink "OptimisticStore$Operation" 18 "OptimisticStore$Operation" "high" "I" ∈ lw_all := tb_mem 459 (by decide +kernel) rfl
theorem tw_169 : Cond.methodLink "OptimisticStore$Operation" 48 (yX4_hasWritten : MethodName) ∈ lw_all := tb_mem 169 (by decide +kernel) rfl
theorem tw_175 : Cond.instanceMethod (yX2_admits : MethodName) ∈ lw_all := tb_mem 175 (by decide +kernel) rfl
theorem sp_3 : Cond.selects "OptimisticStore$Operation" yX2_admits yX2_admits ∈ lw_all := sp_mem 3 (by decide +kernel) rfl
theorem tw_177 : Cond.code yX2_admits cX2_admits 2 (some .boolean) ∈ lw_all := tb_mem 177 (by decide +kernel) rfl
theorem mw_X2_admits : MVw yX2_admits cX2_admits 2 (some .boolean) 1 := ⟨tw_175, sp_3, tw_15, tw_177, by decide, by decide, by decide +kernel⟩
theorem tw_173 : Cond.methodLink "OptimisticStore$Operation" 54 (yX2_admits : MethodName) ∈ lw_all := tb_mem 173 (by decide +kernel) rfl
theorem tw_352 : Cond.fieldLink "OptimisticStore$Operation" 57 "OptimisticStore$Transaction" "newValues" "[I" ∈ lw_all := tb_mem 352 (by decide +kernel) rfl
theorem tw_462 : Cond.fieldLink "OptimisticStore$History" 96 "OptimisticStore$Operation" "madeAt" "I" ∈ lw_all := tb_mem 462 (by decide +kernel) rfl
theorem tw_162 : Cond.instanceMethod (yX2_isTouchedBy : MethodName) ∈ lw_all := tb_mem 162 (by decide +kernel) rfl
theorem tw_163 : Cond.selects "OptimisticStore$Operation" (yX2_isTouchedBy : MethodName) (yX2_isTouchedBy : MethodName) ∈ lw_all := tb_mem 163 (by decide +kernel) rfl
theorem tw_164 : Cond.code yX2_isTouchedBy cX2_isTouchedBy 4 (some .boolean) ∈ lw_all := tb_mem 164 (by decide +kernel) rfl
theorem mw_X2_isTouchedBy : MVw yX2_isTouchedBy cX2_isTouchedBy 4 (some .boolean) 2 := ⟨tw_162, tw_163, tw_15, tw_164, by decide, by decide, by decide +kernel⟩
theorem tw_627 : Cond.methodLink "OptimisticStore$History" 101 (yX2_isTouchedBy : MethodName) ∈ lw_all := tb_mem 627 (by decide +kernel) rfl
theorem tw_542 : Cond.instanceMethod (yX4_hasRecorded : MethodName) ∈ lw_all := tb_mem 542 (by decide +kernel) rfl
theorem tw_543 : Cond.selects "OptimisticStore$Transaction" (yX4_hasRecorded : MethodName) (yX4_hasRecorded : MethodName) ∈ lw_all := tb_mem 543 (by decide +kernel) rfl
theorem tw_544 : Cond.code yX4_hasRecorded cX4_hasRecorded 2 (some .boolean) ∈ lw_all := tb_mem 544 (by decide +kernel) rfl
theorem mw_X4_hasRecorded : MVw yX4_hasRecorded cX4_hasRecorded 2 (some .boolean) 1 := ⟨tw_542, tw_543, tw_11, tw_544, by decide, by decide, by decide +kernel⟩
theorem tw_618 : Cond.methodLink "OptimisticStore$History" 60 (yX4_hasRecorded : MethodName) ∈ lw_all := tb_mem 618 (by decide +kernel) rfl
theorem tw_620 : Cond.instanceMethod (yX1_latestWriter : MethodName) ∈ lw_all := tb_mem 620 (by decide +kernel) rfl
theorem tw_621 : Cond.selects "OptimisticStore$History" (yX1_latestWriter : MethodName) (yX1_latestWriter : MethodName) ∈ lw_all := tb_mem 621 (by decide +kernel) rfl
theorem tw_622 : Cond.code yX1_latestWriter cX1_latestWriter 3 (some .int) ∈ lw_all := tb_mem 622 (by decide +kernel) rfl
theorem mw_X1_latestWriter : MVw yX1_latestWriter cX1_latestWriter 3 (some .int) 1 := ⟨tw_620, tw_621, tw_2, tw_622, by decide, by decide, by decide +kernel⟩
theorem tw_619 : Cond.methodLink "OptimisticStore$History" 64 (yX1_latestWriter : MethodName) ∈ lw_all := tb_mem 619 (by decide +kernel) rfl
theorem tw_350 : Cond.fieldLink "OptimisticStore$History" 67 "OptimisticStore$Transaction" "recordedAt" "[I" ∈ lw_all := tb_mem 350 (by decide +kernel) rfl
theorem tw_354 : Cond.fieldLink "OptimisticStore$History" 71 "OptimisticStore$Transaction" "operationsMade" "I" ∈ lw_all := tb_mem 354 (by decide +kernel) rfl
theorem tw_348 : Cond.fieldLink "OptimisticStore$History" 74 "OptimisticStore$Transaction" "operations" "[LOptimisticStore$Operation;" ∈ lw_all := tb_mem 348 (by decide +kernel) rfl
theorem tw_625 : Cond.instanceMethod (yX1_isTouchedSince : MethodName) ∈ lw_all := tb_mem 625 (by decide +kernel) rfl
theorem sp_16 : Cond.selects "OptimisticStore$History" yX1_isTouchedSince yX1_isTouchedSince ∈ lw_all := sp_mem 16 (by decide +kernel) rfl
theorem tw_626 : Cond.code yX1_isTouchedSince cX1_isTouchedSince 4 (some .boolean) ∈ lw_all := tb_mem 626 (by decide +kernel) rfl
theorem mw_X1_isTouchedSince : MVw yX1_isTouchedSince cX1_isTouchedSince 4 (some .boolean) 1 := ⟨tw_625, sp_16, tw_2, tw_626, by decide, by decide, by decide +kernel⟩
theorem tw_623 : Cond.methodLink "OptimisticStore$History" 78 (yX1_isTouchedSince : MethodName) ∈ lw_all := tb_mem 623 (by decide +kernel) rfl
theorem tw_353 : Cond.fieldLink "OptimisticStore$Transaction" 34 "OptimisticStore$Transaction" "operationsMade" "I" ∈ lw_all := tb_mem 353 (by decide +kernel) rfl
theorem tw_347 : Cond.fieldLink "OptimisticStore$Transaction" 20 "OptimisticStore$Transaction" "operations" "[LOptimisticStore$Operation;" ∈ lw_all := tb_mem 347 (by decide +kernel) rfl
theorem tw_161 : Cond.methodLink "OptimisticStore$Transaction" 69 (yX2_isTouchedBy : MethodName) ∈ lw_all := tb_mem 161 (by decide +kernel) rfl
theorem tw_357 : Cond.fieldLink "OptimisticStore$History" 82 "OptimisticStore$Transaction" "recorded" "I" ∈ lw_all := tb_mem 357 (by decide +kernel) rfl
theorem tw_151 : Cond.instanceMethod (yX1_readsFrom : MethodName) ∈ lw_all := tb_mem 151 (by decide +kernel) rfl
theorem sp_1 : Cond.selects "OptimisticStore$History" yX1_readsFrom yX1_readsFrom ∈ lw_all := sp_mem 1 (by decide +kernel) rfl
theorem tw_152 : Cond.code yX1_readsFrom cX1_readsFrom 6 (some .boolean) ∈ lw_all := tb_mem 152 (by decide +kernel) rfl
theorem mw_X1_readsFrom : MVw yX1_readsFrom cX1_readsFrom 6 (some .boolean) 3 := ⟨tw_151, sp_1, tw_2, tw_152, by decide, by decide, by decide +kernel⟩
theorem tw_149 : Cond.methodLink "OptimisticStore$History" 85 (yX1_readsFrom : MethodName) ∈ lw_all := tb_mem 149 (by decide +kernel) rfl
theorem tw_158 : Cond.instanceMethod (yX4_isHitBy : MethodName) ∈ lw_all := tb_mem 158 (by decide +kernel) rfl
theorem tw_159 : Cond.selects "OptimisticStore$Transaction" (yX4_isHitBy : MethodName) (yX4_isHitBy : MethodName) ∈ lw_all := tb_mem 159 (by decide +kernel) rfl
theorem tw_160 : Cond.code yX4_isHitBy cX4_isHitBy 5 (some .boolean) ∈ lw_all := tb_mem 160 (by decide +kernel) rfl
theorem mw_X4_isHitBy : MVw yX4_isHitBy cX4_isHitBy 5 (some .boolean) 2 := ⟨tw_158, tw_159, tw_11, tw_160, by decide, by decide, by decide +kernel⟩
theorem tw_157 : Cond.methodLink "OptimisticStore$History" 92 (yX4_isHitBy : MethodName) ∈ lw_all := tb_mem 157 (by decide +kernel) rfl
theorem tw_455 : Cond.methodLink "OptimisticStore$Operation" 3 (⟨"java/lang/Object", "<init>", "()V"⟩ : MethodName) ∈ lw_all := tb_mem 455 (by decide +kernel) rfl
theorem tw_486 : Cond.static (yX5_isRange : MethodName) ∈ lw_all := tb_mem 486 (by decide +kernel) rfl
theorem tw_487 : Cond.code yX5_isRange cX5_isRange 2 (some .boolean) ∈ lw_all := tb_mem 487 (by decide +kernel) rfl
theorem mw_X5_isRange : MSw yX5_isRange cX5_isRange 2 (some .boolean) 2 := ⟨tw_486, tw_1, tw_487, by decide, by decide, by decide +kernel⟩
theorem tw_232 : Cond.static (yX5_isBetween : MethodName) ∈ lw_all := tb_mem 232 (by decide +kernel) rfl
theorem tw_233 : Cond.code yX5_isBetween cX5_isBetween 3 (some .boolean) ∈ lw_all := tb_mem 233 (by decide +kernel) rfl
theorem mw_X5_isBetween : MSw yX5_isBetween cX5_isBetween 3 (some .boolean) 3 := ⟨tw_232, tw_1, tw_233, by decide, by decide, by decide +kernel⟩
theorem tw_212 : Cond.instanceMethod (yX2_sumWith : MethodName) ∈ lw_all := tb_mem 212 (by decide +kernel) rfl
theorem sp_4 : Cond.selects "OptimisticStore$Operation" yX2_sumWith yX2_sumWith ∈ lw_all := sp_mem 4 (by decide +kernel) rfl
theorem tw_213 : Cond.code yX2_sumWith cX2_sumWith 2 (some .int) ∈ lw_all := tb_mem 213 (by decide +kernel) rfl
theorem mw_X2_sumWith : MVw yX2_sumWith cX2_sumWith 2 (some .int) 1 := ⟨tw_212, sp_4, tw_15, tw_213, by decide, by decide, by decide +kernel⟩
theorem tw_210 : Cond.methodLink "OptimisticStore$Operation" 32 (yX2_sumWith : MethodName) ∈ lw_all := tb_mem 210 (by decide +kernel) rfl
theorem tw_62 : Cond.methodLink "OptimisticStore$Script" 3 (⟨"java/lang/Object", "<init>", "()V"⟩ : MethodName) ∈ lw_all := tb_mem 62 (by decide +kernel) rfl
theorem tw_87 : Cond.arrayClass .char ∈ lw_all := tb_mem 87 (by decide +kernel) rfl
theorem tw_65 : Cond.fieldLink "OptimisticStore$Script" 9 "OptimisticStore$Script" "text" "[C" ∈ lw_all := tb_mem 65 (by decide +kernel) rfl
theorem tw_63 : Cond.classLink "OptimisticStore$Script" 15 "OptimisticStore$Operation" ∈ lw_all := tb_mem 63 (by decide +kernel) rfl
theorem tw_66 : Cond.fieldLink "OptimisticStore$Script" 17 "OptimisticStore$Script" "steps" "[LOptimisticStore$Operation;" ∈ lw_all := tb_mem 66 (by decide +kernel) rfl
theorem tw_72 : Cond.fieldLink "OptimisticStore$Script" 21 "OptimisticStore$Script" "fault" "I" ∈ lw_all := tb_mem 72 (by decide +kernel) rfl
theorem tw_68 : Cond.fieldLink "OptimisticStore$Script" 25 "OptimisticStore$Script" "length" "I" ∈ lw_all := tb_mem 68 (by decide +kernel) rfl
theorem tw_70 : Cond.fieldLink "OptimisticStore$Script" 28 "OptimisticStore$Script" "stepCount" "I" ∈ lw_all := tb_mem 70 (by decide +kernel) rfl
theorem tw_67 : Cond.fieldLink "OptimisticStore$Script" 31 "OptimisticStore$Script" "position" "I" ∈ lw_all := tb_mem 67 (by decide +kernel) rfl
theorem tw_926 : Cond.instanceMethod (yX3_current : MethodName) ∈ lw_all := tb_mem 926 (by decide +kernel) rfl
theorem sp_27 : Cond.selects "OptimisticStore$Script" yX3_current yX3_current ∈ lw_all := sp_mem 27 (by decide +kernel) rfl
theorem tw_4 : Cond.initialized "OptimisticStore$Script" ∈ lw_all := tb_mem 4 (by decide +kernel) rfl
theorem tw_927 : Cond.code yX3_current cX3_current 1 (some .char) ∈ lw_all := tb_mem 927 (by decide +kernel) rfl
theorem mw_X3_current : MVw yX3_current cX3_current 1 (some .char) 0 := ⟨tw_926, sp_27, tw_4, tw_927, by decide, by decide, by decide +kernel⟩
theorem tw_924 : Cond.methodLink "OptimisticStore$Script" 46 (yX3_current : MethodName) ∈ lw_all := tb_mem 924 (by decide +kernel) rfl
theorem tw_936 : Cond.static (yX3_isDigit : MethodName) ∈ lw_all := tb_mem 936 (by decide +kernel) rfl
theorem tw_937 : Cond.code yX3_isDigit cX3_isDigit 1 (some .boolean) ∈ lw_all := tb_mem 937 (by decide +kernel) rfl
theorem mw_X3_isDigit : MSw yX3_isDigit cX3_isDigit 1 (some .boolean) 1 := ⟨tw_936, tw_4, tw_937, by decide, by decide, by decide +kernel⟩
theorem tw_935 : Cond.methodLink "OptimisticStore$Script" 75 (yX3_isDigit : MethodName) ∈ lw_all := tb_mem 935 (by decide +kernel) rfl
theorem tw_176 : Cond.instantiable "OptimisticStore$Operation" 6 ∈ lw_all := tb_mem 176 (by decide +kernel) rfl
theorem tw_453 : Cond.instanceMethod (yX2_init : MethodName) ∈ lw_all := tb_mem 453 (by decide +kernel) rfl
theorem tw_454 : Cond.code yX2_init cX2_init 5 none ∈ lw_all := tb_mem 454 (by decide +kernel) rfl
theorem mw_X2_init : MIw yX2_init cX2_init 5 4 := ⟨tw_453, tw_15, tw_454, by decide, by decide, by decide +kernel, rfl⟩
theorem tw_950 : Cond.methodLink "OptimisticStore$Script" 68 (yX2_init : MethodName) ∈ lw_all := tb_mem 950 (by decide +kernel) rfl
theorem tw_944 : Cond.instanceMethod (yX3_pass : MethodName) ∈ lw_all := tb_mem 944 (by decide +kernel) rfl
theorem sp_30 : Cond.selects "OptimisticStore$Script" yX3_pass yX3_pass ∈ lw_all := sp_mem 30 (by decide +kernel) rfl
theorem tw_945 : Cond.code yX3_pass cX3_pass 2 (some .boolean) ∈ lw_all := tb_mem 945 (by decide +kernel) rfl
theorem mw_X3_pass : MVw yX3_pass cX3_pass 2 (some .boolean) 1 := ⟨tw_944, sp_30, tw_4, tw_945, by decide, by decide, by decide +kernel⟩
theorem tw_942 : Cond.methodLink "OptimisticStore$Script" 42 (yX3_pass : MethodName) ∈ lw_all := tb_mem 942 (by decide +kernel) rfl
theorem tw_948 : Cond.instanceMethod (yX3_parseDigits : MethodName) ∈ lw_all := tb_mem 948 (by decide +kernel) rfl
theorem sp_31 : Cond.selects "OptimisticStore$Script" yX3_parseDigits yX3_parseDigits ∈ lw_all := sp_mem 31 (by decide +kernel) rfl
theorem tw_949 : Cond.code yX3_parseDigits cX3_parseDigits 6 (some (.object "OptimisticStore$Operation")) ∈ lw_all := tb_mem 949 (by decide +kernel) rfl
theorem mw_X3_parseDigits : MVw yX3_parseDigits cX3_parseDigits 6 (some (.object "OptimisticStore$Operation")) 3 := ⟨tw_948, sp_31, tw_4, tw_949, by decide, by decide, by decide +kernel⟩
theorem tw_946 : Cond.methodLink "OptimisticStore$Script" 71 (yX3_parseDigits : MethodName) ∈ lw_all := tb_mem 946 (by decide +kernel) rfl
theorem tw_933 : Cond.instanceMethod (yX3_parseKey : MethodName) ∈ lw_all := tb_mem 933 (by decide +kernel) rfl
theorem sp_28 : Cond.selects "OptimisticStore$Script" yX3_parseKey yX3_parseKey ∈ lw_all := sp_mem 28 (by decide +kernel) rfl
theorem tw_934 : Cond.code yX3_parseKey cX3_parseKey 2 (some .int) ∈ lw_all := tb_mem 934 (by decide +kernel) rfl
theorem mw_X3_parseKey : MVw yX3_parseKey cX3_parseKey 2 (some .int) 0 := ⟨tw_933, sp_28, tw_4, tw_934, by decide, by decide, by decide +kernel⟩
theorem tw_931 : Cond.methodLink "OptimisticStore$Script" 54 (yX3_parseKey : MethodName) ∈ lw_all := tb_mem 931 (by decide +kernel) rfl
theorem tw_929 : Cond.static (yX3_kindOf : MethodName) ∈ lw_all := tb_mem 929 (by decide +kernel) rfl
theorem tw_930 : Cond.code yX3_kindOf cX3_kindOf 1 (some .int) ∈ lw_all := tb_mem 930 (by decide +kernel) rfl
theorem mw_X3_kindOf : MSw yX3_kindOf cX3_kindOf 1 (some .int) 1 := ⟨tw_929, tw_4, tw_930, by decide, by decide, by decide +kernel⟩
theorem tw_928 : Cond.methodLink "OptimisticStore$Script" 50 (yX3_kindOf : MethodName) ∈ lw_all := tb_mem 928 (by decide +kernel) rfl
theorem tw_957 : Cond.instanceMethod (yX3_parseSum : MethodName) ∈ lw_all := tb_mem 957 (by decide +kernel) rfl
theorem sp_33 : Cond.selects "OptimisticStore$Script" yX3_parseSum yX3_parseSum ∈ lw_all := sp_mem 33 (by decide +kernel) rfl
theorem tw_958 : Cond.code yX3_parseSum cX3_parseSum 3 (some (.object "OptimisticStore$Operation")) ∈ lw_all := tb_mem 958 (by decide +kernel) rfl
theorem mw_X3_parseSum : MVw yX3_parseSum cX3_parseSum 3 (some (.object "OptimisticStore$Operation")) 1 := ⟨tw_957, sp_33, tw_4, tw_958, by decide, by decide, by decide +kernel⟩
theorem tw_955 : Cond.methodLink "OptimisticStore$Script" 65 (yX3_parseSum : MethodName) ∈ lw_all := tb_mem 955 (by decide +kernel) rfl
theorem tw_940 : Cond.instanceMethod (yX3_parseWrite : MethodName) ∈ lw_all := tb_mem 940 (by decide +kernel) rfl
theorem sp_29 : Cond.selects "OptimisticStore$Script" yX3_parseWrite yX3_parseWrite ∈ lw_all := sp_mem 29 (by decide +kernel) rfl
theorem tw_941 : Cond.code yX3_parseWrite cX3_parseWrite 3 (some (.object "OptimisticStore$Operation")) ∈ lw_all := tb_mem 941 (by decide +kernel) rfl
theorem mw_X3_parseWrite : MVw yX3_parseWrite cX3_parseWrite 3 (some (.object "OptimisticStore$Operation")) 1 := ⟨tw_940, sp_29, tw_4, tw_941, by decide, by decide, by decide +kernel⟩
theorem tw_938 : Cond.methodLink "OptimisticStore$Script" 58 (yX3_parseWrite : MethodName) ∈ lw_all := tb_mem 938 (by decide +kernel) rfl
theorem tw_953 : Cond.instanceMethod (yX3_parseAdd : MethodName) ∈ lw_all := tb_mem 953 (by decide +kernel) rfl
theorem sp_32 : Cond.selects "OptimisticStore$Script" yX3_parseAdd yX3_parseAdd ∈ lw_all := sp_mem 32 (by decide +kernel) rfl
theorem tw_954 : Cond.code yX3_parseAdd cX3_parseAdd 3 (some (.object "OptimisticStore$Operation")) ∈ lw_all := tb_mem 954 (by decide +kernel) rfl
theorem mw_X3_parseAdd : MVw yX3_parseAdd cX3_parseAdd 3 (some (.object "OptimisticStore$Operation")) 1 := ⟨tw_953, sp_32, tw_4, tw_954, by decide, by decide, by decide +kernel⟩
theorem tw_951 : Cond.methodLink "OptimisticStore$Script" 62 (yX3_parseAdd : MethodName) ∈ lw_all := tb_mem 951 (by decide +kernel) rfl
theorem tw_922 : Cond.instanceMethod (yX3_parseStep : MethodName) ∈ lw_all := tb_mem 922 (by decide +kernel) rfl
theorem sp_26 : Cond.selects "OptimisticStore$Script" yX3_parseStep yX3_parseStep ∈ lw_all := sp_mem 26 (by decide +kernel) rfl
theorem tw_923 : Cond.code yX3_parseStep cX3_parseStep 3 (some (.object "OptimisticStore$Operation")) ∈ lw_all := tb_mem 923 (by decide +kernel) rfl
theorem mw_X3_parseStep : MVw yX3_parseStep cX3_parseStep 3 (some (.object "OptimisticStore$Operation")) 0 := ⟨tw_922, sp_26, tw_4, tw_923, by decide, by decide, by decide +kernel⟩
theorem tw_920 : Cond.methodLink "OptimisticStore$Script" 38 (yX3_parseStep : MethodName) ∈ lw_all := tb_mem 920 (by decide +kernel) rfl
theorem tw_918 : Cond.instanceMethod (yX3_parseSteps : MethodName) ∈ lw_all := tb_mem 918 (by decide +kernel) rfl
theorem sp_25 : Cond.selects "OptimisticStore$Script" yX3_parseSteps yX3_parseSteps ∈ lw_all := sp_mem 25 (by decide +kernel) rfl
theorem tw_919 : Cond.code yX3_parseSteps cX3_parseSteps 3 (some .boolean) ∈ lw_all := tb_mem 919 (by decide +kernel) rfl
theorem mw_X3_parseSteps : MVw yX3_parseSteps cX3_parseSteps 3 (some .boolean) 0 := ⟨tw_918, sp_25, tw_4, tw_919, by decide, by decide, by decide +kernel⟩
theorem tw_916 : Cond.methodLink "OptimisticStore$Script" 34 (yX3_parseSteps : MethodName) ∈ lw_all := tb_mem 916 (by decide +kernel) rfl
theorem tw_341 : Cond.methodLink "OptimisticStore$Transaction" 3 (⟨"java/lang/Object", "<init>", "()V"⟩ : MethodName) ∈ lw_all := tb_mem 341 (by decide +kernel) rfl
theorem tw_343 : Cond.fieldLink "OptimisticStore$Transaction" 9 "OptimisticStore$Transaction" "number" "I" ∈ lw_all := tb_mem 343 (by decide +kernel) rfl
theorem tw_345 : Cond.fieldLink "OptimisticStore$Transaction" 15 "OptimisticStore$Transaction" "attemptNumber" "I" ∈ lw_all := tb_mem 345 (by decide +kernel) rfl
theorem tw_342 : Cond.classLink "OptimisticStore$Transaction" 18 "OptimisticStore$Operation" ∈ lw_all := tb_mem 342 (by decide +kernel) rfl
theorem tw_349 : Cond.fieldLink "OptimisticStore$Transaction" 24 "OptimisticStore$Transaction" "recordedAt" "[I" ∈ lw_all := tb_mem 349 (by decide +kernel) rfl
theorem tw_461 : Cond.fieldLink "OptimisticStore$Transaction" 43 "OptimisticStore$Operation" "madeAt" "I" ∈ lw_all := tb_mem 461 (by decide +kernel) rfl
theorem tw_463 : Cond.fieldLink "OptimisticStore$Transaction" 46 "OptimisticStore$Operation" "result" "I" ∈ lw_all := tb_mem 463 (by decide +kernel) rfl
theorem tw_458 : Cond.fieldLink "OptimisticStore$Transaction" 49 "OptimisticStore$Operation" "low" "I" ∈ lw_all := tb_mem 458 (by decide +kernel) rfl
theorem tw_538 : Cond.instanceMethod (yX2_makesRead : MethodName) ∈ lw_all := tb_mem 538 (by decide +kernel) rfl
theorem tw_539 : Cond.selects "OptimisticStore$Operation" (yX2_makesRead : MethodName) (yX2_makesRead : MethodName) ∈ lw_all := tb_mem 539 (by decide +kernel) rfl
theorem tw_540 : Cond.code yX2_makesRead cX2_makesRead 1 (some .boolean) ∈ lw_all := tb_mem 540 (by decide +kernel) rfl
theorem mw_X2_makesRead : MVw yX2_makesRead cX2_makesRead 1 (some .boolean) 0 := ⟨tw_538, tw_539, tw_15, tw_540, by decide, by decide, by decide +kernel⟩
theorem tw_537 : Cond.methodLink "OptimisticStore$Transaction" 52 (yX2_makesRead : MethodName) ∈ lw_all := tb_mem 537 (by decide +kernel) rfl
theorem tw_541 : Cond.methodLink "OptimisticStore$Transaction" 56 (yX4_hasRecorded : MethodName) ∈ lw_all := tb_mem 541 (by decide +kernel) rfl
theorem tw_546 : Cond.instanceMethod (yX2_makesWrite : MethodName) ∈ lw_all := tb_mem 546 (by decide +kernel) rfl
theorem tw_547 : Cond.selects "OptimisticStore$Operation" (yX2_makesWrite : MethodName) (yX2_makesWrite : MethodName) ∈ lw_all := tb_mem 547 (by decide +kernel) rfl
theorem tw_548 : Cond.code yX2_makesWrite cX2_makesWrite 1 (some .boolean) ∈ lw_all := tb_mem 548 (by decide +kernel) rfl
theorem mw_X2_makesWrite : MVw yX2_makesWrite cX2_makesWrite 1 (some .boolean) 0 := ⟨tw_546, tw_547, tw_15, tw_548, by decide, by decide, by decide +kernel⟩
theorem tw_545 : Cond.methodLink "OptimisticStore$Transaction" 63 (yX2_makesWrite : MethodName) ∈ lw_all := tb_mem 545 (by decide +kernel) rfl
theorem tw_756 : Cond.methodLink "OptimisticStore$Transaction" 66 (yX2_isPredicate : MethodName) ∈ lw_all := tb_mem 756 (by decide +kernel) rfl
theorem tw_201 : Cond.instanceMethod (yX2_carryOut : MethodName) ∈ lw_all := tb_mem 201 (by decide +kernel) rfl
theorem tw_202 : Cond.selects "OptimisticStore$Operation" (yX2_carryOut : MethodName) (yX2_carryOut : MethodName) ∈ lw_all := tb_mem 202 (by decide +kernel) rfl
theorem tw_203 : Cond.code yX2_carryOut cX2_carryOut 2 (some .int) ∈ lw_all := tb_mem 203 (by decide +kernel) rfl
theorem mw_X2_carryOut : MVw yX2_carryOut cX2_carryOut 2 (some .int) 1 := ⟨tw_201, tw_202, tw_15, tw_203, by decide, by decide, by decide +kernel⟩
theorem tw_200 : Cond.methodLink "OptimisticStore$Transaction" 73 (yX2_carryOut : MethodName) ∈ lw_all := tb_mem 200 (by decide +kernel) rfl
theorem tw_26 : Cond.methodLink "OptimisticStore" 1 (⟨"java/lang/Object", "<init>", "()V"⟩ : MethodName) ∈ lw_all := tb_mem 26 (by decide +kernel) rfl
theorem tw_29 : Cond.classLink "OptimisticStore" 7 "OptimisticStore$History" ∈ lw_all := tb_mem 29 (by decide +kernel) rfl
theorem tw_30 : Cond.instantiable "OptimisticStore$History" 3 ∈ lw_all := tb_mem 30 (by decide +kernel) rfl
theorem tw_32 : Cond.instanceMethod (yX1_init : MethodName) ∈ lw_all := tb_mem 32 (by decide +kernel) rfl
theorem tw_33 : Cond.code yX1_init cX1_init 1 none ∈ lw_all := tb_mem 33 (by decide +kernel) rfl
theorem mw_X1_init : MIw yX1_init cX1_init 1 0 := ⟨tw_32, tw_2, tw_33, by decide, by decide, by decide +kernel, rfl⟩
theorem tw_31 : Cond.methodLink "OptimisticStore" 9 (yX1_init : MethodName) ∈ lw_all := tb_mem 31 (by decide +kernel) rfl
theorem tw_88 : Cond.fieldLink "OptimisticStore" 10 "OptimisticStore" "history" "LOptimisticStore$History;" ∈ lw_all := tb_mem 88 (by decide +kernel) rfl
theorem tw_54 : Cond.classLink "OptimisticStore" 16 "OptimisticStore$Transaction" ∈ lw_all := tb_mem 54 (by decide +kernel) rfl
theorem tw_89 : Cond.fieldLink "OptimisticStore" 18 "OptimisticStore" "transactions" "[LOptimisticStore$Transaction;" ∈ lw_all := tb_mem 89 (by decide +kernel) rfl
theorem tw_55 : Cond.classLink "OptimisticStore" 22 "OptimisticStore$Constraint" ∈ lw_all := tb_mem 55 (by decide +kernel) rfl
theorem tw_90 : Cond.fieldLink "OptimisticStore" 24 "OptimisticStore" "constraints" "[LOptimisticStore$Constraint;" ∈ lw_all := tb_mem 90 (by decide +kernel) rfl
theorem tw_57 : Cond.classLink "OptimisticStore" 28 "OptimisticStore$Script" ∈ lw_all := tb_mem 57 (by decide +kernel) rfl
theorem tw_58 : Cond.instantiable "OptimisticStore$Script" 6 ∈ lw_all := tb_mem 58 (by decide +kernel) rfl
theorem tw_60 : Cond.instanceMethod (yX3_init : MethodName) ∈ lw_all := tb_mem 60 (by decide +kernel) rfl
theorem tw_61 : Cond.code yX3_init cX3_init 1 none ∈ lw_all := tb_mem 61 (by decide +kernel) rfl
theorem mw_X3_init : MIw yX3_init cX3_init 1 0 := ⟨tw_60, tw_4, tw_61, by decide, by decide, by decide +kernel, rfl⟩
theorem tw_59 : Cond.methodLink "OptimisticStore" 30 (yX3_init : MethodName) ∈ lw_all := tb_mem 59 (by decide +kernel) rfl
theorem tw_91 : Cond.fieldLink "OptimisticStore" 31 "OptimisticStore" "script" "LOptimisticStore$Script;" ∈ lw_all := tb_mem 91 (by decide +kernel) rfl
theorem tw_92 : Cond.fieldLink "OptimisticStore" 35 "OptimisticStore" "viewRow" "[I" ∈ lw_all := tb_mem 92 (by decide +kernel) rfl
theorem tw_93 : Cond.fieldLink "OptimisticStore" 39 "OptimisticStore" "chainRow" "[I" ∈ lw_all := tb_mem 93 (by decide +kernel) rfl
theorem tw_96 : Cond.fieldLink "OptimisticStore" 42 "OptimisticStore" "policy" "I" ∈ lw_all := tb_mem 96 (by decide +kernel) rfl
theorem tw_97 : Cond.fieldLink "OptimisticStore" 46 "OptimisticStore" "victimRule" "I" ∈ lw_all := tb_mem 97 (by decide +kernel) rfl
theorem tw_98 : Cond.fieldLink "OptimisticStore" 49 "OptimisticStore" "patience" "I" ∈ lw_all := tb_mem 98 (by decide +kernel) rfl
theorem tw_99 : Cond.fieldLink "OptimisticStore" 52 "OptimisticStore" "holder" "I" ∈ lw_all := tb_mem 99 (by decide +kernel) rfl
theorem tw_94 : Cond.fieldLink "OptimisticStore" 131 "OptimisticStore" "begun" "I" ∈ lw_all := tb_mem 94 (by decide +kernel) rfl
theorem tw_363 : Cond.fieldLink "OptimisticStore" 91 "OptimisticStore$Transaction" "state" "I" ∈ lw_all := tb_mem 363 (by decide +kernel) rfl
theorem tw_231 : Cond.methodLink "OptimisticStore" 55 (yX5_isBetween : MethodName) ∈ lw_all := tb_mem 231 (by decide +kernel) rfl
theorem tw_139 : Cond.instanceMethod (yX5_countInState : MethodName) ∈ lw_all := tb_mem 139 (by decide +kernel) rfl
theorem sp_0 : Cond.selects "OptimisticStore" yX5_countInState yX5_countInState ∈ lw_all := sp_mem 0 (by decide +kernel) rfl
theorem tw_140 : Cond.code yX5_countInState cX5_countInState 5 (some .int) ∈ lw_all := tb_mem 140 (by decide +kernel) rfl
theorem mw_X5_countInState : MVw yX5_countInState cX5_countInState 5 (some .int) 1 := ⟨tw_139, sp_0, tw_1, tw_140, by decide, by decide, by decide +kernel⟩
theorem tw_137 : Cond.methodLink "OptimisticStore" 66 (yX5_countInState : MethodName) ∈ lw_all := tb_mem 137 (by decide +kernel) rfl
theorem thx_1 : (∀ w ∈ (vx_atS "OptimisticStore" 74 "java/lang/IllegalStateException" xnames).filter goodWord, w ∈ lw_all) ∧ (∀ w ∈ (vx_atS "OptimisticStore" 74 "java/lang/IllegalStateException" xnames).filter (fun w => !goodWord w), w ∈ odd) ∧ (∀ w ∈ Cond.classLink "OptimisticStore" 70 "java/lang/IllegalStateException" :: Cond.initialized "java/lang/IllegalStateException" :: vx_atS "OptimisticStore" 74 "java/lang/IllegalStateException" xnames, vx_ot w = true) := ⟨by decide +kernel, by decide +kernel, by decide +kernel⟩
theorem tw_305 : Cond.classLink "OptimisticStore" 70 "java/lang/IllegalStateException" ∈ lw_all := tb_mem 305 (by decide +kernel) rfl
theorem tw_10 : Cond.initialized "java/lang/IllegalStateException" ∈ lw_all := tb_mem 10 (by decide +kernel) rfl
theorem th_0 : THw "OptimisticStore" 70 72 74 "java/lang/IllegalStateException" "a transaction is active" := ⟨by decide, by decide, tw_305, tw_10, by decide, thx_1⟩
theorem thx_3 : (∀ w ∈ (vx_atS "OptimisticStore" 63 "java/lang/IllegalArgumentException" xnames).filter goodWord, w ∈ lw_all) ∧ (∀ w ∈ (vx_atS "OptimisticStore" 63 "java/lang/IllegalArgumentException" xnames).filter (fun w => !goodWord w), w ∈ odd) ∧ (∀ w ∈ Cond.classLink "OptimisticStore" 59 "java/lang/IllegalArgumentException" :: Cond.initialized "java/lang/IllegalArgumentException" :: vx_atS "OptimisticStore" 63 "java/lang/IllegalArgumentException" xnames, vx_ot w = true) := ⟨by decide +kernel, by decide +kernel, by decide +kernel⟩
theorem tw_234 : Cond.classLink "OptimisticStore" 59 "java/lang/IllegalArgumentException" ∈ lw_all := tb_mem 234 (by decide +kernel) rfl
theorem tw_9 : Cond.initialized "java/lang/IllegalArgumentException" ∈ lw_all := tb_mem 9 (by decide +kernel) rfl
theorem th_2 : THw "OptimisticStore" 59 61 63 "java/lang/IllegalArgumentException" "policy, victim rule or patience is out of range" := ⟨by decide, by decide, tw_234, tw_9, by decide, thx_3⟩
theorem tw_337 : Cond.instantiable "OptimisticStore$Transaction" 12 ∈ lw_all := tb_mem 337 (by decide +kernel) rfl
theorem tw_339 : Cond.instanceMethod (yX4_init : MethodName) ∈ lw_all := tb_mem 339 (by decide +kernel) rfl
theorem tw_340 : Cond.code yX4_init cX4_init 3 none ∈ lw_all := tb_mem 340 (by decide +kernel) rfl
theorem mw_X4_init : MIw yX4_init cX4_init 3 2 := ⟨tw_339, tw_11, tw_340, by decide, by decide, by decide +kernel, rfl⟩
theorem tw_338 : Cond.methodLink "OptimisticStore" 274 (yX4_init : MethodName) ∈ lw_all := tb_mem 338 (by decide +kernel) rfl
theorem tw_344 : Cond.fieldLink "OptimisticStore" 85 "OptimisticStore$Transaction" "number" "I" ∈ lw_all := tb_mem 344 (by decide +kernel) rfl
theorem tw_330 : Cond.instanceMethod (yX5_canStart : MethodName) ∈ lw_all := tb_mem 330 (by decide +kernel) rfl
theorem sp_6 : Cond.selects "OptimisticStore" yX5_canStart yX5_canStart ∈ lw_all := sp_mem 6 (by decide +kernel) rfl
theorem tw_331 : Cond.code yX5_canStart cX5_canStart 1 (some .boolean) ∈ lw_all := tb_mem 331 (by decide +kernel) rfl
theorem mw_X5_canStart : MVw yX5_canStart cX5_canStart 1 (some .boolean) 0 := ⟨tw_330, sp_6, tw_1, tw_331, by decide, by decide, by decide +kernel⟩
theorem tw_328 : Cond.methodLink "OptimisticStore" 75 (yX5_canStart : MethodName) ∈ lw_all := tb_mem 328 (by decide +kernel) rfl
theorem tw_335 : Cond.instanceMethod (yX5_start : MethodName) ∈ lw_all := tb_mem 335 (by decide +kernel) rfl
theorem sp_7 : Cond.selects "OptimisticStore" yX5_start yX5_start ∈ lw_all := sp_mem 7 (by decide +kernel) rfl
theorem tw_336 : Cond.code yX5_start cX5_start 3 (some (.object "OptimisticStore$Transaction")) ∈ lw_all := tb_mem 336 (by decide +kernel) rfl
theorem mw_X5_start : MVw yX5_start cX5_start 3 (some (.object "OptimisticStore$Transaction")) 1 := ⟨tw_335, sp_7, tw_1, tw_336, by decide, by decide, by decide +kernel⟩
theorem tw_333 : Cond.methodLink "OptimisticStore" 81 (yX5_start : MethodName) ∈ lw_all := tb_mem 333 (by decide +kernel) rfl
theorem th_4 : THw "OptimisticStore" 70 79 74 "java/lang/IllegalStateException" "no further transaction can begin" := ⟨by decide, by decide, tw_305, tw_10, by decide, thx_1⟩
theorem thx_6 : (∀ w ∈ (vx_atS "OptimisticStore" 269 "java/lang/IndexOutOfBoundsException" xnames).filter goodWord, w ∈ lw_all) ∧ (∀ w ∈ (vx_atS "OptimisticStore" 269 "java/lang/IndexOutOfBoundsException" xnames).filter (fun w => !goodWord w), w ∈ odd) ∧ (∀ w ∈ Cond.classLink "OptimisticStore" 265 "java/lang/IndexOutOfBoundsException" :: Cond.initialized "java/lang/IndexOutOfBoundsException" :: vx_atS "OptimisticStore" 269 "java/lang/IndexOutOfBoundsException" xnames, vx_ot w = true) := ⟨by decide +kernel, by decide +kernel, by decide +kernel⟩
theorem tw_430 : Cond.classLink "OptimisticStore" 265 "java/lang/IndexOutOfBoundsException" ∈ lw_all := tb_mem 430 (by decide +kernel) rfl
theorem tw_12 : Cond.initialized "java/lang/IndexOutOfBoundsException" ∈ lw_all := tb_mem 12 (by decide +kernel) rfl
theorem th_5 : THw "OptimisticStore" 265 270 269 "java/lang/IndexOutOfBoundsException" "there is no such transaction" := ⟨by decide, by decide, tw_430, tw_12, by decide, thx_6⟩
theorem tw_428 : Cond.instanceMethod (yX5_find : MethodName) ∈ lw_all := tb_mem 428 (by decide +kernel) rfl
theorem sp_8 : Cond.selects "OptimisticStore" yX5_find yX5_find ∈ lw_all := sp_mem 8 (by decide +kernel) rfl
theorem tw_429 : Cond.code yX5_find cX5_find 3 (some (.object "OptimisticStore$Transaction")) ∈ lw_all := tb_mem 429 (by decide +kernel) rfl
theorem mw_X5_find : MVw yX5_find cX5_find 3 (some (.object "OptimisticStore$Transaction")) 1 := ⟨tw_428, sp_8, tw_1, tw_429, by decide, by decide, by decide +kernel⟩
theorem tw_426 : Cond.methodLink "OptimisticStore" 88 (yX5_find : MethodName) ∈ lw_all := tb_mem 426 (by decide +kernel) rfl
theorem tw_369 : Cond.fieldLink "OptimisticStore" 94 "OptimisticStore$Transaction" "retried" "Z" ∈ lw_all := tb_mem 369 (by decide +kernel) rfl
theorem tw_346 : Cond.fieldLink "OptimisticStore" 100 "OptimisticStore$Transaction" "attemptNumber" "I" ∈ lw_all := tb_mem 346 (by decide +kernel) rfl
theorem th_7 : THw "OptimisticStore" 70 98 74 "java/lang/IllegalStateException" "the transaction cannot be retried" := ⟨by decide, by decide, tw_305, tw_10, by decide, thx_1⟩
theorem tw_500 : Cond.instanceMethod (yX1_newest : MethodName) ∈ lw_all := tb_mem 500 (by decide +kernel) rfl
theorem tw_501 : Cond.selects "OptimisticStore$History" (yX1_newest : MethodName) (yX1_newest : MethodName) ∈ lw_all := tb_mem 501 (by decide +kernel) rfl
theorem tw_502 : Cond.code yX1_newest cX1_newest 1 (some (.array .int)) ∈ lw_all := tb_mem 502 (by decide +kernel) rfl
theorem mw_X1_newest : MVw yX1_newest cX1_newest 1 (some (.array .int)) 0 := ⟨tw_500, tw_501, tw_2, tw_502, by decide, by decide, by decide +kernel⟩
theorem tw_499 : Cond.methodLink "OptimisticStore" 172 (yX1_newest : MethodName) ∈ lw_all := tb_mem 499 (by decide +kernel) rfl
theorem tw_193 : Cond.methodLink "OptimisticStore" 201 (⟨"java/lang/System", "arraycopy", "(Ljava/lang/Object;ILjava/lang/Object;II)V"⟩ : MethodName) ∈ lw_all := tb_mem 193 (by decide +kernel) rfl
theorem tw_503 : Cond.methodLink "OptimisticStore" 307 (yX4_applyWrites : MethodName) ∈ lw_all := tb_mem 503 (by decide +kernel) rfl
theorem tw_497 : Cond.instanceMethod (yX5_viewOf : MethodName) ∈ lw_all := tb_mem 497 (by decide +kernel) rfl
theorem sp_10 : Cond.selects "OptimisticStore" yX5_viewOf yX5_viewOf ∈ lw_all := sp_mem 10 (by decide +kernel) rfl
theorem tw_498 : Cond.code yX5_viewOf cX5_viewOf 2 (some (.array .int)) ∈ lw_all := tb_mem 498 (by decide +kernel) rfl
theorem mw_X5_viewOf : MVw yX5_viewOf cX5_viewOf 2 (some (.array .int)) 1 := ⟨tw_497, sp_10, tw_1, tw_498, by decide, by decide, by decide +kernel⟩
theorem tw_495 : Cond.methodLink "OptimisticStore" 286 (yX5_viewOf : MethodName) ∈ lw_all := tb_mem 495 (by decide +kernel) rfl
theorem tw_532 : Cond.methodLink "OptimisticStore" 299 (yX2_carryOut : MethodName) ∈ lw_all := tb_mem 532 (by decide +kernel) rfl
theorem tw_45 : Cond.fieldLink "OptimisticStore" 128 "OptimisticStore$History" "latest" "I" ∈ lw_all := tb_mem 45 (by decide +kernel) rfl
theorem tw_534 : Cond.instanceMethod (yX4_keep : MethodName) ∈ lw_all := tb_mem 534 (by decide +kernel) rfl
theorem tw_535 : Cond.selects "OptimisticStore$Transaction" (yX4_keep : MethodName) (yX4_keep : MethodName) ∈ lw_all := tb_mem 535 (by decide +kernel) rfl
theorem tw_536 : Cond.code yX4_keep cX4_keep 5 none ∈ lw_all := tb_mem 536 (by decide +kernel) rfl
theorem mw_X4_keep : MVw yX4_keep cX4_keep 5 none 3 := ⟨tw_534, tw_535, tw_11, tw_536, by decide, by decide, by decide +kernel⟩
theorem tw_533 : Cond.methodLink "OptimisticStore" 303 (yX4_keep : MethodName) ∈ lw_all := tb_mem 533 (by decide +kernel) rfl
theorem tw_482 : Cond.instanceMethod (yX2_isWellFormed : MethodName) ∈ lw_all := tb_mem 482 (by decide +kernel) rfl
theorem tw_483 : Cond.selects "OptimisticStore$Operation" (yX2_isWellFormed : MethodName) (yX2_isWellFormed : MethodName) ∈ lw_all := tb_mem 483 (by decide +kernel) rfl
theorem tw_484 : Cond.code yX2_isWellFormed cX2_isWellFormed 1 (some .boolean) ∈ lw_all := tb_mem 484 (by decide +kernel) rfl
theorem mw_X2_isWellFormed : MVw yX2_isWellFormed cX2_isWellFormed 1 (some .boolean) 0 := ⟨tw_482, tw_483, tw_15, tw_484, by decide, by decide, by decide +kernel⟩
theorem tw_481 : Cond.methodLink "OptimisticStore" 276 (yX2_isWellFormed : MethodName) ∈ lw_all := tb_mem 481 (by decide +kernel) rfl
theorem tw_491 : Cond.instanceMethod (yX4_canOperate : MethodName) ∈ lw_all := tb_mem 491 (by decide +kernel) rfl
theorem tw_492 : Cond.selects "OptimisticStore$Transaction" (yX4_canOperate : MethodName) (yX4_canOperate : MethodName) ∈ lw_all := tb_mem 492 (by decide +kernel) rfl
theorem tw_493 : Cond.code yX4_canOperate cX4_canOperate 1 (some .boolean) ∈ lw_all := tb_mem 493 (by decide +kernel) rfl
theorem mw_X4_canOperate : MVw yX4_canOperate cX4_canOperate 1 (some .boolean) 0 := ⟨tw_491, tw_492, tw_11, tw_493, by decide, by decide, by decide +kernel⟩
theorem tw_490 : Cond.methodLink "OptimisticStore" 281 (yX4_canOperate : MethodName) ∈ lw_all := tb_mem 490 (by decide +kernel) rfl
theorem tw_509 : Cond.instanceMethod (yX2_staysInRange : MethodName) ∈ lw_all := tb_mem 509 (by decide +kernel) rfl
theorem tw_510 : Cond.selects "OptimisticStore$Operation" (yX2_staysInRange : MethodName) (yX2_staysInRange : MethodName) ∈ lw_all := tb_mem 510 (by decide +kernel) rfl
theorem tw_511 : Cond.code yX2_staysInRange cX2_staysInRange 2 (some .boolean) ∈ lw_all := tb_mem 511 (by decide +kernel) rfl
theorem mw_X2_staysInRange : MVw yX2_staysInRange cX2_staysInRange 2 (some .boolean) 1 := ⟨tw_509, tw_510, tw_15, tw_511, by decide, by decide, by decide +kernel⟩
theorem tw_508 : Cond.methodLink "OptimisticStore" 290 (yX2_staysInRange : MethodName) ∈ lw_all := tb_mem 508 (by decide +kernel) rfl
theorem tw_530 : Cond.instanceMethod (yX5_perform : MethodName) ∈ lw_all := tb_mem 530 (by decide +kernel) rfl
theorem sp_11 : Cond.selects "OptimisticStore" yX5_perform yX5_perform ∈ lw_all := sp_mem 11 (by decide +kernel) rfl
theorem tw_531 : Cond.code yX5_perform cX5_perform 4 (some .int) ∈ lw_all := tb_mem 531 (by decide +kernel) rfl
theorem mw_X5_perform : MVw yX5_perform cX5_perform 4 (some .int) 2 := ⟨tw_530, sp_11, tw_1, tw_531, by decide, by decide, by decide +kernel⟩
theorem tw_528 : Cond.methodLink "OptimisticStore" 295 (yX5_perform : MethodName) ∈ lw_all := tb_mem 528 (by decide +kernel) rfl
theorem thx_9 : (∀ w ∈ (vx_atS "OptimisticStore" 235 "java/lang/ArithmeticException" xnames).filter goodWord, w ∈ lw_all) ∧ (∀ w ∈ (vx_atS "OptimisticStore" 235 "java/lang/ArithmeticException" xnames).filter (fun w => !goodWord w), w ∈ odd) ∧ (∀ w ∈ Cond.classLink "OptimisticStore" 231 "java/lang/ArithmeticException" :: Cond.initialized "java/lang/ArithmeticException" :: vx_atS "OptimisticStore" 235 "java/lang/ArithmeticException" xnames, vx_ot w = true) := ⟨by decide +kernel, by decide +kernel, by decide +kernel⟩
theorem tw_512 : Cond.classLink "OptimisticStore" 231 "java/lang/ArithmeticException" ∈ lw_all := tb_mem 512 (by decide +kernel) rfl
theorem tw_17 : Cond.initialized "java/lang/ArithmeticException" ∈ lw_all := tb_mem 17 (by decide +kernel) rfl
theorem th_8 : THw "OptimisticStore" 231 293 235 "java/lang/ArithmeticException" "the new value would be out of range" := ⟨by decide, by decide, tw_512, tw_17, by decide, thx_9⟩
theorem th_10 : THw "OptimisticStore" 70 284 74 "java/lang/IllegalStateException" "the transaction cannot make an operation" := ⟨by decide, by decide, tw_305, tw_10, by decide, thx_1⟩
theorem th_11 : THw "OptimisticStore" 59 279 63 "java/lang/IllegalArgumentException" "a number is out of range" := ⟨by decide, by decide, tw_234, tw_9, by decide, thx_3⟩
theorem tw_451 : Cond.classLink "OptimisticStore" 103 "OptimisticStore$Operation" ∈ lw_all := tb_mem 451 (by decide +kernel) rfl
theorem tw_452 : Cond.methodLink "OptimisticStore" 105 (yX2_init : MethodName) ∈ lw_all := tb_mem 452 (by decide +kernel) rfl
theorem tw_479 : Cond.instanceMethod (yX5_operate : MethodName) ∈ lw_all := tb_mem 479 (by decide +kernel) rfl
theorem sp_9 : Cond.selects "OptimisticStore" yX5_operate yX5_operate ∈ lw_all := sp_mem 9 (by decide +kernel) rfl
theorem tw_480 : Cond.code yX5_operate cX5_operate 4 (some .int) ∈ lw_all := tb_mem 480 (by decide +kernel) rfl
theorem mw_X5_operate : MVw yX5_operate cX5_operate 4 (some .int) 2 := ⟨tw_479, sp_9, tw_1, tw_480, by decide, by decide, by decide +kernel⟩
theorem tw_477 : Cond.methodLink "OptimisticStore" 108 (yX5_operate : MethodName) ∈ lw_all := tb_mem 477 (by decide +kernel) rfl
theorem tw_609 : Cond.methodLink "OptimisticStore" 337 (yX4_isHitBy : MethodName) ∈ lw_all := tb_mem 609 (by decide +kernel) rfl
theorem tw_607 : Cond.instanceMethod (yX5_isRival : MethodName) ∈ lw_all := tb_mem 607 (by decide +kernel) rfl
theorem sp_14 : Cond.selects "OptimisticStore" yX5_isRival yX5_isRival ∈ lw_all := sp_mem 14 (by decide +kernel) rfl
theorem tw_608 : Cond.code yX5_isRival cX5_isRival 3 (some .boolean) ∈ lw_all := tb_mem 608 (by decide +kernel) rfl
theorem mw_X5_isRival : MVw yX5_isRival cX5_isRival 3 (some .boolean) 2 := ⟨tw_607, sp_14, tw_1, tw_608, by decide, by decide, by decide +kernel⟩
theorem tw_605 : Cond.methodLink "OptimisticStore" 327 (yX5_isRival : MethodName) ∈ lw_all := tb_mem 605 (by decide +kernel) rfl
theorem tw_355 : Cond.fieldLink "OptimisticStore" 149 "OptimisticStore$Transaction" "operationsMade" "I" ∈ lw_all := tb_mem 355 (by decide +kernel) rfl
theorem tw_95 : Cond.fieldLink "OptimisticStore" 221 "OptimisticStore" "constraintCount" "I" ∈ lw_all := tb_mem 95 (by decide +kernel) rfl
theorem tw_637 : Cond.instanceMethod (yX0_isViolatedBy : MethodName) ∈ lw_all := tb_mem 637 (by decide +kernel) rfl
theorem tw_638 : Cond.selects "OptimisticStore$Constraint" (yX0_isViolatedBy : MethodName) (yX0_isViolatedBy : MethodName) ∈ lw_all := tb_mem 638 (by decide +kernel) rfl
theorem tw_20 : Cond.initialized "OptimisticStore$Constraint" ∈ lw_all := tb_mem 20 (by decide +kernel) rfl
theorem tw_639 : Cond.code yX0_isViolatedBy cX0_isViolatedBy 3 (some .boolean) ∈ lw_all := tb_mem 639 (by decide +kernel) rfl
theorem mw_X0_isViolatedBy : MVw yX0_isViolatedBy cX0_isViolatedBy 3 (some .boolean) 1 := ⟨tw_637, tw_638, tw_20, tw_639, by decide, by decide, by decide +kernel⟩
theorem tw_636 : Cond.methodLink "OptimisticStore" 224 (yX0_isViolatedBy : MethodName) ∈ lw_all := tb_mem 636 (by decide +kernel) rfl
theorem tw_630 : Cond.instanceMethod (yX5_losesToRivals : MethodName) ∈ lw_all := tb_mem 630 (by decide +kernel) rfl
theorem sp_17 : Cond.selects "OptimisticStore" yX5_losesToRivals yX5_losesToRivals ∈ lw_all := sp_mem 17 (by decide +kernel) rfl
theorem tw_631 : Cond.code yX5_losesToRivals cX5_losesToRivals 5 (some .boolean) ∈ lw_all := tb_mem 631 (by decide +kernel) rfl
theorem mw_X5_losesToRivals : MVw yX5_losesToRivals cX5_losesToRivals 5 (some .boolean) 1 := ⟨tw_630, sp_17, tw_1, tw_631, by decide, by decide, by decide +kernel⟩
theorem tw_628 : Cond.methodLink "OptimisticStore" 331 (yX5_losesToRivals : MethodName) ∈ lw_all := tb_mem 628 (by decide +kernel) rfl
theorem tw_615 : Cond.instanceMethod (yX1_stalenessOf : MethodName) ∈ lw_all := tb_mem 615 (by decide +kernel) rfl
theorem tw_616 : Cond.selects "OptimisticStore$History" (yX1_stalenessOf : MethodName) (yX1_stalenessOf : MethodName) ∈ lw_all := tb_mem 616 (by decide +kernel) rfl
theorem tw_617 : Cond.code yX1_stalenessOf cX1_stalenessOf 3 (some .int) ∈ lw_all := tb_mem 617 (by decide +kernel) rfl
theorem mw_X1_stalenessOf : MVw yX1_stalenessOf cX1_stalenessOf 3 (some .int) 1 := ⟨tw_615, tw_616, tw_2, tw_617, by decide, by decide, by decide +kernel⟩
theorem tw_614 : Cond.methodLink "OptimisticStore" 162 (yX1_stalenessOf : MethodName) ∈ lw_all := tb_mem 614 (by decide +kernel) rfl
theorem tw_634 : Cond.instanceMethod (yX5_violatesConstraint : MethodName) ∈ lw_all := tb_mem 634 (by decide +kernel) rfl
theorem sp_18 : Cond.selects "OptimisticStore" yX5_violatesConstraint yX5_violatesConstraint ∈ lw_all := sp_mem 18 (by decide +kernel) rfl
theorem tw_635 : Cond.code yX5_violatesConstraint cX5_violatesConstraint 4 (some .boolean) ∈ lw_all := tb_mem 635 (by decide +kernel) rfl
theorem mw_X5_violatesConstraint : MVw yX5_violatesConstraint cX5_violatesConstraint 4 (some .boolean) 1 := ⟨tw_634, sp_18, tw_1, tw_635, by decide, by decide, by decide +kernel⟩
theorem tw_632 : Cond.methodLink "OptimisticStore" 334 (yX5_violatesConstraint : MethodName) ∈ lw_all := tb_mem 632 (by decide +kernel) rfl
theorem tw_646 : Cond.methodLink "OptimisticStore" 341 (yX4_becomeAborted : MethodName) ∈ lw_all := tb_mem 646 (by decide +kernel) rfl
theorem tw_652 : Cond.instanceMethod (yX5_releaseTicket : MethodName) ∈ lw_all := tb_mem 652 (by decide +kernel) rfl
theorem sp_20 : Cond.selects "OptimisticStore" yX5_releaseTicket yX5_releaseTicket ∈ lw_all := sp_mem 20 (by decide +kernel) rfl
theorem tw_653 : Cond.code yX5_releaseTicket cX5_releaseTicket 2 none ∈ lw_all := tb_mem 653 (by decide +kernel) rfl
theorem mw_X5_releaseTicket : MVw yX5_releaseTicket cX5_releaseTicket 2 none 1 := ⟨tw_652, sp_20, tw_1, tw_653, by decide, by decide, by decide +kernel⟩
theorem tw_650 : Cond.methodLink "OptimisticStore" 324 (yX5_releaseTicket : MethodName) ∈ lw_all := tb_mem 650 (by decide +kernel) rfl
theorem tw_644 : Cond.instanceMethod (yX5_endInAbort : MethodName) ∈ lw_all := tb_mem 644 (by decide +kernel) rfl
theorem sp_19 : Cond.selects "OptimisticStore" yX5_endInAbort yX5_endInAbort ∈ lw_all := sp_mem 19 (by decide +kernel) rfl
theorem tw_645 : Cond.code yX5_endInAbort cX5_endInAbort 3 none ∈ lw_all := tb_mem 645 (by decide +kernel) rfl
theorem mw_X5_endInAbort : MVw yX5_endInAbort cX5_endInAbort 3 none 2 := ⟨tw_644, sp_19, tw_1, tw_645, by decide, by decide, by decide +kernel⟩
theorem tw_642 : Cond.methodLink "OptimisticStore" 124 (yX5_endInAbort : MethodName) ∈ lw_all := tb_mem 642 (by decide +kernel) rfl
theorem tw_603 : Cond.instanceMethod (yX5_isBlocked : MethodName) ∈ lw_all := tb_mem 603 (by decide +kernel) rfl
theorem sp_13 : Cond.selects "OptimisticStore" yX5_isBlocked yX5_isBlocked ∈ lw_all := sp_mem 13 (by decide +kernel) rfl
theorem tw_604 : Cond.code yX5_isBlocked cX5_isBlocked 2 (some .boolean) ∈ lw_all := tb_mem 604 (by decide +kernel) rfl
theorem mw_X5_isBlocked : MVw yX5_isBlocked cX5_isBlocked 2 (some .boolean) 1 := ⟨tw_603, sp_13, tw_1, tw_604, by decide, by decide, by decide +kernel⟩
theorem tw_601 : Cond.methodLink "OptimisticStore" 311 (yX5_isBlocked : MethodName) ∈ lw_all := tb_mem 601 (by decide +kernel) rfl
theorem tw_612 : Cond.instanceMethod (yX5_reasonToAbort : MethodName) ∈ lw_all := tb_mem 612 (by decide +kernel) rfl
theorem sp_15 : Cond.selects "OptimisticStore" yX5_reasonToAbort yX5_reasonToAbort ∈ lw_all := sp_mem 15 (by decide +kernel) rfl
theorem tw_613 : Cond.code yX5_reasonToAbort cX5_reasonToAbort 3 (some .int) ∈ lw_all := tb_mem 613 (by decide +kernel) rfl
theorem mw_X5_reasonToAbort : MVw yX5_reasonToAbort cX5_reasonToAbort 3 (some .int) 1 := ⟨tw_612, sp_15, tw_1, tw_613, by decide, by decide, by decide +kernel⟩
theorem tw_610 : Cond.methodLink "OptimisticStore" 314 (yX5_reasonToAbort : MethodName) ∈ lw_all := tb_mem 610 (by decide +kernel) rfl
theorem tw_656 : Cond.instanceMethod (yX5_abortRivals : MethodName) ∈ lw_all := tb_mem 656 (by decide +kernel) rfl
theorem sp_21 : Cond.selects "OptimisticStore" yX5_abortRivals yX5_abortRivals ∈ lw_all := sp_mem 21 (by decide +kernel) rfl
theorem tw_657 : Cond.code yX5_abortRivals cX5_abortRivals 4 none ∈ lw_all := tb_mem 657 (by decide +kernel) rfl
theorem mw_X5_abortRivals : MVw yX5_abortRivals cX5_abortRivals 4 none 1 := ⟨tw_656, sp_21, tw_1, tw_657, by decide, by decide, by decide +kernel⟩
theorem tw_654 : Cond.methodLink "OptimisticStore" 317 (yX5_abortRivals : MethodName) ∈ lw_all := tb_mem 654 (by decide +kernel) rfl
theorem tw_659 : Cond.instanceMethod (yX1_append : MethodName) ∈ lw_all := tb_mem 659 (by decide +kernel) rfl
theorem tw_660 : Cond.selects "OptimisticStore$History" (yX1_append : MethodName) (yX1_append : MethodName) ∈ lw_all := tb_mem 660 (by decide +kernel) rfl
theorem tw_661 : Cond.code yX1_append cX1_append 2 none ∈ lw_all := tb_mem 661 (by decide +kernel) rfl
theorem mw_X1_append : MVw yX1_append cX1_append 2 none 1 := ⟨tw_659, tw_660, tw_2, tw_661, by decide, by decide, by decide +kernel⟩
theorem tw_658 : Cond.methodLink "OptimisticStore" 321 (yX1_append : MethodName) ∈ lw_all := tb_mem 658 (by decide +kernel) rfl
theorem tw_368 : Cond.fieldLink "OptimisticStore" 146 "OptimisticStore$Transaction" "commitNumber" "I" ∈ lw_all := tb_mem 368 (by decide +kernel) rfl
theorem tw_592 : Cond.methodLink "OptimisticStore" 112 (yX1_isFull : MethodName) ∈ lw_all := tb_mem 592 (by decide +kernel) rfl
theorem tw_599 : Cond.instanceMethod (yX5_tryToCommit : MethodName) ∈ lw_all := tb_mem 599 (by decide +kernel) rfl
theorem sp_12 : Cond.selects "OptimisticStore" yX5_tryToCommit yX5_tryToCommit ∈ lw_all := sp_mem 12 (by decide +kernel) rfl
theorem tw_600 : Cond.code yX5_tryToCommit cX5_tryToCommit 3 (some .int) ∈ lw_all := tb_mem 600 (by decide +kernel) rfl
theorem mw_X5_tryToCommit : MVw yX5_tryToCommit cX5_tryToCommit 3 (some .int) 1 := ⟨tw_599, sp_12, tw_1, tw_600, by decide, by decide, by decide +kernel⟩
theorem tw_597 : Cond.methodLink "OptimisticStore" 117 (yX5_tryToCommit : MethodName) ∈ lw_all := tb_mem 597 (by decide +kernel) rfl
theorem th_12 : THw "OptimisticStore" 70 115 74 "java/lang/IllegalStateException" "the transaction cannot be committed" := ⟨by decide, by decide, tw_305, tw_10, by decide, thx_1⟩
theorem th_13 : THw "OptimisticStore" 70 272 74 "java/lang/IllegalStateException" "the transaction is not active" := ⟨by decide, by decide, tw_305, tw_10, by decide, thx_1⟩
theorem tw_674 : Cond.instanceMethod (yX5_findActive : MethodName) ∈ lw_all := tb_mem 674 (by decide +kernel) rfl
theorem sp_22 : Cond.selects "OptimisticStore" yX5_findActive yX5_findActive ∈ lw_all := sp_mem 22 (by decide +kernel) rfl
theorem tw_675 : Cond.code yX5_findActive cX5_findActive 3 (some (.object "OptimisticStore$Transaction")) ∈ lw_all := tb_mem 675 (by decide +kernel) rfl
theorem mw_X5_findActive : MVw yX5_findActive cX5_findActive 3 (some (.object "OptimisticStore$Transaction")) 1 := ⟨tw_674, sp_22, tw_1, tw_675, by decide, by decide, by decide +kernel⟩
theorem tw_672 : Cond.methodLink "OptimisticStore" 121 (yX5_findActive : MethodName) ∈ lw_all := tb_mem 672 (by decide +kernel) rfl
theorem tw_685 : Cond.classLink "OptimisticStore" 134 "java/util/NoSuchElementException" ∈ lw_all := tb_mem 685 (by decide +kernel) rfl
theorem tw_18 : Cond.initialized "java/util/NoSuchElementException" ∈ lw_all := tb_mem 18 (by decide +kernel) rfl
theorem tw_366 : Cond.fieldLink "OptimisticStore" 141 "OptimisticStore$Transaction" "abortReason" "I" ∈ lw_all := tb_mem 366 (by decide +kernel) rfl
theorem th_16 : THw "OptimisticStore" 70 139 74 "java/lang/IllegalStateException" "the transaction is not aborted" := ⟨by decide, by decide, tw_305, tw_10, by decide, thx_1⟩
theorem th_17 : THw "OptimisticStore" 70 144 74 "java/lang/IllegalStateException" "the transaction is not committed" := ⟨by decide, by decide, tw_305, tw_10, by decide, thx_1⟩
theorem tw_358 : Cond.fieldLink "OptimisticStore" 152 "OptimisticStore$Transaction" "recorded" "I" ∈ lw_all := tb_mem 358 (by decide +kernel) rfl
theorem tw_753 : Cond.instanceMethod (yX4_countPredicates : MethodName) ∈ lw_all := tb_mem 753 (by decide +kernel) rfl
theorem tw_754 : Cond.selects "OptimisticStore$Transaction" (yX4_countPredicates : MethodName) (yX4_countPredicates : MethodName) ∈ lw_all := tb_mem 754 (by decide +kernel) rfl
theorem tw_755 : Cond.code yX4_countPredicates cX4_countPredicates 4 (some .int) ∈ lw_all := tb_mem 755 (by decide +kernel) rfl
theorem mw_X4_countPredicates : MVw yX4_countPredicates cX4_countPredicates 4 (some .int) 0 := ⟨tw_753, tw_754, tw_11, tw_755, by decide, by decide, by decide +kernel⟩
theorem tw_752 : Cond.methodLink "OptimisticStore" 155 (yX4_countPredicates : MethodName) ∈ lw_all := tb_mem 752 (by decide +kernel) rfl
theorem tw_361 : Cond.fieldLink "OptimisticStore" 159 "OptimisticStore$Transaction" "written" "I" ∈ lw_all := tb_mem 361 (by decide +kernel) rfl
theorem tw_780 : Cond.instanceMethod (yX5_countRivals : MethodName) ∈ lw_all := tb_mem 780 (by decide +kernel) rfl
theorem sp_23 : Cond.selects "OptimisticStore" yX5_countRivals yX5_countRivals ∈ lw_all := sp_mem 23 (by decide +kernel) rfl
theorem tw_781 : Cond.code yX5_countRivals cX5_countRivals 4 (some .int) ∈ lw_all := tb_mem 781 (by decide +kernel) rfl
theorem mw_X5_countRivals : MVw yX5_countRivals cX5_countRivals 4 (some .int) 1 := ⟨tw_780, sp_23, tw_1, tw_781, by decide, by decide, by decide +kernel⟩
theorem tw_778 : Cond.methodLink "OptimisticStore" 165 (yX5_countRivals : MethodName) ∈ lw_all := tb_mem 778 (by decide +kernel) rfl
theorem tw_792 : Cond.methodLink "OptimisticStore" 214 (yX5_isRange : MethodName) ∈ lw_all := tb_mem 792 (by decide +kernel) rfl
theorem th_18 : THw "OptimisticStore" 59 263 63 "java/lang/IllegalArgumentException" "the key is out of range" := ⟨by decide, by decide, tw_234, tw_9, by decide, thx_3⟩
theorem tw_790 : Cond.static (yX5_requireKey : MethodName) ∈ lw_all := tb_mem 790 (by decide +kernel) rfl
theorem tw_791 : Cond.code yX5_requireKey cX5_requireKey 1 none ∈ lw_all := tb_mem 791 (by decide +kernel) rfl
theorem mw_X5_requireKey : MSw yX5_requireKey cX5_requireKey 1 none 1 := ⟨tw_790, tw_1, tw_791, by decide, by decide, by decide +kernel⟩
theorem tw_789 : Cond.methodLink "OptimisticStore" 168 (yX5_requireKey : MethodName) ∈ lw_all := tb_mem 789 (by decide +kernel) rfl
theorem th_19 : THw "OptimisticStore" 265 267 269 "java/lang/IndexOutOfBoundsException" "there is no such commit" := ⟨by decide, by decide, tw_430, tw_12, by decide, thx_6⟩
theorem tw_803 : Cond.instanceMethod (yX5_requireCommit : MethodName) ∈ lw_all := tb_mem 803 (by decide +kernel) rfl
theorem sp_24 : Cond.selects "OptimisticStore" yX5_requireCommit yX5_requireCommit ∈ lw_all := sp_mem 24 (by decide +kernel) rfl
theorem tw_804 : Cond.code yX5_requireCommit cX5_requireCommit 3 none ∈ lw_all := tb_mem 804 (by decide +kernel) rfl
theorem mw_X5_requireCommit : MVw yX5_requireCommit cX5_requireCommit 3 none 2 := ⟨tw_803, sp_24, tw_1, tw_804, by decide, by decide, by decide +kernel⟩
theorem tw_801 : Cond.methodLink "OptimisticStore" 176 (yX5_requireCommit : MethodName) ∈ lw_all := tb_mem 801 (by decide +kernel) rfl
theorem tw_190 : Cond.instanceMethod (yX1_storeAfter : MethodName) ∈ lw_all := tb_mem 190 (by decide +kernel) rfl
theorem tw_191 : Cond.selects "OptimisticStore$History" (yX1_storeAfter : MethodName) (yX1_storeAfter : MethodName) ∈ lw_all := tb_mem 191 (by decide +kernel) rfl
theorem tw_192 : Cond.code yX1_storeAfter cX1_storeAfter 2 (some (.array .int)) ∈ lw_all := tb_mem 192 (by decide +kernel) rfl
theorem mw_X1_storeAfter : MVw yX1_storeAfter cX1_storeAfter 2 (some (.array .int)) 1 := ⟨tw_190, tw_191, tw_2, tw_192, by decide, by decide, by decide +kernel⟩
theorem tw_189 : Cond.methodLink "OptimisticStore" 180 (yX1_storeAfter : MethodName) ∈ lw_all := tb_mem 189 (by decide +kernel) rfl
theorem tw_813 : Cond.methodLink "OptimisticStore" 184 (yX1_latestWriter : MethodName) ∈ lw_all := tb_mem 813 (by decide +kernel) rfl
theorem tw_186 : Cond.instanceMethod (yX1_authorOf : MethodName) ∈ lw_all := tb_mem 186 (by decide +kernel) rfl
theorem tw_187 : Cond.selects "OptimisticStore$History" (yX1_authorOf : MethodName) (yX1_authorOf : MethodName) ∈ lw_all := tb_mem 187 (by decide +kernel) rfl
theorem tw_188 : Cond.code yX1_authorOf cX1_authorOf 2 (some (.object "OptimisticStore$Transaction")) ∈ lw_all := tb_mem 188 (by decide +kernel) rfl
theorem mw_X1_authorOf : MVw yX1_authorOf cX1_authorOf 2 (some (.object "OptimisticStore$Transaction")) 1 := ⟨tw_186, tw_187, tw_2, tw_188, by decide, by decide, by decide +kernel⟩
theorem tw_185 : Cond.methodLink "OptimisticStore" 187 (yX1_authorOf : MethodName) ∈ lw_all := tb_mem 185 (by decide +kernel) rfl
theorem tw_146 : Cond.instanceMethod (yX1_link : MethodName) ∈ lw_all := tb_mem 146 (by decide +kernel) rfl
theorem tw_147 : Cond.selects "OptimisticStore$History" (yX1_link : MethodName) (yX1_link : MethodName) ∈ lw_all := tb_mem 147 (by decide +kernel) rfl
theorem tw_148 : Cond.code yX1_link cX1_link 6 (some .int) ∈ lw_all := tb_mem 148 (by decide +kernel) rfl
theorem mw_X1_link : MVw yX1_link cX1_link 6 (some .int) 2 := ⟨tw_146, tw_147, tw_2, tw_148, by decide, by decide, by decide +kernel⟩
theorem tw_145 : Cond.methodLink "OptimisticStore" 192 (yX1_link : MethodName) ∈ lw_all := tb_mem 145 (by decide +kernel) rfl
theorem th_20 : THw "OptimisticStore" 59 190 63 "java/lang/IllegalArgumentException" "the first commit is not the earlier one" := ⟨by decide, by decide, tw_234, tw_9, by decide, thx_3⟩
theorem tw_178 : Cond.methodLink "OptimisticStore" 196 (⟨"java/lang/Math", "max", "(II)I"⟩ : MethodName) ∈ lw_all := tb_mem 178 (by decide +kernel) rfl
theorem tw_197 : Cond.instanceMethod (yX4_repeatsAlikeOn : MethodName) ∈ lw_all := tb_mem 197 (by decide +kernel) rfl
theorem tw_198 : Cond.selects "OptimisticStore$Transaction" (yX4_repeatsAlikeOn : MethodName) (yX4_repeatsAlikeOn : MethodName) ∈ lw_all := tb_mem 198 (by decide +kernel) rfl
theorem tw_199 : Cond.code yX4_repeatsAlikeOn cX4_repeatsAlikeOn 4 (some .boolean) ∈ lw_all := tb_mem 199 (by decide +kernel) rfl
theorem mw_X4_repeatsAlikeOn : MVw yX4_repeatsAlikeOn cX4_repeatsAlikeOn 4 (some .boolean) 1 := ⟨tw_197, tw_198, tw_11, tw_199, by decide, by decide, by decide +kernel⟩
theorem tw_196 : Cond.methodLink "OptimisticStore" 207 (yX4_repeatsAlikeOn : MethodName) ∈ lw_all := tb_mem 196 (by decide +kernel) rfl
theorem tw_837 : Cond.instanceMethod (yX1_takeBackAfter : MethodName) ∈ lw_all := tb_mem 837 (by decide +kernel) rfl
theorem tw_838 : Cond.selects "OptimisticStore$History" (yX1_takeBackAfter : MethodName) (yX1_takeBackAfter : MethodName) ∈ lw_all := tb_mem 838 (by decide +kernel) rfl
theorem tw_839 : Cond.code yX1_takeBackAfter cX1_takeBackAfter 5 (some .int) ∈ lw_all := tb_mem 839 (by decide +kernel) rfl
theorem mw_X1_takeBackAfter : MVw yX1_takeBackAfter cX1_takeBackAfter 5 (some .int) 1 := ⟨tw_837, tw_838, tw_2, tw_839, by decide, by decide, by decide +kernel⟩
theorem tw_836 : Cond.methodLink "OptimisticStore" 211 (yX1_takeBackAfter : MethodName) ∈ lw_all := tb_mem 836 (by decide +kernel) rfl
theorem tw_849 : Cond.instantiable "OptimisticStore$Constraint" 4 ∈ lw_all := tb_mem 849 (by decide +kernel) rfl
theorem tw_851 : Cond.instanceMethod (yX0_init : MethodName) ∈ lw_all := tb_mem 851 (by decide +kernel) rfl
theorem tw_852 : Cond.code yX0_init cX0_init 5 none ∈ lw_all := tb_mem 852 (by decide +kernel) rfl
theorem mw_X0_init : MIw yX0_init cX0_init 5 4 := ⟨tw_851, tw_20, tw_852, by decide, by decide, by decide +kernel, rfl⟩
theorem tw_850 : Cond.methodLink "OptimisticStore" 220 (yX0_init : MethodName) ∈ lw_all := tb_mem 850 (by decide +kernel) rfl
theorem th_21 : THw "OptimisticStore" 59 218 63 "java/lang/IllegalArgumentException" "kind, low or high is out of range" := ⟨by decide, by decide, tw_234, tw_9, by decide, thx_3⟩
theorem th_22 : THw "OptimisticStore" 70 227 74 "java/lang/IllegalStateException" "the constraint cannot be added" := ⟨by decide, by decide, tw_305, tw_10, by decide, thx_1⟩
theorem th_23 : THw "OptimisticStore" 59 229 63 "java/lang/IllegalArgumentException" "the reason is out of range" := ⟨by decide, by decide, tw_234, tw_9, by decide, thx_3⟩
theorem th_24 : THw "OptimisticStore" 231 233 235 "java/lang/ArithmeticException" "no transaction is committed" := ⟨by decide, by decide, tw_512, tw_17, by decide, thx_9⟩
theorem th_25 : THw "OptimisticStore" 231 236 235 "java/lang/ArithmeticException" "no transaction has ended" := ⟨by decide, by decide, tw_512, tw_17, by decide, thx_9⟩
theorem tw_69 : Cond.fieldLink "OptimisticStore" 240 "OptimisticStore$Script" "length" "I" ∈ lw_all := tb_mem 69 (by decide +kernel) rfl
theorem tw_902 : Cond.instanceMethod (yX3_extend : MethodName) ∈ lw_all := tb_mem 902 (by decide +kernel) rfl
theorem tw_903 : Cond.selects "OptimisticStore$Script" (yX3_extend : MethodName) (yX3_extend : MethodName) ∈ lw_all := tb_mem 903 (by decide +kernel) rfl
theorem tw_904 : Cond.code yX3_extend cX3_extend 2 (some .int) ∈ lw_all := tb_mem 904 (by decide +kernel) rfl
theorem mw_X3_extend : MVw yX3_extend cX3_extend 2 (some .int) 1 := ⟨tw_902, tw_903, tw_4, tw_904, by decide, by decide, by decide +kernel⟩
theorem tw_901 : Cond.methodLink "OptimisticStore" 245 (yX3_extend : MethodName) ∈ lw_all := tb_mem 901 (by decide +kernel) rfl
theorem th_26 : THw "OptimisticStore" 70 243 74 "java/lang/IllegalStateException" "the text is full" := ⟨by decide, by decide, tw_305, tw_10, by decide, thx_1⟩
theorem th_27 : THw "OptimisticStore" 59 238 63 "java/lang/IllegalArgumentException" "the character is out of range" := ⟨by decide, by decide, tw_234, tw_9, by decide, thx_3⟩
theorem tw_71 : Cond.fieldLink "OptimisticStore" 344 "OptimisticStore$Script" "stepCount" "I" ∈ lw_all := tb_mem 71 (by decide +kernel) rfl
theorem tw_966 : Cond.instanceMethod (yX3_stepAt : MethodName) ∈ lw_all := tb_mem 966 (by decide +kernel) rfl
theorem tw_967 : Cond.selects "OptimisticStore$Script" (yX3_stepAt : MethodName) (yX3_stepAt : MethodName) ∈ lw_all := tb_mem 967 (by decide +kernel) rfl
theorem tw_968 : Cond.code yX3_stepAt cX3_stepAt 2 (some (.object "OptimisticStore$Operation")) ∈ lw_all := tb_mem 968 (by decide +kernel) rfl
theorem mw_X3_stepAt : MVw yX3_stepAt cX3_stepAt 2 (some (.object "OptimisticStore$Operation")) 1 := ⟨tw_966, tw_967, tw_4, tw_968, by decide, by decide, by decide +kernel⟩
theorem tw_965 : Cond.methodLink "OptimisticStore" 347 (yX3_stepAt : MethodName) ∈ lw_all := tb_mem 965 (by decide +kernel) rfl
theorem tw_971 : Cond.instanceMethod (yX5_isAllowed : MethodName) ∈ lw_all := tb_mem 971 (by decide +kernel) rfl
theorem sp_35 : Cond.selects "OptimisticStore" yX5_isAllowed yX5_isAllowed ∈ lw_all := sp_mem 35 (by decide +kernel) rfl
theorem tw_972 : Cond.code yX5_isAllowed cX5_isAllowed 3 (some .boolean) ∈ lw_all := tb_mem 972 (by decide +kernel) rfl
theorem mw_X5_isAllowed : MVw yX5_isAllowed cX5_isAllowed 3 (some .boolean) 2 := ⟨tw_971, sp_35, tw_1, tw_972, by decide, by decide, by decide +kernel⟩
theorem tw_969 : Cond.methodLink "OptimisticStore" 351 (yX5_isAllowed : MethodName) ∈ lw_all := tb_mem 969 (by decide +kernel) rfl
theorem tw_913 : Cond.instanceMethod (yX3_parseAndEmpty : MethodName) ∈ lw_all := tb_mem 913 (by decide +kernel) rfl
theorem tw_914 : Cond.selects "OptimisticStore$Script" (yX3_parseAndEmpty : MethodName) (yX3_parseAndEmpty : MethodName) ∈ lw_all := tb_mem 914 (by decide +kernel) rfl
theorem tw_915 : Cond.code yX3_parseAndEmpty cX3_parseAndEmpty 2 (some .boolean) ∈ lw_all := tb_mem 915 (by decide +kernel) rfl
theorem mw_X3_parseAndEmpty : MVw yX3_parseAndEmpty cX3_parseAndEmpty 2 (some .boolean) 0 := ⟨tw_913, tw_914, tw_4, tw_915, by decide, by decide, by decide +kernel⟩
theorem tw_912 : Cond.methodLink "OptimisticStore" 249 (yX3_parseAndEmpty : MethodName) ∈ lw_all := tb_mem 912 (by decide +kernel) rfl
theorem tw_963 : Cond.instanceMethod (yX5_performSteps : MethodName) ∈ lw_all := tb_mem 963 (by decide +kernel) rfl
theorem sp_34 : Cond.selects "OptimisticStore" yX5_performSteps yX5_performSteps ∈ lw_all := sp_mem 34 (by decide +kernel) rfl
theorem tw_964 : Cond.code yX5_performSteps cX5_performSteps 4 (some .boolean) ∈ lw_all := tb_mem 964 (by decide +kernel) rfl
theorem mw_X5_performSteps : MVw yX5_performSteps cX5_performSteps 4 (some .boolean) 1 := ⟨tw_963, sp_34, tw_1, tw_964, by decide, by decide, by decide +kernel⟩
theorem tw_961 : Cond.methodLink "OptimisticStore" 256 (yX5_performSteps : MethodName) ∈ lw_all := tb_mem 961 (by decide +kernel) rfl
theorem th_28 : THw "OptimisticStore" 59 252 63 "java/lang/IllegalArgumentException" "the text has a fault" := ⟨by decide, by decide, tw_234, tw_9, by decide, thx_3⟩
theorem th_29 : THw "OptimisticStore" 70 254 74 "java/lang/IllegalStateException" "no further transaction can begin or be committed" := ⟨by decide, by decide, tw_305, tw_10, by decide, thx_1⟩
theorem tw_73 : Cond.fieldLink "OptimisticStore" 260 "OptimisticStore$Script" "fault" "I" ∈ lw_all := tb_mem 73 (by decide +kernel) rfl
theorem tw_983 : Cond.fieldLink "OptimisticStoreModel" 1 "OptimisticStoreModel" "thrown" "I" ∈ lw_all := tb_mem 983 (by decide +kernel) rfl
theorem tw_982 : Cond.methodLink "OptimisticStoreModel" 7 (⟨"java/lang/Object", "<init>", "()V"⟩ : MethodName) ∈ lw_all := tb_mem 982 (by decide +kernel) rfl
theorem tw_985 : Cond.fieldLink "OptimisticStoreModel" 13 "OptimisticStoreModel" "states" "[I" ∈ lw_all := tb_mem 985 (by decide +kernel) rfl
theorem tw_986 : Cond.fieldLink "OptimisticStoreModel" 17 "OptimisticStoreModel" "attempts" "[I" ∈ lw_all := tb_mem 986 (by decide +kernel) rfl
theorem tw_987 : Cond.fieldLink "OptimisticStoreModel" 20 "OptimisticStoreModel" "reasons" "[I" ∈ lw_all := tb_mem 987 (by decide +kernel) rfl
theorem tw_988 : Cond.fieldLink "OptimisticStoreModel" 23 "OptimisticStoreModel" "numbers" "[I" ∈ lw_all := tb_mem 988 (by decide +kernel) rfl
theorem tw_1077 : Cond.arrayClass .boolean ∈ lw_all := tb_mem 1077 (by decide +kernel) rfl
theorem tw_989 : Cond.fieldLink "OptimisticStoreModel" 26 "OptimisticStoreModel" "isRetried" "[Z" ∈ lw_all := tb_mem 989 (by decide +kernel) rfl
theorem tw_990 : Cond.fieldLink "OptimisticStoreModel" 30 "OptimisticStoreModel" "sizes" "[I" ∈ lw_all := tb_mem 990 (by decide +kernel) rfl
theorem tw_991 : Cond.fieldLink "OptimisticStoreModel" 33 "OptimisticStoreModel" "operations" "[I" ∈ lw_all := tb_mem 991 (by decide +kernel) rfl
theorem tw_992 : Cond.fieldLink "OptimisticStoreModel" 36 "OptimisticStoreModel" "records" "[I" ∈ lw_all := tb_mem 992 (by decide +kernel) rfl
theorem tw_993 : Cond.fieldLink "OptimisticStoreModel" 39 "OptimisticStoreModel" "writes" "[I" ∈ lw_all := tb_mem 993 (by decide +kernel) rfl
theorem tw_994 : Cond.fieldLink "OptimisticStoreModel" 42 "OptimisticStoreModel" "predicates" "[I" ∈ lw_all := tb_mem 994 (by decide +kernel) rfl
theorem tw_995 : Cond.fieldLink "OptimisticStoreModel" 45 "OptimisticStoreModel" "predicateSizes" "[I" ∈ lw_all := tb_mem 995 (by decide +kernel) rfl
theorem tw_996 : Cond.fieldLink "OptimisticStoreModel" 48 "OptimisticStoreModel" "ticket" "I" ∈ lw_all := tb_mem 996 (by decide +kernel) rfl
theorem tw_998 : Cond.fieldLink "OptimisticStoreModel" 51 "OptimisticStoreModel" "values" "[I" ∈ lw_all := tb_mem 998 (by decide +kernel) rfl
theorem tw_999 : Cond.fieldLink "OptimisticStoreModel" 54 "OptimisticStoreModel" "committers" "[I" ∈ lw_all := tb_mem 999 (by decide +kernel) rfl
theorem tw_1002 : Cond.fieldLink "OptimisticStoreModel" 57 "OptimisticStoreModel" "patience" "I" ∈ lw_all := tb_mem 1002 (by decide +kernel) rfl
theorem tw_1003 : Cond.fieldLink "OptimisticStoreModel" 60 "OptimisticStoreModel" "constraints" "[I" ∈ lw_all := tb_mem 1003 (by decide +kernel) rfl
theorem tw_1005 : Cond.fieldLink "OptimisticStoreModel" 63 "OptimisticStoreModel" "chain" "[I" ∈ lw_all := tb_mem 1005 (by decide +kernel) rfl
theorem tw_1006 : Cond.fieldLink "OptimisticStoreModel" 66 "OptimisticStoreModel" "view" "[I" ∈ lw_all := tb_mem 1006 (by decide +kernel) rfl
theorem tw_1007 : Cond.fieldLink "OptimisticStoreModel" 69 "OptimisticStoreModel" "text" "[I" ∈ lw_all := tb_mem 1007 (by decide +kernel) rfl
theorem tw_1011 : Cond.fieldLink "OptimisticStoreModel" 72 "OptimisticStoreModel" "fault" "I" ∈ lw_all := tb_mem 1011 (by decide +kernel) rfl
theorem tw_1012 : Cond.fieldLink "OptimisticStoreModel" 75 "OptimisticStoreModel" "steps" "[I" ∈ lw_all := tb_mem 1012 (by decide +kernel) rfl
theorem tw_984 : Cond.fieldLink "OptimisticStoreModel" 78 "OptimisticStoreModel" "many" "I" ∈ lw_all := tb_mem 984 (by decide +kernel) rfl
theorem tw_1083 : Cond.static (yX6_isIn : MethodName) ∈ lw_all := tb_mem 1083 (by decide +kernel) rfl
theorem tw_5 : Cond.initialized "OptimisticStoreModel" ∈ lw_all := tb_mem 5 (by decide +kernel) rfl
theorem tw_1084 : Cond.code yX6_isIn cX6_isIn 3 (some .boolean) ∈ lw_all := tb_mem 1084 (by decide +kernel) rfl
theorem mw_X6_isIn : MSw yX6_isIn cX6_isIn 3 (some .boolean) 3 := ⟨tw_1083, tw_5, tw_1084, by decide, by decide, by decide +kernel⟩
theorem tw_1082 : Cond.methodLink "OptimisticStoreModel" 81 (yX6_isIn : MethodName) ∈ lw_all := tb_mem 1082 (by decide +kernel) rfl
theorem tw_1118 : Cond.static (yX6_isKey : MethodName) ∈ lw_all := tb_mem 1118 (by decide +kernel) rfl
theorem tw_1119 : Cond.code yX6_isKey cX6_isKey 1 (some .boolean) ∈ lw_all := tb_mem 1119 (by decide +kernel) rfl
theorem mw_X6_isKey : MSw yX6_isKey cX6_isKey 1 (some .boolean) 1 := ⟨tw_1118, tw_5, tw_1119, by decide, by decide, by decide +kernel⟩
theorem tw_1117 : Cond.methodLink "OptimisticStoreModel" 85 (yX6_isKey : MethodName) ∈ lw_all := tb_mem 1117 (by decide +kernel) rfl
theorem tw_1087 : Cond.instanceMethod (yX6_activeNow : MethodName) ∈ lw_all := tb_mem 1087 (by decide +kernel) rfl
theorem sp_36 : Cond.selects "OptimisticStoreModel" yX6_activeNow yX6_activeNow ∈ lw_all := sp_mem 36 (by decide +kernel) rfl
theorem tw_1088 : Cond.code yX6_activeNow cX6_activeNow 3 (some .int) ∈ lw_all := tb_mem 1088 (by decide +kernel) rfl
theorem mw_X6_activeNow : MVw yX6_activeNow cX6_activeNow 3 (some .int) 0 := ⟨tw_1087, sp_36, tw_5, tw_1088, by decide, by decide, by decide +kernel⟩
theorem tw_1085 : Cond.methodLink "OptimisticStoreModel" 89 (yX6_activeNow : MethodName) ∈ lw_all := tb_mem 1085 (by decide +kernel) rfl
theorem tw_1000 : Cond.fieldLink "OptimisticStoreModel" 93 "OptimisticStoreModel" "policy" "I" ∈ lw_all := tb_mem 1000 (by decide +kernel) rfl
theorem tw_1001 : Cond.fieldLink "OptimisticStoreModel" 96 "OptimisticStoreModel" "rule" "I" ∈ lw_all := tb_mem 1001 (by decide +kernel) rfl
theorem tw_1095 : Cond.instanceMethod (yX6_hasRoom : MethodName) ∈ lw_all := tb_mem 1095 (by decide +kernel) rfl
theorem sp_37 : Cond.selects "OptimisticStoreModel" yX6_hasRoom yX6_hasRoom ∈ lw_all := sp_mem 37 (by decide +kernel) rfl
theorem tw_1096 : Cond.code yX6_hasRoom cX6_hasRoom 1 (some .boolean) ∈ lw_all := tb_mem 1096 (by decide +kernel) rfl
theorem mw_X6_hasRoom : MVw yX6_hasRoom cX6_hasRoom 1 (some .boolean) 0 := ⟨tw_1095, sp_37, tw_5, tw_1096, by decide, by decide, by decide +kernel⟩
theorem tw_1093 : Cond.methodLink "OptimisticStoreModel" 99 (yX6_hasRoom : MethodName) ∈ lw_all := tb_mem 1093 (by decide +kernel) rfl
theorem tw_1103 : Cond.instanceMethod (yX6_fail : MethodName) ∈ lw_all := tb_mem 1103 (by decide +kernel) rfl
theorem sp_39 : Cond.selects "OptimisticStoreModel" yX6_fail yX6_fail ∈ lw_all := sp_mem 39 (by decide +kernel) rfl
theorem tw_1104 : Cond.code yX6_fail cX6_fail 2 (some .int) ∈ lw_all := tb_mem 1104 (by decide +kernel) rfl
theorem mw_X6_fail : MVw yX6_fail cX6_fail 2 (some .int) 1 := ⟨tw_1103, sp_39, tw_5, tw_1104, by decide, by decide, by decide +kernel⟩
theorem tw_1101 : Cond.methodLink "OptimisticStoreModel" 107 (yX6_fail : MethodName) ∈ lw_all := tb_mem 1101 (by decide +kernel) rfl
theorem tw_1099 : Cond.instanceMethod (yX6_beginWith : MethodName) ∈ lw_all := tb_mem 1099 (by decide +kernel) rfl
theorem sp_38 : Cond.selects "OptimisticStoreModel" yX6_beginWith yX6_beginWith ∈ lw_all := sp_mem 38 (by decide +kernel) rfl
theorem tw_1100 : Cond.code yX6_beginWith cX6_beginWith 4 (some .int) ∈ lw_all := tb_mem 1100 (by decide +kernel) rfl
theorem mw_X6_beginWith : MVw yX6_beginWith cX6_beginWith 4 (some .int) 1 := ⟨tw_1099, sp_38, tw_5, tw_1100, by decide, by decide, by decide +kernel⟩
theorem tw_1097 : Cond.methodLink "OptimisticStoreModel" 103 (yX6_beginWith : MethodName) ∈ lw_all := tb_mem 1097 (by decide +kernel) rfl
theorem tw_1111 : Cond.instanceMethod (yX6_isTransaction : MethodName) ∈ lw_all := tb_mem 1111 (by decide +kernel) rfl
theorem sp_40 : Cond.selects "OptimisticStoreModel" yX6_isTransaction yX6_isTransaction ∈ lw_all := sp_mem 40 (by decide +kernel) rfl
theorem tw_1112 : Cond.code yX6_isTransaction cX6_isTransaction 2 (some .boolean) ∈ lw_all := tb_mem 1112 (by decide +kernel) rfl
theorem mw_X6_isTransaction : MVw yX6_isTransaction cX6_isTransaction 2 (some .boolean) 1 := ⟨tw_1111, sp_40, tw_5, tw_1112, by decide, by decide, by decide +kernel⟩
theorem tw_1109 : Cond.methodLink "OptimisticStoreModel" 110 (yX6_isTransaction : MethodName) ∈ lw_all := tb_mem 1109 (by decide +kernel) rfl
theorem tw_997 : Cond.fieldLink "OptimisticStoreModel" 113 "OptimisticStoreModel" "clock" "I" ∈ lw_all := tb_mem 997 (by decide +kernel) rfl
theorem tw_1134 : Cond.instanceMethod (yX6_stored : MethodName) ∈ lw_all := tb_mem 1134 (by decide +kernel) rfl
theorem sp_44 : Cond.selects "OptimisticStoreModel" yX6_stored yX6_stored ∈ lw_all := sp_mem 44 (by decide +kernel) rfl
theorem tw_1135 : Cond.code yX6_stored cX6_stored 3 (some .int) ∈ lw_all := tb_mem 1135 (by decide +kernel) rfl
theorem mw_X6_stored : MVw yX6_stored cX6_stored 3 (some .int) 2 := ⟨tw_1134, sp_44, tw_5, tw_1135, by decide, by decide, by decide +kernel⟩
theorem tw_1132 : Cond.methodLink "OptimisticStoreModel" 116 (yX6_stored : MethodName) ∈ lw_all := tb_mem 1132 (by decide +kernel) rfl
theorem tw_1122 : Cond.instanceMethod (yX6_problem : MethodName) ∈ lw_all := tb_mem 1122 (by decide +kernel) rfl
theorem sp_41 : Cond.selects "OptimisticStoreModel" yX6_problem yX6_problem ∈ lw_all := sp_mem 41 (by decide +kernel) rfl
theorem tw_1123 : Cond.code yX6_problem cX6_problem 3 (some .int) ∈ lw_all := tb_mem 1123 (by decide +kernel) rfl
theorem mw_X6_problem : MVw yX6_problem cX6_problem 3 (some .int) 2 := ⟨tw_1122, sp_41, tw_5, tw_1123, by decide, by decide, by decide +kernel⟩
theorem tw_1120 : Cond.methodLink "OptimisticStoreModel" 120 (yX6_problem : MethodName) ∈ lw_all := tb_mem 1120 (by decide +kernel) rfl
theorem tw_1126 : Cond.instanceMethod (yX6_recordKey : MethodName) ∈ lw_all := tb_mem 1126 (by decide +kernel) rfl
theorem sp_42 : Cond.selects "OptimisticStoreModel" yX6_recordKey yX6_recordKey ∈ lw_all := sp_mem 42 (by decide +kernel) rfl
theorem tw_1127 : Cond.code yX6_recordKey cX6_recordKey 3 none ∈ lw_all := tb_mem 1127 (by decide +kernel) rfl
theorem mw_X6_recordKey : MVw yX6_recordKey cX6_recordKey 3 none 2 := ⟨tw_1126, sp_42, tw_5, tw_1127, by decide, by decide, by decide +kernel⟩
theorem tw_1124 : Cond.methodLink "OptimisticStoreModel" 124 (yX6_recordKey : MethodName) ∈ lw_all := tb_mem 1124 (by decide +kernel) rfl
theorem tw_1130 : Cond.instanceMethod (yX6_viewed : MethodName) ∈ lw_all := tb_mem 1130 (by decide +kernel) rfl
theorem sp_43 : Cond.selects "OptimisticStoreModel" yX6_viewed yX6_viewed ∈ lw_all := sp_mem 43 (by decide +kernel) rfl
theorem tw_1131 : Cond.code yX6_viewed cX6_viewed 4 (some .int) ∈ lw_all := tb_mem 1131 (by decide +kernel) rfl
theorem mw_X6_viewed : MVw yX6_viewed cX6_viewed 4 (some .int) 2 := ⟨tw_1130, sp_43, tw_5, tw_1131, by decide, by decide, by decide +kernel⟩
theorem tw_1128 : Cond.methodLink "OptimisticStoreModel" 128 (yX6_viewed : MethodName) ∈ lw_all := tb_mem 1128 (by decide +kernel) rfl
theorem tw_1138 : Cond.instanceMethod (yX6_list : MethodName) ∈ lw_all := tb_mem 1138 (by decide +kernel) rfl
theorem sp_45 : Cond.selects "OptimisticStoreModel" yX6_list yX6_list ∈ lw_all := sp_mem 45 (by decide +kernel) rfl
theorem tw_1139 : Cond.code yX6_list cX6_list 8 none ∈ lw_all := tb_mem 1139 (by decide +kernel) rfl
theorem mw_X6_list : MVw yX6_list cX6_list 8 none 6 := ⟨tw_1138, sp_45, tw_5, tw_1139, by decide, by decide, by decide +kernel⟩
theorem tw_1136 : Cond.methodLink "OptimisticStoreModel" 131 (yX6_list : MethodName) ∈ lw_all := tb_mem 1136 (by decide +kernel) rfl
theorem tw_1145 : Cond.static (yX6_isRange : MethodName) ∈ lw_all := tb_mem 1145 (by decide +kernel) rfl
theorem tw_1146 : Cond.code yX6_isRange cX6_isRange 2 (some .boolean) ∈ lw_all := tb_mem 1146 (by decide +kernel) rfl
theorem mw_X6_isRange : MSw yX6_isRange cX6_isRange 2 (some .boolean) 2 := ⟨tw_1145, tw_5, tw_1146, by decide, by decide, by decide +kernel⟩
theorem tw_1144 : Cond.methodLink "OptimisticStoreModel" 135 (yX6_isRange : MethodName) ∈ lw_all := tb_mem 1144 (by decide +kernel) rfl
theorem tw_1149 : Cond.instanceMethod (yX6_recordRange : MethodName) ∈ lw_all := tb_mem 1149 (by decide +kernel) rfl
theorem sp_46 : Cond.selects "OptimisticStoreModel" yX6_recordRange yX6_recordRange ∈ lw_all := sp_mem 46 (by decide +kernel) rfl
theorem tw_1150 : Cond.code yX6_recordRange cX6_recordRange 6 none ∈ lw_all := tb_mem 1150 (by decide +kernel) rfl
theorem mw_X6_recordRange : MVw yX6_recordRange cX6_recordRange 6 none 4 := ⟨tw_1149, sp_46, tw_5, tw_1150, by decide, by decide, by decide +kernel⟩
theorem tw_1147 : Cond.methodLink "OptimisticStoreModel" 139 (yX6_recordRange : MethodName) ∈ lw_all := tb_mem 1147 (by decide +kernel) rfl
theorem tw_1153 : Cond.instanceMethod (yX6_counted : MethodName) ∈ lw_all := tb_mem 1153 (by decide +kernel) rfl
theorem sp_47 : Cond.selects "OptimisticStoreModel" yX6_counted yX6_counted ∈ lw_all := sp_mem 47 (by decide +kernel) rfl
theorem tw_1154 : Cond.code yX6_counted cX6_counted 7 (some .int) ∈ lw_all := tb_mem 1154 (by decide +kernel) rfl
theorem mw_X6_counted : MVw yX6_counted cX6_counted 7 (some .int) 4 := ⟨tw_1153, sp_47, tw_5, tw_1154, by decide, by decide, by decide +kernel⟩
theorem tw_1151 : Cond.methodLink "OptimisticStoreModel" 143 (yX6_counted : MethodName) ∈ lw_all := tb_mem 1151 (by decide +kernel) rfl
theorem tw_1161 : Cond.instanceMethod (yX6_summed : MethodName) ∈ lw_all := tb_mem 1161 (by decide +kernel) rfl
theorem sp_48 : Cond.selects "OptimisticStoreModel" yX6_summed yX6_summed ∈ lw_all := sp_mem 48 (by decide +kernel) rfl
theorem tw_1162 : Cond.code yX6_summed cX6_summed 7 (some .int) ∈ lw_all := tb_mem 1162 (by decide +kernel) rfl
theorem mw_X6_summed : MVw yX6_summed cX6_summed 7 (some .int) 3 := ⟨tw_1161, sp_48, tw_5, tw_1162, by decide, by decide, by decide +kernel⟩
theorem tw_1159 : Cond.methodLink "OptimisticStoreModel" 147 (yX6_summed : MethodName) ∈ lw_all := tb_mem 1159 (by decide +kernel) rfl
theorem tw_1177 : Cond.instanceMethod (yX6_addedTo : MethodName) ∈ lw_all := tb_mem 1177 (by decide +kernel) rfl
theorem sp_49 : Cond.selects "OptimisticStoreModel" yX6_addedTo yX6_addedTo ∈ lw_all := sp_mem 49 (by decide +kernel) rfl
theorem tw_1178 : Cond.code yX6_addedTo cX6_addedTo 3 (some .int) ∈ lw_all := tb_mem 1178 (by decide +kernel) rfl
theorem mw_X6_addedTo : MVw yX6_addedTo cX6_addedTo 3 (some .int) 2 := ⟨tw_1177, sp_49, tw_5, tw_1178, by decide, by decide, by decide +kernel⟩
theorem tw_1175 : Cond.methodLink "OptimisticStoreModel" 151 (yX6_addedTo : MethodName) ∈ lw_all := tb_mem 1175 (by decide +kernel) rfl
theorem tw_1201 : Cond.instanceMethod (yX6_touches : MethodName) ∈ lw_all := tb_mem 1201 (by decide +kernel) rfl
theorem sp_54 : Cond.selects "OptimisticStoreModel" yX6_touches yX6_touches ∈ lw_all := sp_mem 54 (by decide +kernel) rfl
theorem tw_1202 : Cond.code yX6_touches cX6_touches 5 (some .boolean) ∈ lw_all := tb_mem 1202 (by decide +kernel) rfl
theorem mw_X6_touches : MVw yX6_touches cX6_touches 5 (some .boolean) 4 := ⟨tw_1201, sp_54, tw_5, tw_1202, by decide, by decide, by decide +kernel⟩
theorem tw_1199 : Cond.methodLink "OptimisticStoreModel" 154 (yX6_touches : MethodName) ∈ lw_all := tb_mem 1199 (by decide +kernel) rfl
theorem tw_1197 : Cond.instanceMethod (yX6_touchesAny : MethodName) ∈ lw_all := tb_mem 1197 (by decide +kernel) rfl
theorem sp_53 : Cond.selects "OptimisticStoreModel" yX6_touchesAny yX6_touchesAny ∈ lw_all := sp_mem 53 (by decide +kernel) rfl
theorem tw_1198 : Cond.code yX6_touchesAny cX6_touchesAny 9 (some .boolean) ∈ lw_all := tb_mem 1198 (by decide +kernel) rfl
theorem mw_X6_touchesAny : MVw yX6_touchesAny cX6_touchesAny 9 (some .boolean) 5 := ⟨tw_1197, sp_53, tw_5, tw_1198, by decide, by decide, by decide +kernel⟩
theorem tw_1195 : Cond.methodLink "OptimisticStoreModel" 158 (yX6_touchesAny : MethodName) ∈ lw_all := tb_mem 1195 (by decide +kernel) rfl
theorem tw_1217 : Cond.instanceMethod (yX6_conflicts : MethodName) ∈ lw_all := tb_mem 1217 (by decide +kernel) rfl
theorem sp_57 : Cond.selects "OptimisticStoreModel" yX6_conflicts yX6_conflicts ∈ lw_all := sp_mem 57 (by decide +kernel) rfl
theorem tw_1218 : Cond.code yX6_conflicts cX6_conflicts 6 (some .boolean) ∈ lw_all := tb_mem 1218 (by decide +kernel) rfl
theorem mw_X6_conflicts : MVw yX6_conflicts cX6_conflicts 6 (some .boolean) 2 := ⟨tw_1217, sp_57, tw_5, tw_1218, by decide, by decide, by decide +kernel⟩
theorem tw_1215 : Cond.methodLink "OptimisticStoreModel" 162 (yX6_conflicts : MethodName) ∈ lw_all := tb_mem 1215 (by decide +kernel) rfl
theorem tw_1213 : Cond.instanceMethod (yX6_isRival : MethodName) ∈ lw_all := tb_mem 1213 (by decide +kernel) rfl
theorem sp_56 : Cond.selects "OptimisticStoreModel" yX6_isRival yX6_isRival ∈ lw_all := sp_mem 56 (by decide +kernel) rfl
theorem tw_1214 : Cond.code yX6_isRival cX6_isRival 3 (some .boolean) ∈ lw_all := tb_mem 1214 (by decide +kernel) rfl
theorem mw_X6_isRival : MVw yX6_isRival cX6_isRival 3 (some .boolean) 2 := ⟨tw_1213, sp_56, tw_5, tw_1214, by decide, by decide, by decide +kernel⟩
theorem tw_1211 : Cond.methodLink "OptimisticStoreModel" 165 (yX6_isRival : MethodName) ∈ lw_all := tb_mem 1211 (by decide +kernel) rfl
theorem tw_1193 : Cond.instanceMethod (yX6_hasWritten : MethodName) ∈ lw_all := tb_mem 1193 (by decide +kernel) rfl
theorem sp_52 : Cond.selects "OptimisticStoreModel" yX6_hasWritten yX6_hasWritten ∈ lw_all := sp_mem 52 (by decide +kernel) rfl
theorem tw_1194 : Cond.code yX6_hasWritten cX6_hasWritten 3 (some .boolean) ∈ lw_all := tb_mem 1194 (by decide +kernel) rfl
theorem mw_X6_hasWritten : MVw yX6_hasWritten cX6_hasWritten 3 (some .boolean) 2 := ⟨tw_1193, sp_52, tw_5, tw_1194, by decide, by decide, by decide +kernel⟩
theorem tw_1191 : Cond.methodLink "OptimisticStoreModel" 168 (yX6_hasWritten : MethodName) ∈ lw_all := tb_mem 1191 (by decide +kernel) rfl
theorem tw_1185 : Cond.instanceMethod (yX6_activeProblem : MethodName) ∈ lw_all := tb_mem 1185 (by decide +kernel) rfl
theorem sp_50 : Cond.selects "OptimisticStoreModel" yX6_activeProblem yX6_activeProblem ∈ lw_all := sp_mem 50 (by decide +kernel) rfl
theorem tw_1186 : Cond.code yX6_activeProblem cX6_activeProblem 2 (some .int) ∈ lw_all := tb_mem 1186 (by decide +kernel) rfl
theorem mw_X6_activeProblem : MVw yX6_activeProblem cX6_activeProblem 2 (some .int) 1 := ⟨tw_1185, sp_50, tw_5, tw_1186, by decide, by decide, by decide +kernel⟩
theorem tw_1183 : Cond.methodLink "OptimisticStoreModel" 171 (yX6_activeProblem : MethodName) ∈ lw_all := tb_mem 1183 (by decide +kernel) rfl
theorem tw_1189 : Cond.instanceMethod (yX6_staleness : MethodName) ∈ lw_all := tb_mem 1189 (by decide +kernel) rfl
theorem sp_51 : Cond.selects "OptimisticStoreModel" yX6_staleness yX6_staleness ∈ lw_all := sp_mem 51 (by decide +kernel) rfl
theorem tw_1190 : Cond.code yX6_staleness cX6_staleness 8 (some .int) ∈ lw_all := tb_mem 1190 (by decide +kernel) rfl
theorem mw_X6_staleness : MVw yX6_staleness cX6_staleness 8 (some .int) 1 := ⟨tw_1189, sp_51, tw_5, tw_1190, by decide, by decide, by decide +kernel⟩
theorem tw_1187 : Cond.methodLink "OptimisticStoreModel" 174 (yX6_staleness : MethodName) ∈ lw_all := tb_mem 1187 (by decide +kernel) rfl
theorem tw_1209 : Cond.instanceMethod (yX6_countRivals : MethodName) ∈ lw_all := tb_mem 1209 (by decide +kernel) rfl
theorem sp_55 : Cond.selects "OptimisticStoreModel" yX6_countRivals yX6_countRivals ∈ lw_all := sp_mem 55 (by decide +kernel) rfl
theorem tw_1210 : Cond.code yX6_countRivals cX6_countRivals 4 (some .int) ∈ lw_all := tb_mem 1210 (by decide +kernel) rfl
theorem mw_X6_countRivals : MVw yX6_countRivals cX6_countRivals 4 (some .int) 1 := ⟨tw_1209, sp_55, tw_5, tw_1210, by decide, by decide, by decide +kernel⟩
theorem tw_1207 : Cond.methodLink "OptimisticStoreModel" 177 (yX6_countRivals : MethodName) ∈ lw_all := tb_mem 1207 (by decide +kernel) rfl
theorem tw_1004 : Cond.fieldLink "OptimisticStoreModel" 180 "OptimisticStoreModel" "constraintMany" "I" ∈ lw_all := tb_mem 1004 (by decide +kernel) rfl
theorem tw_1237 : Cond.instanceMethod (yX6_isViolated : MethodName) ∈ lw_all := tb_mem 1237 (by decide +kernel) rfl
theorem sp_61 : Cond.selects "OptimisticStoreModel" yX6_isViolated yX6_isViolated ∈ lw_all := sp_mem 61 (by decide +kernel) rfl
theorem tw_1238 : Cond.code yX6_isViolated cX6_isViolated 8 (some .boolean) ∈ lw_all := tb_mem 1238 (by decide +kernel) rfl
theorem mw_X6_isViolated : MVw yX6_isViolated cX6_isViolated 8 (some .boolean) 2 := ⟨tw_1237, sp_61, tw_5, tw_1238, by decide, by decide, by decide +kernel⟩
theorem tw_1235 : Cond.methodLink "OptimisticStoreModel" 183 (yX6_isViolated : MethodName) ∈ lw_all := tb_mem 1235 (by decide +kernel) rfl
theorem tw_1229 : Cond.instanceMethod (yX6_loses : MethodName) ∈ lw_all := tb_mem 1229 (by decide +kernel) rfl
theorem sp_59 : Cond.selects "OptimisticStoreModel" yX6_loses yX6_loses ∈ lw_all := sp_mem 59 (by decide +kernel) rfl
theorem tw_1230 : Cond.code yX6_loses cX6_loses 4 (some .boolean) ∈ lw_all := tb_mem 1230 (by decide +kernel) rfl
theorem mw_X6_loses : MVw yX6_loses cX6_loses 4 (some .boolean) 1 := ⟨tw_1229, sp_59, tw_5, tw_1230, by decide, by decide, by decide +kernel⟩
theorem tw_1227 : Cond.methodLink "OptimisticStoreModel" 186 (yX6_loses : MethodName) ∈ lw_all := tb_mem 1227 (by decide +kernel) rfl
theorem tw_1233 : Cond.instanceMethod (yX6_violates : MethodName) ∈ lw_all := tb_mem 1233 (by decide +kernel) rfl
theorem sp_60 : Cond.selects "OptimisticStoreModel" yX6_violates yX6_violates ∈ lw_all := sp_mem 60 (by decide +kernel) rfl
theorem tw_1234 : Cond.code yX6_violates cX6_violates 4 (some .boolean) ∈ lw_all := tb_mem 1234 (by decide +kernel) rfl
theorem mw_X6_violates : MVw yX6_violates cX6_violates 4 (some .boolean) 1 := ⟨tw_1233, sp_60, tw_5, tw_1234, by decide, by decide, by decide +kernel⟩
theorem tw_1231 : Cond.methodLink "OptimisticStoreModel" 189 (yX6_violates : MethodName) ∈ lw_all := tb_mem 1231 (by decide +kernel) rfl
theorem tw_1241 : Cond.instanceMethod (yX6_endWith : MethodName) ∈ lw_all := tb_mem 1241 (by decide +kernel) rfl
theorem sp_62 : Cond.selects "OptimisticStoreModel" yX6_endWith yX6_endWith ∈ lw_all := sp_mem 62 (by decide +kernel) rfl
theorem tw_1242 : Cond.code yX6_endWith cX6_endWith 3 none ∈ lw_all := tb_mem 1242 (by decide +kernel) rfl
theorem mw_X6_endWith : MVw yX6_endWith cX6_endWith 3 none 2 := ⟨tw_1241, sp_62, tw_5, tw_1242, by decide, by decide, by decide +kernel⟩
theorem tw_1239 : Cond.methodLink "OptimisticStoreModel" 192 (yX6_endWith : MethodName) ∈ lw_all := tb_mem 1239 (by decide +kernel) rfl
theorem tw_1225 : Cond.instanceMethod (yX6_doCommit : MethodName) ∈ lw_all := tb_mem 1225 (by decide +kernel) rfl
theorem sp_58 : Cond.selects "OptimisticStoreModel" yX6_doCommit yX6_doCommit ∈ lw_all := sp_mem 58 (by decide +kernel) rfl
theorem tw_1226 : Cond.code yX6_doCommit cX6_doCommit 6 (some .int) ∈ lw_all := tb_mem 1226 (by decide +kernel) rfl
theorem mw_X6_doCommit : MVw yX6_doCommit cX6_doCommit 6 (some .int) 1 := ⟨tw_1225, sp_58, tw_5, tw_1226, by decide, by decide, by decide +kernel⟩
theorem tw_1223 : Cond.methodLink "OptimisticStoreModel" 195 (yX6_doCommit : MethodName) ∈ lw_all := tb_mem 1223 (by decide +kernel) rfl
theorem tw_1309 : Cond.instanceMethod (yX6_lastWriter : MethodName) ∈ lw_all := tb_mem 1309 (by decide +kernel) rfl
theorem sp_63 : Cond.selects "OptimisticStoreModel" yX6_lastWriter yX6_lastWriter ∈ lw_all := sp_mem 63 (by decide +kernel) rfl
theorem tw_1310 : Cond.code yX6_lastWriter cX6_lastWriter 5 (some .int) ∈ lw_all := tb_mem 1310 (by decide +kernel) rfl
theorem mw_X6_lastWriter : MVw yX6_lastWriter cX6_lastWriter 5 (some .int) 2 := ⟨tw_1309, sp_63, tw_5, tw_1310, by decide, by decide, by decide +kernel⟩
theorem tw_1307 : Cond.methodLink "OptimisticStoreModel" 198 (yX6_lastWriter : MethodName) ∈ lw_all := tb_mem 1307 (by decide +kernel) rfl
theorem tw_1317 : Cond.instanceMethod (yX6_isCommit : MethodName) ∈ lw_all := tb_mem 1317 (by decide +kernel) rfl
theorem sp_64 : Cond.selects "OptimisticStoreModel" yX6_isCommit yX6_isCommit ∈ lw_all := sp_mem 64 (by decide +kernel) rfl
theorem tw_1318 : Cond.code yX6_isCommit cX6_isCommit 2 (some .boolean) ∈ lw_all := tb_mem 1318 (by decide +kernel) rfl
theorem mw_X6_isCommit : MVw yX6_isCommit cX6_isCommit 2 (some .boolean) 1 := ⟨tw_1317, sp_64, tw_5, tw_1318, by decide, by decide, by decide +kernel⟩
theorem tw_1315 : Cond.methodLink "OptimisticStoreModel" 201 (yX6_isCommit : MethodName) ∈ lw_all := tb_mem 1315 (by decide +kernel) rfl
theorem tw_1325 : Cond.instanceMethod (yX6_dependencyOf : MethodName) ∈ lw_all := tb_mem 1325 (by decide +kernel) rfl
theorem sp_65 : Cond.selects "OptimisticStoreModel" yX6_dependencyOf yX6_dependencyOf ∈ lw_all := sp_mem 65 (by decide +kernel) rfl
theorem tw_1326 : Cond.code yX6_dependencyOf cX6_dependencyOf 10 (some .int) ∈ lw_all := tb_mem 1326 (by decide +kernel) rfl
theorem mw_X6_dependencyOf : MVw yX6_dependencyOf cX6_dependencyOf 10 (some .int) 2 := ⟨tw_1325, sp_65, tw_5, tw_1326, by decide, by decide, by decide +kernel⟩
theorem tw_1323 : Cond.methodLink "OptimisticStoreModel" 204 (yX6_dependencyOf : MethodName) ∈ lw_all := tb_mem 1323 (by decide +kernel) rfl
theorem tw_1331 : Cond.methodLink "OptimisticStoreModel" 207 (⟨"java/lang/Math", "max", "(II)I"⟩ : MethodName) ∈ lw_all := tb_mem 1331 (by decide +kernel) rfl
theorem tw_1342 : Cond.instanceMethod (yX6_again : MethodName) ∈ lw_all := tb_mem 1342 (by decide +kernel) rfl
theorem sp_67 : Cond.selects "OptimisticStoreModel" yX6_again yX6_again ∈ lw_all := sp_mem 67 (by decide +kernel) rfl
theorem tw_1343 : Cond.code yX6_again cX6_again 6 (some .int) ∈ lw_all := tb_mem 1343 (by decide +kernel) rfl
theorem mw_X6_again : MVw yX6_again cX6_again 6 (some .int) 1 := ⟨tw_1342, sp_67, tw_5, tw_1343, by decide, by decide, by decide +kernel⟩
theorem tw_1340 : Cond.methodLink "OptimisticStoreModel" 212 (yX6_again : MethodName) ∈ lw_all := tb_mem 1340 (by decide +kernel) rfl
theorem tw_1338 : Cond.instanceMethod (yX6_hasFault : MethodName) ∈ lw_all := tb_mem 1338 (by decide +kernel) rfl
theorem sp_66 : Cond.selects "OptimisticStoreModel" yX6_hasFault yX6_hasFault ∈ lw_all := sp_mem 66 (by decide +kernel) rfl
theorem tw_1339 : Cond.code yX6_hasFault cX6_hasFault 5 (some .boolean) ∈ lw_all := tb_mem 1339 (by decide +kernel) rfl
theorem mw_X6_hasFault : MVw yX6_hasFault cX6_hasFault 5 (some .boolean) 1 := ⟨tw_1338, sp_66, tw_5, tw_1339, by decide, by decide, by decide +kernel⟩
theorem tw_1336 : Cond.methodLink "OptimisticStoreModel" 215 (yX6_hasFault : MethodName) ∈ lw_all := tb_mem 1336 (by decide +kernel) rfl
theorem tw_1362 : Cond.instanceMethod (yX6_countOf : MethodName) ∈ lw_all := tb_mem 1362 (by decide +kernel) rfl
theorem sp_68 : Cond.selects "OptimisticStoreModel" yX6_countOf yX6_countOf ∈ lw_all := sp_mem 68 (by decide +kernel) rfl
theorem tw_1363 : Cond.code yX6_countOf cX6_countOf 5 (some .int) ∈ lw_all := tb_mem 1363 (by decide +kernel) rfl
theorem mw_X6_countOf : MVw yX6_countOf cX6_countOf 5 (some .int) 2 := ⟨tw_1362, sp_68, tw_5, tw_1363, by decide, by decide, by decide +kernel⟩
theorem tw_1360 : Cond.methodLink "OptimisticStoreModel" 218 (yX6_countOf : MethodName) ∈ lw_all := tb_mem 1360 (by decide +kernel) rfl
theorem tw_1008 : Cond.fieldLink "OptimisticStoreModel" 221 "OptimisticStoreModel" "typed" "I" ∈ lw_all := tb_mem 1008 (by decide +kernel) rfl
theorem tw_1010 : Cond.fieldLink "OptimisticStoreModel" 224 "OptimisticStoreModel" "at" "I" ∈ lw_all := tb_mem 1010 (by decide +kernel) rfl
theorem tw_1009 : Cond.fieldLink "OptimisticStoreModel" 227 "OptimisticStoreModel" "end" "I" ∈ lw_all := tb_mem 1009 (by decide +kernel) rfl
theorem tw_1394 : Cond.instanceMethod (yX6_sign : MethodName) ∈ lw_all := tb_mem 1394 (by decide +kernel) rfl
theorem sp_72 : Cond.selects "OptimisticStoreModel" yX6_sign yX6_sign ∈ lw_all := sp_mem 72 (by decide +kernel) rfl
theorem tw_1395 : Cond.code yX6_sign cX6_sign 1 (some .int) ∈ lw_all := tb_mem 1395 (by decide +kernel) rfl
theorem mw_X6_sign : MVw yX6_sign cX6_sign 1 (some .int) 0 := ⟨tw_1394, sp_72, tw_5, tw_1395, by decide, by decide, by decide +kernel⟩
theorem tw_1392 : Cond.methodLink "OptimisticStoreModel" 230 (yX6_sign : MethodName) ∈ lw_all := tb_mem 1392 (by decide +kernel) rfl
theorem tw_1390 : Cond.instanceMethod (yX6_goes : MethodName) ∈ lw_all := tb_mem 1390 (by decide +kernel) rfl
theorem sp_71 : Cond.selects "OptimisticStoreModel" yX6_goes yX6_goes ∈ lw_all := sp_mem 71 (by decide +kernel) rfl
theorem tw_1391 : Cond.code yX6_goes cX6_goes 3 (some .boolean) ∈ lw_all := tb_mem 1391 (by decide +kernel) rfl
theorem mw_X6_goes : MVw yX6_goes cX6_goes 3 (some .boolean) 1 := ⟨tw_1390, sp_71, tw_5, tw_1391, by decide, by decide, by decide +kernel⟩
theorem tw_1388 : Cond.methodLink "OptimisticStoreModel" 233 (yX6_goes : MethodName) ∈ lw_all := tb_mem 1388 (by decide +kernel) rfl
theorem tw_1398 : Cond.instanceMethod (yX6_fault : MethodName) ∈ lw_all := tb_mem 1398 (by decide +kernel) rfl
theorem sp_73 : Cond.selects "OptimisticStoreModel" yX6_fault yX6_fault ∈ lw_all := sp_mem 73 (by decide +kernel) rfl
theorem tw_1399 : Cond.code yX6_fault cX6_fault 1 none ∈ lw_all := tb_mem 1399 (by decide +kernel) rfl
theorem mw_X6_fault : MVw yX6_fault cX6_fault 1 none 0 := ⟨tw_1398, sp_73, tw_5, tw_1399, by decide, by decide, by decide +kernel⟩
theorem tw_1396 : Cond.methodLink "OptimisticStoreModel" 237 (yX6_fault : MethodName) ∈ lw_all := tb_mem 1396 (by decide +kernel) rfl
theorem tw_1410 : Cond.instanceMethod (yX6_isDigit : MethodName) ∈ lw_all := tb_mem 1410 (by decide +kernel) rfl
theorem sp_76 : Cond.selects "OptimisticStoreModel" yX6_isDigit yX6_isDigit ∈ lw_all := sp_mem 76 (by decide +kernel) rfl
theorem tw_1411 : Cond.code yX6_isDigit cX6_isDigit 1 (some .boolean) ∈ lw_all := tb_mem 1411 (by decide +kernel) rfl
theorem mw_X6_isDigit : MVw yX6_isDigit cX6_isDigit 1 (some .boolean) 0 := ⟨tw_1410, sp_76, tw_5, tw_1411, by decide, by decide, by decide +kernel⟩
theorem tw_1408 : Cond.methodLink "OptimisticStoreModel" 239 (yX6_isDigit : MethodName) ∈ lw_all := tb_mem 1408 (by decide +kernel) rfl
theorem tw_1406 : Cond.instanceMethod (yX6_digits : MethodName) ∈ lw_all := tb_mem 1406 (by decide +kernel) rfl
theorem sp_75 : Cond.selects "OptimisticStoreModel" yX6_digits yX6_digits ∈ lw_all := sp_mem 75 (by decide +kernel) rfl
theorem tw_1407 : Cond.code yX6_digits cX6_digits 5 (some .int) ∈ lw_all := tb_mem 1407 (by decide +kernel) rfl
theorem mw_X6_digits : MVw yX6_digits cX6_digits 5 (some .int) 2 := ⟨tw_1406, sp_75, tw_5, tw_1407, by decide, by decide, by decide +kernel⟩
theorem tw_1404 : Cond.methodLink "OptimisticStoreModel" 242 (yX6_digits : MethodName) ∈ lw_all := tb_mem 1404 (by decide +kernel) rfl
theorem tw_1013 : Cond.fieldLink "OptimisticStoreModel" 245 "OptimisticStoreModel" "stepMany" "I" ∈ lw_all := tb_mem 1013 (by decide +kernel) rfl
theorem tw_1402 : Cond.instanceMethod (yX6_readKey : MethodName) ∈ lw_all := tb_mem 1402 (by decide +kernel) rfl
theorem sp_74 : Cond.selects "OptimisticStoreModel" yX6_readKey yX6_readKey ∈ lw_all := sp_mem 74 (by decide +kernel) rfl
theorem tw_1403 : Cond.code yX6_readKey cX6_readKey 1 (some .int) ∈ lw_all := tb_mem 1403 (by decide +kernel) rfl
theorem mw_X6_readKey : MVw yX6_readKey cX6_readKey 1 (some .int) 0 := ⟨tw_1402, sp_74, tw_5, tw_1403, by decide, by decide, by decide +kernel⟩
theorem tw_1400 : Cond.methodLink "OptimisticStoreModel" 248 (yX6_readKey : MethodName) ∈ lw_all := tb_mem 1400 (by decide +kernel) rfl
theorem tw_1414 : Cond.instanceMethod (yX6_expect : MethodName) ∈ lw_all := tb_mem 1414 (by decide +kernel) rfl
theorem sp_77 : Cond.selects "OptimisticStoreModel" yX6_expect yX6_expect ∈ lw_all := sp_mem 77 (by decide +kernel) rfl
theorem tw_1415 : Cond.code yX6_expect cX6_expect 2 none ∈ lw_all := tb_mem 1415 (by decide +kernel) rfl
theorem mw_X6_expect : MVw yX6_expect cX6_expect 2 none 1 := ⟨tw_1414, sp_77, tw_5, tw_1415, by decide, by decide, by decide +kernel⟩
theorem tw_1412 : Cond.methodLink "OptimisticStoreModel" 251 (yX6_expect : MethodName) ∈ lw_all := tb_mem 1412 (by decide +kernel) rfl
theorem tw_1386 : Cond.instanceMethod (yX6_readStep : MethodName) ∈ lw_all := tb_mem 1386 (by decide +kernel) rfl
theorem sp_70 : Cond.selects "OptimisticStoreModel" yX6_readStep yX6_readStep ∈ lw_all := sp_mem 70 (by decide +kernel) rfl
theorem tw_1387 : Cond.code yX6_readStep cX6_readStep 4 none ∈ lw_all := tb_mem 1387 (by decide +kernel) rfl
theorem mw_X6_readStep : MVw yX6_readStep cX6_readStep 4 none 0 := ⟨tw_1386, sp_70, tw_5, tw_1387, by decide, by decide, by decide +kernel⟩
theorem tw_1384 : Cond.methodLink "OptimisticStoreModel" 255 (yX6_readStep : MethodName) ∈ lw_all := tb_mem 1384 (by decide +kernel) rfl
theorem tw_1114 : Cond.instanceMethod (yX6_read : MethodName) ∈ lw_all := tb_mem 1114 (by decide +kernel) rfl
theorem tw_1115 : Cond.selects "OptimisticStoreModel" (yX6_read : MethodName) (yX6_read : MethodName) ∈ lw_all := tb_mem 1115 (by decide +kernel) rfl
theorem tw_1116 : Cond.code yX6_read cX6_read 4 (some .int) ∈ lw_all := tb_mem 1116 (by decide +kernel) rfl
theorem mw_X6_read : MVw yX6_read cX6_read 4 (some .int) 2 := ⟨tw_1114, tw_1115, tw_5, tw_1116, by decide, by decide, by decide +kernel⟩
theorem tw_1420 : Cond.methodLink "OptimisticStoreModel" 258 (yX6_read : MethodName) ∈ lw_all := tb_mem 1420 (by decide +kernel) rfl
theorem tw_1164 : Cond.instanceMethod (yX6_write : MethodName) ∈ lw_all := tb_mem 1164 (by decide +kernel) rfl
theorem tw_1165 : Cond.selects "OptimisticStoreModel" (yX6_write : MethodName) (yX6_write : MethodName) ∈ lw_all := tb_mem 1165 (by decide +kernel) rfl
theorem tw_1166 : Cond.code yX6_write cX6_write 4 none ∈ lw_all := tb_mem 1166 (by decide +kernel) rfl
theorem mw_X6_write : MVw yX6_write cX6_write 4 none 3 := ⟨tw_1164, tw_1165, tw_5, tw_1166, by decide, by decide, by decide +kernel⟩
theorem tw_1421 : Cond.methodLink "OptimisticStoreModel" 261 (yX6_write : MethodName) ∈ lw_all := tb_mem 1421 (by decide +kernel) rfl
theorem tw_1168 : Cond.instanceMethod (yX6_remove : MethodName) ∈ lw_all := tb_mem 1168 (by decide +kernel) rfl
theorem tw_1169 : Cond.selects "OptimisticStoreModel" (yX6_remove : MethodName) (yX6_remove : MethodName) ∈ lw_all := tb_mem 1169 (by decide +kernel) rfl
theorem tw_1170 : Cond.code yX6_remove cX6_remove 3 none ∈ lw_all := tb_mem 1170 (by decide +kernel) rfl
theorem mw_X6_remove : MVw yX6_remove cX6_remove 3 none 2 := ⟨tw_1168, tw_1169, tw_5, tw_1170, by decide, by decide, by decide +kernel⟩
theorem tw_1422 : Cond.methodLink "OptimisticStoreModel" 265 (yX6_remove : MethodName) ∈ lw_all := tb_mem 1422 (by decide +kernel) rfl
theorem tw_1172 : Cond.instanceMethod (yX6_add : MethodName) ∈ lw_all := tb_mem 1172 (by decide +kernel) rfl
theorem tw_1173 : Cond.selects "OptimisticStoreModel" (yX6_add : MethodName) (yX6_add : MethodName) ∈ lw_all := tb_mem 1173 (by decide +kernel) rfl
theorem tw_1174 : Cond.code yX6_add cX6_add 5 (some .int) ∈ lw_all := tb_mem 1174 (by decide +kernel) rfl
theorem mw_X6_add : MVw yX6_add cX6_add 5 (some .int) 3 := ⟨tw_1172, tw_1173, tw_5, tw_1174, by decide, by decide, by decide +kernel⟩
theorem tw_1423 : Cond.methodLink "OptimisticStoreModel" 268 (yX6_add : MethodName) ∈ lw_all := tb_mem 1423 (by decide +kernel) rfl
theorem tw_1156 : Cond.instanceMethod (yX6_sum : MethodName) ∈ lw_all := tb_mem 1156 (by decide +kernel) rfl
theorem tw_1157 : Cond.selects "OptimisticStoreModel" (yX6_sum : MethodName) (yX6_sum : MethodName) ∈ lw_all := tb_mem 1157 (by decide +kernel) rfl
theorem tw_1158 : Cond.code yX6_sum cX6_sum 5 (some .int) ∈ lw_all := tb_mem 1158 (by decide +kernel) rfl
theorem mw_X6_sum : MVw yX6_sum cX6_sum 5 (some .int) 3 := ⟨tw_1156, tw_1157, tw_5, tw_1158, by decide, by decide, by decide +kernel⟩
theorem tw_1424 : Cond.methodLink "OptimisticStoreModel" 271 (yX6_sum : MethodName) ∈ lw_all := tb_mem 1424 (by decide +kernel) rfl
theorem tw_1382 : Cond.instanceMethod (yX6_readScript : MethodName) ∈ lw_all := tb_mem 1382 (by decide +kernel) rfl
theorem sp_69 : Cond.selects "OptimisticStoreModel" yX6_readScript yX6_readScript ∈ lw_all := sp_mem 69 (by decide +kernel) rfl
theorem tw_1383 : Cond.code yX6_readScript cX6_readScript 1 none ∈ lw_all := tb_mem 1383 (by decide +kernel) rfl
theorem mw_X6_readScript : MVw yX6_readScript cX6_readScript 1 none 0 := ⟨tw_1382, sp_69, tw_5, tw_1383, by decide, by decide, by decide +kernel⟩
theorem tw_1380 : Cond.methodLink "OptimisticStoreModel" 274 (yX6_readScript : MethodName) ∈ lw_all := tb_mem 1380 (by decide +kernel) rfl
theorem tw_1418 : Cond.instanceMethod (yX6_doStep : MethodName) ∈ lw_all := tb_mem 1418 (by decide +kernel) rfl
theorem sp_78 : Cond.selects "OptimisticStoreModel" yX6_doStep yX6_doStep ∈ lw_all := sp_mem 78 (by decide +kernel) rfl
theorem tw_1419 : Cond.code yX6_doStep cX6_doStep 5 none ∈ lw_all := tb_mem 1419 (by decide +kernel) rfl
theorem mw_X6_doStep : MVw yX6_doStep cX6_doStep 5 none 2 := ⟨tw_1418, sp_78, tw_5, tw_1419, by decide, by decide, by decide +kernel⟩
theorem tw_1416 : Cond.methodLink "OptimisticStoreModel" 277 (yX6_doStep : MethodName) ∈ lw_all := tb_mem 1416 (by decide +kernel) rfl
theorem tw_228 : Cond.instanceMethod (yX5_configure : MethodName) ∈ lw_all := tb_mem 228 (by decide +kernel) rfl
theorem tw_229 : Cond.selects "OptimisticStore" (yX5_configure : MethodName) (yX5_configure : MethodName) ∈ lw_all := tb_mem 229 (by decide +kernel) rfl
theorem tw_230 : Cond.code yX5_configure cX5_configure 4 none ∈ lw_all := tb_mem 230 (by decide +kernel) rfl
theorem mw_X5_configure : MVw yX5_configure cX5_configure 4 none 3 := ⟨tw_228, tw_229, tw_1, tw_230, by decide, by decide, by decide +kernel⟩
theorem tw_227 : Cond.methodLink "OptimisticStoreLaw" 7 (yX5_configure : MethodName) ∈ lw_all := tb_mem 227 (by decide +kernel) rfl
theorem tw_225 : Cond.classLink "OptimisticStoreLaw" 13 "java/lang/IllegalArgumentException" ∈ lw_all := tb_mem 225 (by decide +kernel) rfl
theorem tw_226 : Cond.classLink "OptimisticStoreLaw" 15 "java/lang/IllegalStateException" ∈ lw_all := tb_mem 226 (by decide +kernel) rfl
theorem tw_325 : Cond.instanceMethod (yX5_begin : MethodName) ∈ lw_all := tb_mem 325 (by decide +kernel) rfl
theorem tw_326 : Cond.selects "OptimisticStore" (yX5_begin : MethodName) (yX5_begin : MethodName) ∈ lw_all := tb_mem 326 (by decide +kernel) rfl
theorem tw_327 : Cond.code yX5_begin cX5_begin 1 (some .int) ∈ lw_all := tb_mem 327 (by decide +kernel) rfl
theorem mw_X5_begin : MVw yX5_begin cX5_begin 1 (some .int) 0 := ⟨tw_325, tw_326, tw_1, tw_327, by decide, by decide, by decide +kernel⟩
theorem tw_324 : Cond.methodLink "OptimisticStoreLaw" 17 (yX5_begin : MethodName) ∈ lw_all := tb_mem 324 (by decide +kernel) rfl
theorem tw_423 : Cond.instanceMethod (yX5_retry : MethodName) ∈ lw_all := tb_mem 423 (by decide +kernel) rfl
theorem tw_424 : Cond.selects "OptimisticStore" (yX5_retry : MethodName) (yX5_retry : MethodName) ∈ lw_all := tb_mem 424 (by decide +kernel) rfl
theorem tw_425 : Cond.code yX5_retry cX5_retry 3 (some .int) ∈ lw_all := tb_mem 425 (by decide +kernel) rfl
theorem mw_X5_retry : MVw yX5_retry cX5_retry 3 (some .int) 1 := ⟨tw_423, tw_424, tw_1, tw_425, by decide, by decide, by decide +kernel⟩
theorem tw_422 : Cond.methodLink "OptimisticStoreLaw" 21 (yX5_retry : MethodName) ∈ lw_all := tb_mem 422 (by decide +kernel) rfl
theorem tw_398 : Cond.classLink "OptimisticStoreLaw" 25 "java/lang/IndexOutOfBoundsException" ∈ lw_all := tb_mem 398 (by decide +kernel) rfl
theorem tw_448 : Cond.instanceMethod (yX5_read : MethodName) ∈ lw_all := tb_mem 448 (by decide +kernel) rfl
theorem tw_449 : Cond.selects "OptimisticStore" (yX5_read : MethodName) (yX5_read : MethodName) ∈ lw_all := tb_mem 449 (by decide +kernel) rfl
theorem tw_450 : Cond.code yX5_read cX5_read 3 (some .int) ∈ lw_all := tb_mem 450 (by decide +kernel) rfl
theorem mw_X5_read : MVw yX5_read cX5_read 3 (some .int) 2 := ⟨tw_448, tw_449, tw_1, tw_450, by decide, by decide, by decide +kernel⟩
theorem tw_447 : Cond.methodLink "OptimisticStoreLaw" 27 (yX5_read : MethodName) ∈ lw_all := tb_mem 447 (by decide +kernel) rfl
theorem tw_553 : Cond.instanceMethod (yX5_scan : MethodName) ∈ lw_all := tb_mem 553 (by decide +kernel) rfl
theorem tw_554 : Cond.selects "OptimisticStore" (yX5_scan : MethodName) (yX5_scan : MethodName) ∈ lw_all := tb_mem 554 (by decide +kernel) rfl
theorem tw_555 : Cond.code yX5_scan cX5_scan 5 (some .int) ∈ lw_all := tb_mem 555 (by decide +kernel) rfl
theorem mw_X5_scan : MVw yX5_scan cX5_scan 5 (some .int) 4 := ⟨tw_553, tw_554, tw_1, tw_555, by decide, by decide, by decide +kernel⟩
theorem tw_552 : Cond.methodLink "OptimisticStoreLaw" 31 (yX5_scan : MethodName) ∈ lw_all := tb_mem 552 (by decide +kernel) rfl
theorem tw_560 : Cond.instanceMethod (yX5_sum : MethodName) ∈ lw_all := tb_mem 560 (by decide +kernel) rfl
theorem tw_561 : Cond.selects "OptimisticStore" (yX5_sum : MethodName) (yX5_sum : MethodName) ∈ lw_all := tb_mem 561 (by decide +kernel) rfl
theorem tw_562 : Cond.code yX5_sum cX5_sum 4 (some .int) ∈ lw_all := tb_mem 562 (by decide +kernel) rfl
theorem mw_X5_sum : MVw yX5_sum cX5_sum 4 (some .int) 3 := ⟨tw_560, tw_561, tw_1, tw_562, by decide, by decide, by decide +kernel⟩
theorem tw_559 : Cond.methodLink "OptimisticStoreLaw" 35 (yX5_sum : MethodName) ∈ lw_all := tb_mem 559 (by decide +kernel) rfl
theorem tw_567 : Cond.instanceMethod (yX5_write : MethodName) ∈ lw_all := tb_mem 567 (by decide +kernel) rfl
theorem tw_568 : Cond.selects "OptimisticStore" (yX5_write : MethodName) (yX5_write : MethodName) ∈ lw_all := tb_mem 568 (by decide +kernel) rfl
theorem tw_569 : Cond.code yX5_write cX5_write 4 none ∈ lw_all := tb_mem 569 (by decide +kernel) rfl
theorem mw_X5_write : MVw yX5_write cX5_write 4 none 3 := ⟨tw_567, tw_568, tw_1, tw_569, by decide, by decide, by decide +kernel⟩
theorem tw_566 : Cond.methodLink "OptimisticStoreLaw" 39 (yX5_write : MethodName) ∈ lw_all := tb_mem 566 (by decide +kernel) rfl
theorem tw_574 : Cond.instanceMethod (yX5_remove : MethodName) ∈ lw_all := tb_mem 574 (by decide +kernel) rfl
theorem tw_575 : Cond.selects "OptimisticStore" (yX5_remove : MethodName) (yX5_remove : MethodName) ∈ lw_all := tb_mem 575 (by decide +kernel) rfl
theorem tw_576 : Cond.code yX5_remove cX5_remove 3 none ∈ lw_all := tb_mem 576 (by decide +kernel) rfl
theorem mw_X5_remove : MVw yX5_remove cX5_remove 3 none 2 := ⟨tw_574, tw_575, tw_1, tw_576, by decide, by decide, by decide +kernel⟩
theorem tw_573 : Cond.methodLink "OptimisticStoreLaw" 42 (yX5_remove : MethodName) ∈ lw_all := tb_mem 573 (by decide +kernel) rfl
theorem tw_582 : Cond.instanceMethod (yX5_add : MethodName) ∈ lw_all := tb_mem 582 (by decide +kernel) rfl
theorem tw_583 : Cond.selects "OptimisticStore" (yX5_add : MethodName) (yX5_add : MethodName) ∈ lw_all := tb_mem 583 (by decide +kernel) rfl
theorem tw_584 : Cond.code yX5_add cX5_add 4 (some .int) ∈ lw_all := tb_mem 584 (by decide +kernel) rfl
theorem mw_X5_add : MVw yX5_add cX5_add 4 (some .int) 3 := ⟨tw_582, tw_583, tw_1, tw_584, by decide, by decide, by decide +kernel⟩
theorem tw_581 : Cond.methodLink "OptimisticStoreLaw" 46 (yX5_add : MethodName) ∈ lw_all := tb_mem 581 (by decide +kernel) rfl
theorem tw_580 : Cond.classLink "OptimisticStoreLaw" 49 "java/lang/ArithmeticException" ∈ lw_all := tb_mem 580 (by decide +kernel) rfl
theorem tw_589 : Cond.instanceMethod (yX5_commit : MethodName) ∈ lw_all := tb_mem 589 (by decide +kernel) rfl
theorem tw_590 : Cond.selects "OptimisticStore" (yX5_commit : MethodName) (yX5_commit : MethodName) ∈ lw_all := tb_mem 590 (by decide +kernel) rfl
theorem tw_591 : Cond.code yX5_commit cX5_commit 3 (some .int) ∈ lw_all := tb_mem 591 (by decide +kernel) rfl
theorem mw_X5_commit : MVw yX5_commit cX5_commit 3 (some .int) 1 := ⟨tw_589, tw_590, tw_1, tw_591, by decide, by decide, by decide +kernel⟩
theorem tw_588 : Cond.methodLink "OptimisticStoreLaw" 51 (yX5_commit : MethodName) ∈ lw_all := tb_mem 588 (by decide +kernel) rfl
theorem tw_669 : Cond.instanceMethod (yX5_abort : MethodName) ∈ lw_all := tb_mem 669 (by decide +kernel) rfl
theorem tw_670 : Cond.selects "OptimisticStore" (yX5_abort : MethodName) (yX5_abort : MethodName) ∈ lw_all := tb_mem 670 (by decide +kernel) rfl
theorem tw_671 : Cond.code yX5_abort cX5_abort 2 none ∈ lw_all := tb_mem 671 (by decide +kernel) rfl
theorem mw_X5_abort : MVw yX5_abort cX5_abort 2 none 1 := ⟨tw_669, tw_670, tw_1, tw_671, by decide, by decide, by decide +kernel⟩
theorem tw_668 : Cond.methodLink "OptimisticStoreLaw" 54 (yX5_abort : MethodName) ∈ lw_all := tb_mem 668 (by decide +kernel) rfl
theorem tw_682 : Cond.instanceMethod (yX5_ticketHolder : MethodName) ∈ lw_all := tb_mem 682 (by decide +kernel) rfl
theorem tw_683 : Cond.selects "OptimisticStore" (yX5_ticketHolder : MethodName) (yX5_ticketHolder : MethodName) ∈ lw_all := tb_mem 683 (by decide +kernel) rfl
theorem tw_684 : Cond.code yX5_ticketHolder cX5_ticketHolder 1 (some .int) ∈ lw_all := tb_mem 684 (by decide +kernel) rfl
theorem mw_X5_ticketHolder : MVw yX5_ticketHolder cX5_ticketHolder 1 (some .int) 0 := ⟨tw_682, tw_683, tw_1, tw_684, by decide, by decide, by decide +kernel⟩
theorem tw_681 : Cond.methodLink "OptimisticStoreLaw" 58 (yX5_ticketHolder : MethodName) ∈ lw_all := tb_mem 681 (by decide +kernel) rfl
theorem tw_680 : Cond.classLink "OptimisticStoreLaw" 61 "java/util/NoSuchElementException" ∈ lw_all := tb_mem 680 (by decide +kernel) rfl
theorem tw_705 : Cond.instanceMethod (yX5_state : MethodName) ∈ lw_all := tb_mem 705 (by decide +kernel) rfl
theorem tw_706 : Cond.selects "OptimisticStore" (yX5_state : MethodName) (yX5_state : MethodName) ∈ lw_all := tb_mem 706 (by decide +kernel) rfl
theorem tw_707 : Cond.code yX5_state cX5_state 2 (some .int) ∈ lw_all := tb_mem 707 (by decide +kernel) rfl
theorem mw_X5_state : MVw yX5_state cX5_state 2 (some .int) 1 := ⟨tw_705, tw_706, tw_1, tw_707, by decide, by decide, by decide +kernel⟩
theorem tw_704 : Cond.methodLink "OptimisticStoreLaw" 63 (yX5_state : MethodName) ∈ lw_all := tb_mem 704 (by decide +kernel) rfl
theorem tw_712 : Cond.instanceMethod (yX5_attempt : MethodName) ∈ lw_all := tb_mem 712 (by decide +kernel) rfl
theorem tw_713 : Cond.selects "OptimisticStore" (yX5_attempt : MethodName) (yX5_attempt : MethodName) ∈ lw_all := tb_mem 713 (by decide +kernel) rfl
theorem tw_714 : Cond.code yX5_attempt cX5_attempt 2 (some .int) ∈ lw_all := tb_mem 714 (by decide +kernel) rfl
theorem mw_X5_attempt : MVw yX5_attempt cX5_attempt 2 (some .int) 1 := ⟨tw_712, tw_713, tw_1, tw_714, by decide, by decide, by decide +kernel⟩
theorem tw_711 : Cond.methodLink "OptimisticStoreLaw" 66 (yX5_attempt : MethodName) ∈ lw_all := tb_mem 711 (by decide +kernel) rfl
theorem tw_719 : Cond.instanceMethod (yX5_reason : MethodName) ∈ lw_all := tb_mem 719 (by decide +kernel) rfl
theorem tw_720 : Cond.selects "OptimisticStore" (yX5_reason : MethodName) (yX5_reason : MethodName) ∈ lw_all := tb_mem 720 (by decide +kernel) rfl
theorem tw_721 : Cond.code yX5_reason cX5_reason 3 (some .int) ∈ lw_all := tb_mem 721 (by decide +kernel) rfl
theorem mw_X5_reason : MVw yX5_reason cX5_reason 3 (some .int) 1 := ⟨tw_719, tw_720, tw_1, tw_721, by decide, by decide, by decide +kernel⟩
theorem tw_718 : Cond.methodLink "OptimisticStoreLaw" 69 (yX5_reason : MethodName) ∈ lw_all := tb_mem 718 (by decide +kernel) rfl
theorem tw_727 : Cond.instanceMethod (yX5_commitOf : MethodName) ∈ lw_all := tb_mem 727 (by decide +kernel) rfl
theorem tw_728 : Cond.selects "OptimisticStore" (yX5_commitOf : MethodName) (yX5_commitOf : MethodName) ∈ lw_all := tb_mem 728 (by decide +kernel) rfl
theorem tw_729 : Cond.code yX5_commitOf cX5_commitOf 3 (some .int) ∈ lw_all := tb_mem 729 (by decide +kernel) rfl
theorem mw_X5_commitOf : MVw yX5_commitOf cX5_commitOf 3 (some .int) 1 := ⟨tw_727, tw_728, tw_1, tw_729, by decide, by decide, by decide +kernel⟩
theorem tw_726 : Cond.methodLink "OptimisticStoreLaw" 72 (yX5_commitOf : MethodName) ∈ lw_all := tb_mem 726 (by decide +kernel) rfl
theorem tw_735 : Cond.instanceMethod (yX5_operationCount : MethodName) ∈ lw_all := tb_mem 735 (by decide +kernel) rfl
theorem tw_736 : Cond.selects "OptimisticStore" (yX5_operationCount : MethodName) (yX5_operationCount : MethodName) ∈ lw_all := tb_mem 736 (by decide +kernel) rfl
theorem tw_737 : Cond.code yX5_operationCount cX5_operationCount 2 (some .int) ∈ lw_all := tb_mem 737 (by decide +kernel) rfl
theorem mw_X5_operationCount : MVw yX5_operationCount cX5_operationCount 2 (some .int) 1 := ⟨tw_735, tw_736, tw_1, tw_737, by decide, by decide, by decide +kernel⟩
theorem tw_734 : Cond.methodLink "OptimisticStoreLaw" 75 (yX5_operationCount : MethodName) ∈ lw_all := tb_mem 734 (by decide +kernel) rfl
theorem tw_742 : Cond.instanceMethod (yX5_recordedKeys : MethodName) ∈ lw_all := tb_mem 742 (by decide +kernel) rfl
theorem tw_743 : Cond.selects "OptimisticStore" (yX5_recordedKeys : MethodName) (yX5_recordedKeys : MethodName) ∈ lw_all := tb_mem 743 (by decide +kernel) rfl
theorem tw_744 : Cond.code yX5_recordedKeys cX5_recordedKeys 2 (some .int) ∈ lw_all := tb_mem 744 (by decide +kernel) rfl
theorem mw_X5_recordedKeys : MVw yX5_recordedKeys cX5_recordedKeys 2 (some .int) 1 := ⟨tw_742, tw_743, tw_1, tw_744, by decide, by decide, by decide +kernel⟩
theorem tw_741 : Cond.methodLink "OptimisticStoreLaw" 78 (yX5_recordedKeys : MethodName) ∈ lw_all := tb_mem 741 (by decide +kernel) rfl
theorem tw_749 : Cond.instanceMethod (yX5_predicateCount : MethodName) ∈ lw_all := tb_mem 749 (by decide +kernel) rfl
theorem tw_750 : Cond.selects "OptimisticStore" (yX5_predicateCount : MethodName) (yX5_predicateCount : MethodName) ∈ lw_all := tb_mem 750 (by decide +kernel) rfl
theorem tw_751 : Cond.code yX5_predicateCount cX5_predicateCount 2 (some .int) ∈ lw_all := tb_mem 751 (by decide +kernel) rfl
theorem mw_X5_predicateCount : MVw yX5_predicateCount cX5_predicateCount 2 (some .int) 1 := ⟨tw_749, tw_750, tw_1, tw_751, by decide, by decide, by decide +kernel⟩
theorem tw_748 : Cond.methodLink "OptimisticStoreLaw" 81 (yX5_predicateCount : MethodName) ∈ lw_all := tb_mem 748 (by decide +kernel) rfl
theorem tw_761 : Cond.instanceMethod (yX5_writtenKeys : MethodName) ∈ lw_all := tb_mem 761 (by decide +kernel) rfl
theorem tw_762 : Cond.selects "OptimisticStore" (yX5_writtenKeys : MethodName) (yX5_writtenKeys : MethodName) ∈ lw_all := tb_mem 762 (by decide +kernel) rfl
theorem tw_763 : Cond.code yX5_writtenKeys cX5_writtenKeys 2 (some .int) ∈ lw_all := tb_mem 763 (by decide +kernel) rfl
theorem mw_X5_writtenKeys : MVw yX5_writtenKeys cX5_writtenKeys 2 (some .int) 1 := ⟨tw_761, tw_762, tw_1, tw_763, by decide, by decide, by decide +kernel⟩
theorem tw_760 : Cond.methodLink "OptimisticStoreLaw" 84 (yX5_writtenKeys : MethodName) ∈ lw_all := tb_mem 760 (by decide +kernel) rfl
theorem tw_768 : Cond.instanceMethod (yX5_isStale : MethodName) ∈ lw_all := tb_mem 768 (by decide +kernel) rfl
theorem tw_769 : Cond.selects "OptimisticStore" (yX5_isStale : MethodName) (yX5_isStale : MethodName) ∈ lw_all := tb_mem 769 (by decide +kernel) rfl
theorem tw_770 : Cond.code yX5_isStale cX5_isStale 2 (some .boolean) ∈ lw_all := tb_mem 770 (by decide +kernel) rfl
theorem mw_X5_isStale : MVw yX5_isStale cX5_isStale 2 (some .boolean) 1 := ⟨tw_768, tw_769, tw_1, tw_770, by decide, by decide, by decide +kernel⟩
theorem tw_767 : Cond.methodLink "OptimisticStoreLaw" 87 (yX5_isStale : MethodName) ∈ lw_all := tb_mem 767 (by decide +kernel) rfl
theorem tw_775 : Cond.instanceMethod (yX5_rivals : MethodName) ∈ lw_all := tb_mem 775 (by decide +kernel) rfl
theorem tw_776 : Cond.selects "OptimisticStore" (yX5_rivals : MethodName) (yX5_rivals : MethodName) ∈ lw_all := tb_mem 776 (by decide +kernel) rfl
theorem tw_777 : Cond.code yX5_rivals cX5_rivals 2 (some .int) ∈ lw_all := tb_mem 777 (by decide +kernel) rfl
theorem mw_X5_rivals : MVw yX5_rivals cX5_rivals 2 (some .int) 1 := ⟨tw_775, tw_776, tw_1, tw_777, by decide, by decide, by decide +kernel⟩
theorem tw_774 : Cond.methodLink "OptimisticStoreLaw" 91 (yX5_rivals : MethodName) ∈ lw_all := tb_mem 774 (by decide +kernel) rfl
theorem tw_786 : Cond.instanceMethod (yX5_value : MethodName) ∈ lw_all := tb_mem 786 (by decide +kernel) rfl
theorem tw_787 : Cond.selects "OptimisticStore" (yX5_value : MethodName) (yX5_value : MethodName) ∈ lw_all := tb_mem 787 (by decide +kernel) rfl
theorem tw_788 : Cond.code yX5_value cX5_value 2 (some .int) ∈ lw_all := tb_mem 788 (by decide +kernel) rfl
theorem mw_X5_value : MVw yX5_value cX5_value 2 (some .int) 1 := ⟨tw_786, tw_787, tw_1, tw_788, by decide, by decide, by decide +kernel⟩
theorem tw_785 : Cond.methodLink "OptimisticStoreLaw" 94 (yX5_value : MethodName) ∈ lw_all := tb_mem 785 (by decide +kernel) rfl
theorem tw_798 : Cond.instanceMethod (yX5_valueAt : MethodName) ∈ lw_all := tb_mem 798 (by decide +kernel) rfl
theorem tw_799 : Cond.selects "OptimisticStore" (yX5_valueAt : MethodName) (yX5_valueAt : MethodName) ∈ lw_all := tb_mem 799 (by decide +kernel) rfl
theorem tw_800 : Cond.code yX5_valueAt cX5_valueAt 3 (some .int) ∈ lw_all := tb_mem 800 (by decide +kernel) rfl
theorem mw_X5_valueAt : MVw yX5_valueAt cX5_valueAt 3 (some .int) 2 := ⟨tw_798, tw_799, tw_1, tw_800, by decide, by decide, by decide +kernel⟩
theorem tw_797 : Cond.methodLink "OptimisticStoreLaw" 97 (yX5_valueAt : MethodName) ∈ lw_all := tb_mem 797 (by decide +kernel) rfl
theorem tw_810 : Cond.instanceMethod (yX5_writerOf : MethodName) ∈ lw_all := tb_mem 810 (by decide +kernel) rfl
theorem tw_811 : Cond.selects "OptimisticStore" (yX5_writerOf : MethodName) (yX5_writerOf : MethodName) ∈ lw_all := tb_mem 811 (by decide +kernel) rfl
theorem tw_812 : Cond.code yX5_writerOf cX5_writerOf 2 (some .int) ∈ lw_all := tb_mem 812 (by decide +kernel) rfl
theorem mw_X5_writerOf : MVw yX5_writerOf cX5_writerOf 2 (some .int) 1 := ⟨tw_810, tw_811, tw_1, tw_812, by decide, by decide, by decide +kernel⟩
theorem tw_809 : Cond.methodLink "OptimisticStoreLaw" 100 (yX5_writerOf : MethodName) ∈ lw_all := tb_mem 809 (by decide +kernel) rfl
theorem tw_818 : Cond.instanceMethod (yX5_transactionOf : MethodName) ∈ lw_all := tb_mem 818 (by decide +kernel) rfl
theorem tw_819 : Cond.selects "OptimisticStore" (yX5_transactionOf : MethodName) (yX5_transactionOf : MethodName) ∈ lw_all := tb_mem 819 (by decide +kernel) rfl
theorem tw_820 : Cond.code yX5_transactionOf cX5_transactionOf 3 (some .int) ∈ lw_all := tb_mem 820 (by decide +kernel) rfl
theorem mw_X5_transactionOf : MVw yX5_transactionOf cX5_transactionOf 3 (some .int) 1 := ⟨tw_818, tw_819, tw_1, tw_820, by decide, by decide, by decide +kernel⟩
theorem tw_817 : Cond.methodLink "OptimisticStoreLaw" 103 (yX5_transactionOf : MethodName) ∈ lw_all := tb_mem 817 (by decide +kernel) rfl
theorem tw_825 : Cond.instanceMethod (yX5_dependency : MethodName) ∈ lw_all := tb_mem 825 (by decide +kernel) rfl
theorem tw_826 : Cond.selects "OptimisticStore" (yX5_dependency : MethodName) (yX5_dependency : MethodName) ∈ lw_all := tb_mem 826 (by decide +kernel) rfl
theorem tw_827 : Cond.code yX5_dependency cX5_dependency 3 (some .int) ∈ lw_all := tb_mem 827 (by decide +kernel) rfl
theorem mw_X5_dependency : MVw yX5_dependency cX5_dependency 3 (some .int) 2 := ⟨tw_825, tw_826, tw_1, tw_827, by decide, by decide, by decide +kernel⟩
theorem tw_824 : Cond.methodLink "OptimisticStoreLaw" 106 (yX5_dependency : MethodName) ∈ lw_all := tb_mem 824 (by decide +kernel) rfl
theorem tw_833 : Cond.instanceMethod (yX5_rewind : MethodName) ∈ lw_all := tb_mem 833 (by decide +kernel) rfl
theorem tw_834 : Cond.selects "OptimisticStore" (yX5_rewind : MethodName) (yX5_rewind : MethodName) ∈ lw_all := tb_mem 834 (by decide +kernel) rfl
theorem tw_835 : Cond.code yX5_rewind cX5_rewind 2 (some .int) ∈ lw_all := tb_mem 835 (by decide +kernel) rfl
theorem mw_X5_rewind : MVw yX5_rewind cX5_rewind 2 (some .int) 1 := ⟨tw_833, tw_834, tw_1, tw_835, by decide, by decide, by decide +kernel⟩
theorem tw_832 : Cond.methodLink "OptimisticStoreLaw" 109 (yX5_rewind : MethodName) ∈ lw_all := tb_mem 832 (by decide +kernel) rfl
theorem tw_845 : Cond.instanceMethod (yX5_addConstraint : MethodName) ∈ lw_all := tb_mem 845 (by decide +kernel) rfl
theorem tw_846 : Cond.selects "OptimisticStore" (yX5_addConstraint : MethodName) (yX5_addConstraint : MethodName) ∈ lw_all := tb_mem 846 (by decide +kernel) rfl
theorem tw_847 : Cond.code yX5_addConstraint cX5_addConstraint 6 (some .int) ∈ lw_all := tb_mem 847 (by decide +kernel) rfl
theorem mw_X5_addConstraint : MVw yX5_addConstraint cX5_addConstraint 6 (some .int) 4 := ⟨tw_845, tw_846, tw_1, tw_847, by decide, by decide, by decide +kernel⟩
theorem tw_844 : Cond.methodLink "OptimisticStoreLaw" 112 (yX5_addConstraint : MethodName) ∈ lw_all := tb_mem 844 (by decide +kernel) rfl
theorem tw_872 : Cond.instanceMethod (yX5_aborts : MethodName) ∈ lw_all := tb_mem 872 (by decide +kernel) rfl
theorem tw_873 : Cond.selects "OptimisticStore" (yX5_aborts : MethodName) (yX5_aborts : MethodName) ∈ lw_all := tb_mem 873 (by decide +kernel) rfl
theorem tw_874 : Cond.code yX5_aborts cX5_aborts 5 (some .int) ∈ lw_all := tb_mem 874 (by decide +kernel) rfl
theorem mw_X5_aborts : MVw yX5_aborts cX5_aborts 5 (some .int) 1 := ⟨tw_872, tw_873, tw_1, tw_874, by decide, by decide, by decide +kernel⟩
theorem tw_871 : Cond.methodLink "OptimisticStoreLaw" 115 (yX5_aborts : MethodName) ∈ lw_all := tb_mem 871 (by decide +kernel) rfl
theorem tw_880 : Cond.instanceMethod (yX5_averageAttempts : MethodName) ∈ lw_all := tb_mem 880 (by decide +kernel) rfl
theorem tw_881 : Cond.selects "OptimisticStore" (yX5_averageAttempts : MethodName) (yX5_averageAttempts : MethodName) ∈ lw_all := tb_mem 881 (by decide +kernel) rfl
theorem tw_882 : Cond.code yX5_averageAttempts cX5_averageAttempts 5 (some .double) ∈ lw_all := tb_mem 882 (by decide +kernel) rfl
theorem mw_X5_averageAttempts : MVw yX5_averageAttempts cX5_averageAttempts 5 (some .double) 0 := ⟨tw_880, tw_881, tw_1, tw_882, by decide, by decide, by decide +kernel⟩
theorem tw_879 : Cond.methodLink "OptimisticStoreLaw" 118 (yX5_averageAttempts : MethodName) ∈ lw_all := tb_mem 879 (by decide +kernel) rfl
theorem tw_888 : Cond.instanceMethod (yX5_abortRate : MethodName) ∈ lw_all := tb_mem 888 (by decide +kernel) rfl
theorem tw_889 : Cond.selects "OptimisticStore" (yX5_abortRate : MethodName) (yX5_abortRate : MethodName) ∈ lw_all := tb_mem 889 (by decide +kernel) rfl
theorem tw_890 : Cond.code yX5_abortRate cX5_abortRate 2 (some .float) ∈ lw_all := tb_mem 890 (by decide +kernel) rfl
theorem mw_X5_abortRate : MVw yX5_abortRate cX5_abortRate 2 (some .float) 0 := ⟨tw_888, tw_889, tw_1, tw_890, by decide, by decide, by decide +kernel⟩
theorem tw_887 : Cond.methodLink "OptimisticStoreLaw" 122 (yX5_abortRate : MethodName) ∈ lw_all := tb_mem 887 (by decide +kernel) rfl
theorem tw_896 : Cond.instanceMethod (yX5_appendCharacter : MethodName) ∈ lw_all := tb_mem 896 (by decide +kernel) rfl
theorem tw_897 : Cond.selects "OptimisticStore" (yX5_appendCharacter : MethodName) (yX5_appendCharacter : MethodName) ∈ lw_all := tb_mem 897 (by decide +kernel) rfl
theorem tw_898 : Cond.code yX5_appendCharacter cX5_appendCharacter 2 (some .int) ∈ lw_all := tb_mem 898 (by decide +kernel) rfl
theorem mw_X5_appendCharacter : MVw yX5_appendCharacter cX5_appendCharacter 2 (some .int) 1 := ⟨tw_896, tw_897, tw_1, tw_898, by decide, by decide, by decide +kernel⟩
theorem tw_895 : Cond.methodLink "OptimisticStoreLaw" 126 (yX5_appendCharacter : MethodName) ∈ lw_all := tb_mem 895 (by decide +kernel) rfl
theorem tw_909 : Cond.instanceMethod (yX5_runScript : MethodName) ∈ lw_all := tb_mem 909 (by decide +kernel) rfl
theorem tw_910 : Cond.selects "OptimisticStore" (yX5_runScript : MethodName) (yX5_runScript : MethodName) ∈ lw_all := tb_mem 910 (by decide +kernel) rfl
theorem tw_911 : Cond.code yX5_runScript cX5_runScript 2 (some .int) ∈ lw_all := tb_mem 911 (by decide +kernel) rfl
theorem mw_X5_runScript : MVw yX5_runScript cX5_runScript 2 (some .int) 0 := ⟨tw_909, tw_910, tw_1, tw_911, by decide, by decide, by decide +kernel⟩
theorem tw_908 : Cond.methodLink "OptimisticStoreLaw" 129 (yX5_runScript : MethodName) ∈ lw_all := tb_mem 908 (by decide +kernel) rfl
