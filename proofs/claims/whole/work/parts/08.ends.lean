/-! entries, ends, throws, catches; new cells; arrays of references; natives -/
def lv1 : Nat → List Value → List (Nat × Value)
  | _, [] => []
  | i, v :: vs => (i, v) :: lv1 (i + 1) vs
theorem lv1_args : ∀ (vs : List Value) (i : Nat), (∀ v ∈ vs, v.category = 1) → lv_args i vs = lv1 i vs
  | [], _, _ => rfl
  | v :: vs, i, h => by
    have h1 := h v List.mem_cons_self
    rw [lv_args, lv1, if_neg (by rw [h1]; decide), lv1_args vs (i + 1) (fun x hx => h x (List.mem_cons_of_mem _ hx))]
theorem lg_len : ∀ (vs : List Value), (∀ v ∈ vs, v.category = 1) → (lg_sl vs).length = vs.length
  | [], _ => rfl
  | v :: vs, h => by
    have h1 := h v List.mem_cons_self
    have h2 := lg_len vs (fun x hx => h x (List.mem_cons_of_mem _ hx))
    unfold lg_sl at h2 ⊢
    rw [List.flatMap_cons, List.length_append, h2, if_neg (by rw [h1]; decide)]
    simp [Nat.add_comm]
def cat1 : List Value → Prop
  | [] => True
  | v :: vs => v.category = 1 ∧ cat1 vs
theorem cat1_all : ∀ {vs : List Value}, cat1 vs → ∀ v ∈ vs, v.category = 1
  | [], _, _, h => by cases h
  | v :: vs, hc, w, h => by
    rcases List.mem_cons.mp h with rfl | h
    · exact hc.1
    · exact cat1_all hc.2 w h
theorem cat1_i {x : Int32} {vs : List Value} (h : cat1 vs) : cat1 (.int x :: vs) := ⟨rfl, h⟩
theorem cat1_r {a : Nat} {vs : List Value} (h : cat1 vs) : cat1 (rf a :: vs) := ⟨rf_cat a, h⟩
theorem cat1_n : cat1 [] := trivial
def MetW (l : Launch) (y : MethodName) (bytes : ByteArray) (maxL : Nat) (ret : Option FieldType) (hh : List (Nat × Nat × Nat × Nat)) (rm : Room) (as : List Value) (G : GP) (S : MS) (post : Option Value → MS → Prop) : Prop := vx_Met l y (Cond.codeWith y bytes maxL ret hh :: lw_all) rm (PcM G S as) (QcM G post) (XcM G (fun _ _ => False)) rm.cells rm.slots (Ab G)
section ENTRY
variable {l : Launch} {y : MethodName} {bytes : ByteArray} {maxL : Nat} {ret : Option FieldType} {rm : Room} {as : List Value} {G : GP} {S : MS} {post : Option Value → MS → Prop} {xp : String → MS → Prop}
theorem met_of (hy : plainName y.cls = true) (hc : cat1 as) (hlen : as.length ≤ maxL)
    (body : ∀ (p : Program) (e : Env) (s : State) (m : MethodId) (args : Array Value) (below : List Frame) (meth : Method) (c : Code), Cx p s m args c bytes maxL y.cls G → meth.sig.returnType = ret → meth.locks = false → meth.name = y.name →
      Gd p l e rm s m args below meth c maxL G (MQ below (QcM G post) args s rm.cells rm.slots (Ab G)) 0 0 S 0 (lv1 0 as) []) : MetM l y bytes maxL ret rm as G S post := by
  refine Met.ofW (cc := bytes) (maxL := maxL) (ret := ret) hy rfl ?_
  intro p e s m args below meth c s₁ B hml hv
  obtain ⟨rfl, hH, hWI, h1, h2⟩ := hv
  have hts := atoms_spec (ws := Cond.code y bytes maxL ret :: lw_all) B.pre
  have hown : s.vm.findClass y.cls = some m.cls := findClass_of_methodNamed B.named
  have hl := lv_entry as (n := maxL) (by rw [lg_len as (cat1_all hc)]; exact hlen)
  rw [lg_entry_eq]
  rw [lv1_args as 0 (cat1_all hc)] at hl
  exact body p e s m as.toArray below meth c ⟨B.exec, B.bytes, hml, hown, fun w hw => hts w (List.mem_cons_of_mem _ hw), hWI, h1, h2⟩ B.returns B.notSynchronized (name_of_methodNamed B.named B.method).1 s.heap [] _ hH va_S.rf hl
theorem metX_of (hy : plainName y.cls = true) (hc : cat1 as) (hlen : as.length ≤ maxL)
    (body : ∀ (p : Program) (e : Env) (s : State) (m : MethodId) (args : Array Value) (below : List Frame) (meth : Method) (c : Code), Cx p s m args c bytes maxL y.cls G → meth.sig.returnType = ret → meth.locks = false → (∀ x ∈ c.exceptionTable.toList, False) →
      Gd p l e rm s m args below meth c maxL G (vx_MQ below (QcM G post) (XcM G xp) args s rm.cells rm.slots (Ab G)) 0 0 S 0 (lv1 0 as) []) : MetX l y bytes maxL ret rm as G S post xp := by
  refine vx_ofW (cc := bytes) (maxL := maxL) (ret := ret) hy rfl ?_
  intro p e s m args below meth c s₁ B hml ht hv
  obtain ⟨rfl, hH, hWI, h1, h2⟩ := hv
  have hts := atoms_spec (ws := Cond.code y bytes maxL ret :: lw_all) B.pre
  have hown : s.vm.findClass y.cls = some m.cls := findClass_of_methodNamed B.named
  have hl := lv_entry as (n := maxL) (by rw [lg_len as (cat1_all hc)]; exact hlen)
  rw [lg_entry_eq]
  rw [lv1_args as 0 (cat1_all hc)] at hl
  exact body p e s m as.toArray below meth c ⟨B.exec, B.bytes, hml, hown, fun w hw => hts w (List.mem_cons_of_mem _ hw), hWI, h1, h2⟩ B.returns B.notSynchronized ht s.heap [] _ hH va_S.rf hl
theorem metW_of {hh : List (Nat × Nat × Nat × Nat)} (hy : plainName y.cls = true) (hc : cat1 as) (hlen : as.length ≤ maxL)
    (body : ∀ (p : Program) (e : Env) (s : State) (m : MethodId) (args : Array Value) (below : List Frame) (meth : Method) (c : Code), Cx p s m args c bytes maxL y.cls G → meth.sig.returnType = ret → meth.locks = false → c.exceptionTable.toList = tableOf hh →
      Gd p l e rm s m args below meth c maxL G (vx_MQ below (QcM G post) (XcM G (fun _ _ => False)) args s rm.cells rm.slots (Ab G)) 0 0 S 0 (lv1 0 as) []) : MetW l y bytes maxL ret hh rm as G S post := by
  refine vx_ofWH (cc := bytes) (maxL := maxL) (ret := ret) (hh := hh) hy rfl ?_
  intro p e s m args below meth c s₁ B hml hv
  obtain ⟨rfl, hH, hWI, h1, h2⟩ := hv
  have hts := atoms_spec (ws := Cond.codeWith y bytes maxL ret hh :: lw_all) B.pre
  have hown : s.vm.findClass y.cls = some m.cls := findClass_of_methodNamed B.named
  have hl := lv_entry as (n := maxL) (by rw [lg_len as (cat1_all hc)]; exact hlen)
  rw [lg_entry_eq]
  rw [lv1_args as 0 (cat1_all hc)] at hl
  exact body p e s m as.toArray below meth c ⟨B.exec, B.bytes, hml, hown, fun w hw => hts w (List.mem_cons_of_mem _ hw), hWI, h1, h2⟩ B.returns B.notSynchronized (vx_table (x := y) B (hts _ List.mem_cons_self)) s.heap [] _ hH va_S.rf hl
end ENTRY
section ENDS
variable {p : Program} {l : Launch} {e : Env} {R : Room} {s : State} {m : MethodId} {args : Array Value} {below : List Frame} {meth : Method} {c : Code} {Q : State → Prop}
variable {cc : ByteArray} {nL : Nat} {own : String} {G : GP} {k j mc ms : Nat} {S : MS} {pc : Nat} {E : List (Nat × Value)} {st rest : List Value} {post : Option Value → MS → Prop} {xp : String → MS → Prop}
/-- a value on return: what W's rows want of it -/
theorem gd_ret_i (X : Cx p s m args c cc nL own G) {ty : FieldType} {v : Int32} (hr : meth.sig.returnType = some ty) (hlk : meth.locks = false) (hn : narrow ty (.int v) = .int v) (hk : k ≤ mc) (hj : j ≤ ms) (d : decode cc pc = .ok (.ireturn, 1)) (h : post (some (.int v)) S) : Gd p l e R s m args below meth c nL G (MQ below (QcM G post) args s mc ms (Ab G)) k j S pc E [.int v] := fun H locs la hH hS _ =>
  W.widen hk hj (W.zret X.1 X.2.1 hr hn (fun t ht hW => ⟨_, S, rfl, h, by rw [ht]; exact hH, hS.F ht⟩) hS.2.2 d hlk)
theorem gd_ret_v (X : Cx p s m args c cc nL own G) (hr : meth.sig.returnType = none) (hlk : meth.locks = false) (hk : k ≤ mc) (hj : j ≤ ms) (d : decode cc pc = .ok (.return_, 1)) (h : post none S) : Gd p l e R s m args below meth c nL G (MQ below (QcM G post) args s mc ms (Ab G)) k j S pc E [] := fun H locs la hH hS _ =>
  W.widen hk hj (W.vret X.1 X.2.1 hr (fun t ht hW => ⟨_, S, rfl, h, by rw [ht]; exact hH, hS.F ht⟩) hS.2.2 d hlk)
theorem gd_ret_d (X : Cx p s m args c cc nL own G) {v : UInt64} (hr : meth.sig.returnType = some .double) (hlk : meth.locks = false) (hk : k ≤ mc) (hj : j ≤ ms) (d : decode cc pc = .ok (.dreturn, 1)) (h : post (some (.double v)) S) : Gd p l e R s m args below meth c nL G (MQ below (QcM G post) args s mc ms (Ab G)) k j S pc E [.double v] := fun H locs la hH hS _ =>
  W.widen hk hj (W.dret X.1 X.2.1 hr (fun t ht hW => ⟨_, S, rfl, h, by rw [ht]; exact hH, hS.F ht⟩) hS.2.2 d hlk)
theorem gd_ret_f (X : Cx p s m args c cc nL own G) {v : UInt32} (hr : meth.sig.returnType = some .float) (hlk : meth.locks = false) (hk : k ≤ mc) (hj : j ≤ ms) (d : decode cc pc = .ok (.freturn, 1)) (h : post (some (.float v)) S) : Gd p l e R s m args below meth c nL G (MQ below (QcM G post) args s mc ms (Ab G)) k j S pc E [.float v] := fun H locs la hH hS _ =>
  W.widen hk hj (W.fret X.1 X.2.1 hr (fun t ht hW => ⟨_, S, rfl, h, by rw [ht]; exact hH, hS.F ht⟩) hS.2.2 d hlk)
theorem gd_ret_a (X : Cx p s m args c cc nL own G) {ty : FieldType} {a : Nat} (hr : meth.sig.returnType = some ty) (hrt : (∃ n, ty = .object n) ∨ ∃ t, ty = .array t) (hlk : meth.locks = false) (hk : k ≤ mc) (hj : j ≤ ms) (d : decode cc pc = .ok (.areturn, 1)) (h : post (some (rf a)) S) : Gd p l e R s m args below meth c nL G (MQ below (QcM G post) args s mc ms (Ab G)) k j S pc E [rf a] := fun H locs la hH hS _ =>
  W.widen hk hj (W.aret X.1 X.2.1 hr hrt (by
    by_cases ha : a = 0
    · subst ha; exact Or.inl rf_0
    · exact Or.inr ⟨a, rf_ne ha⟩) (fun t ht hW => ⟨_, S, rfl, h, by rw [ht]; exact hH, hS.F ht⟩) hS.2.2 d hlk)
/-- the same ends in a method that may throw -/
theorem gd_x (K : Gd p l e R s m args below meth c nL G (MQ below (QcM G post) args s mc ms (Ab G)) k j S pc E st) : Gd p l e R s m args below meth c nL G (vx_MQ below (QcM G post) (XcM G xp) args s mc ms (Ab G)) k j S pc E st := fun H locs la hH hS hl => vx_ret (K H locs la hH hS hl)
theorem HR_kept {H H1 : Heap} (hH : HR G S H) (h : ∀ q : Nat, q < H.size → H1[q]? = H[q]?) : HR G S H1 := by
  obtain ⟨L, hL, hP, hD⟩ := hH
  exact ⟨L, hL, hP.kept (fun k q hq => h q.1 (hP k q hq).lt), hD⟩
theorem gd_xout (hlk : meth.locks = false) (ht : ∀ x ∈ c.exceptionTable.toList, False) (hk : k ≤ mc) (hj : j ≤ ms) {Ex : String} {S' : MS} (hE : Ex ∈ excs) (hp : xp Ex S') {H1 : Heap} {locs1 : List Loc} {la : Array Slot} {q : Addr} {ce : Cell} (hH : HR G S' H1) (hS : va_S (Ab G) s.heap H1 locs1) (hce : H1[q]? = some ce) (hcv : ce.vm = .none) (hcl : s.vm.findClass Ex = some ce.cls) : vx_W p l e R s m args below meth c H1 locs1 k j (vx_MQ below (QcM G post) (XcM G xp) args s mc ms (Ab G)) (F0 m pc la rest) q :=
  vx_out (fun x hx => (ht x hx).elim) hlk hce hcv hcl (fun t h1 h2 => ⟨S', hE, hp, by rw [h1]; exact hH, hS.F h1⟩) hS.2.2 hk hj
def xnames : List String := ["java/lang/RuntimeException", "java/lang/Exception"]
/-- the words of a throw of the class Ex by the method's class own, its constructor at ic -/
def THw (own : String) (ik is ic : Nat) (Ex text : String) : Prop := Ex ∈ excs ∧ Bundle.fit Ex = true ∧ Cond.classLink own ik Ex ∈ lw_all ∧ Cond.initialized Ex ∈ lw_all ∧ (own, is, text) ∈ strs ∧ (∀ w ∈ (vx_atS own ic Ex xnames).filter goodWord, w ∈ lw_all) ∧ (∀ w ∈ (vx_atS own ic Ex xnames).filter (fun w => !goodWord w), w ∈ odd) ∧ (∀ w ∈ Cond.classLink own ik Ex :: Cond.initialized Ex :: vx_atS own ic Ex xnames, vx_ot w = true)
theorem xnames_fit : ∀ n ∈ xnames, Bundle.fit n = true := by decide +kernel
theorem odd_args {args : Array Value} {s : State} (h : ∀ w ∈ odd, w.before #[] s = true) : ∀ w ∈ odd, w.before args s = true := fun w hw => va_Nw.use (odd_ok w hw).2 (h w hw)
theorem gd_throw (hfl : l.stackTraces = false) (X : Cx p s m args c cc nL own G) (hlk : meth.locks = false) (ht : ∀ x ∈ c.exceptionTable.toList, False) {Ex text : String} {ik is ic : Nat} (hw : THw own ik is ic Ex text) (d0 : decode cc pc = .ok (.new ik, 3)) (d3 : decode cc (pc + 3) = .ok (.dup, 1)) (d4 : decode cc (pc + 4) = .ok (.ldc is, 2)) (d6 : decode cc (pc + 6) = .ok (.invokespecial ic, 3)) (d9 : decode cc (pc + 9) = .ok (.athrow, 1))
    (hR : 6 ≤ R.frames ∧ 100 ≤ R.locals ∧ k + 1 ≤ R.cells ∧ j + 6 ≤ R.slots) (hst : st.length ≤ 4) (hk : k + 1 ≤ mc) (hj : j + 6 ≤ ms) (h : xp Ex S) : Gd p l e R s m args below meth c nL G (vx_MQ below (QcM G post) (XcM G xp) args s mc ms (Ab G)) k j S pc E st := fun H locs la hH hS hl => by
  obtain ⟨w0, w1, w2, w3, w4, w5, w6, w7⟩ := hw
  obtain ⟨sa, hstr⟩ := X.2.2.2.2.2.1.2.2.2.1 _ w4
  have hcs := cat_sum st
  refine vx_throwS X.1 X.2.1 hfl X.2.2.2.1 w1 xnames_fit (X.2.2.2.2.1 _ w2) (X.2.2.2.2.1 _ w3) hstr (vx_hat (fun w hw => X.2.2.2.2.1 w (w5 w hw)) w6 (odd_args X.2.2.2.2.2.1.2.2.2.2.2.2.2.2)) w7 X.2.2.2.2.2.1.2.1 X.2.2.2.2.2.1.2.2.1 hS (by rw [X.2.2.1]; exact hl.1) d0 d3 d4 d6 d9 (fun x hx => (ht x hx).elim) ?_ ?_ hR.2.2.1 hR.2.2.2 hlk ?_ hS.2.2 hk hj
  · show 2 + 3 < _
    omega
  · show _ + (13 * (2 + 1) + 43) ≤ _
    omega
  · intro t h1 h2 h3
    exact ⟨S, w0, h, HR_kept hH h3, Nat.le_trans hS.1 h2, fun q hq hA => (h3 q (Nat.lt_of_lt_of_le hq hS.1)).trans (hS.2.1 q hq hA)⟩
theorem gd_throwW (hfl : l.stackTraces = false) (X : Cx p s m args c cc nL own G) (hlk : meth.locks = false) (ht : ∀ x ∈ c.exceptionTable.toList, False) {Ex text : String} {ik is ic : Nat} (hw : THw own ik is ic Ex text) (d0 : decode cc pc = .ok (.new ik, 3)) (d3 : decode cc (pc + 3) = .ok (.dup, 1)) (d4 : decode cc (pc + 4) = .ok (.ldc_w is, 3)) (d6 : decode cc (pc + 7) = .ok (.invokespecial ic, 3)) (d9 : decode cc (pc + 10) = .ok (.athrow, 1))
    (hR : 6 ≤ R.frames ∧ 100 ≤ R.locals ∧ k + 1 ≤ R.cells ∧ j + 6 ≤ R.slots) (hst : st.length ≤ 4) (hk : k + 1 ≤ mc) (hj : j + 6 ≤ ms) (h : xp Ex S) : Gd p l e R s m args below meth c nL G (vx_MQ below (QcM G post) (XcM G xp) args s mc ms (Ab G)) k j S pc E st := fun H locs la hH hS hl => by
  obtain ⟨w0, w1, w2, w3, w4, w5, w6, w7⟩ := hw
  obtain ⟨sa, hstr⟩ := X.2.2.2.2.2.1.2.2.2.1 _ w4
  have hcs := cat_sum st
  refine vx_throwSW X.1 X.2.1 hfl X.2.2.2.1 w1 xnames_fit (X.2.2.2.2.1 _ w2) (X.2.2.2.2.1 _ w3) hstr (vx_hat (fun w hw => X.2.2.2.2.1 w (w5 w hw)) w6 (odd_args X.2.2.2.2.2.1.2.2.2.2.2.2.2.2)) w7 X.2.2.2.2.2.1.2.1 X.2.2.2.2.2.1.2.2.1 hS (by rw [X.2.2.1]; exact hl.1) d0 d3 d4 d6 d9 (fun x hx => (ht x hx).elim) ?_ ?_ hR.2.2.1 hR.2.2.2 hlk ?_ hS.2.2 hk hj
  · show 2 + 3 < _
    omega
  · show _ + (13 * (2 + 1) + 43) ≤ _
    omega
  · intro t h1 h2 h3
    exact ⟨S, w0, h, HR_kept hH h3, Nat.le_trans hS.1 h2, fun q hq hA => (h3 q (Nat.lt_of_lt_of_le hq hS.1)).trans (hS.2.1 q hq hA)⟩
/-- an exception that comes over a call, caught by the place i of the method's table; its handler begins with a store -/
theorem gd_catch (X : Cx p s m args c cc nL own G) {Ex : String} {S' : MS} {H1 : Heap} {locs1 : List Loc} {la : Array Slot} {q : Addr} {ce : Cell} (pre : List ExceptionTableEntry) (x : ExceptionTableEntry) (suf : List ExceptionTableEntry) (hsplit : c.exceptionTable.toList = pre ++ x :: suf)
    (hpass : ∀ z ∈ pre, z.catchType ≠ 0 ∧ ∃ nm ∈ excs, Cond.classLink own z.catchType nm ∈ lw_all ∧ Ex ≠ nm) (hx : covers x pc = true) (h0 : x.catchType ≠ 0) (hlink : Cond.classLink own x.catchType Ex ∈ lw_all) (hE : Ex ∈ excs) (hcast : Cond.castable Ex Ex ∈ odd)
    {i hp len : Nat} (hhp : x.handlerPc = hp) (hst : ∀ (H : Heap) (locs : List Loc) {k j : Nat} {lv' : List (Nat × Value)}, (i, Value.ref q) :: E.filter (fun q => !(q.1 == i) && !(q.1 + 1 == i && q.2.category == 2)) = lv' → (∀ ls' : Array Slot, lv_has ls' nL lv' → W p l e R s m args below meth c H locs k j Q (F0 m (hp + len) ls' [])) → W p l e R s m args below meth c H locs k j Q (F0 m hp la [.ref q]))
    (hH : HR G S' H1) (hS : va_S (Ab G) s.heap H1 locs1) (hce : H1[q]? = some ce) (hcv : ce.vm = .none) (hcl : s.vm.findClass Ex = some ce.cls)
    (K : Gd p l e R s m args below meth c nL G Q k j S' (hp + len) [] []) : vx_W p l e R s m args below meth c H1 locs1 k j Q (F0 m pc la rest) q := by
  refine vx_catch X.2.2.2.1 pre x suf hsplit (fun z hz => ?_) hx h0 (X.2.2.2.2.1 _ hlink) (odd_args X.2.2.2.2.2.1.2.2.2.2.2.2.2.2 _ hcast) hce hcv hcl ?_
  · obtain ⟨z0, nm, hnm, hl, hne⟩ := hpass z hz
    exact Or.inr ⟨z0, nm, X.2.2.2.2.1 _ hl, X.2.2.2.2.2.1.2.2.2.2.2.2.2.1 Ex hE nm hnm hne⟩
  · rw [hhp]
    refine hst H1 locs1 rfl (fun ls' hl' => K H1 locs1 ls' hH hS (lv_sub hl' [] rfl))
end ENDS
section MAKES
variable {p : Program} {l : Launch} {e : Env} {R : Room} {s : State} {m : MethodId} {args : Array Value} {below : List Frame} {meth : Method} {c : Code} {Q : State → Prop}
variable {cc : ByteArray} {nL : Nat} {own : String} {G : GP} {k j : Nat} {S : MS} {pc : Nat} {E : List (Nat × Value)} {st rest : List Value} {a index : Nat}
theorem fv_new (S : MS) (q t n : Nat) : ∀ (bs : List Bool) (k0 : Nat), fv (nw S q t n) q k0 bs = bs.map (fun b => if b then .null else .int 0)
  | [], _ => rfl
  | b :: bs, k0 => by
    rw [fv, List.map_cons, fv_new S q t n bs (k0 + 1)]
    have e1 : sI (nw S q t n) q k0 = 0 := by simp [sI, nw]
    have e2 : sR (nw S q t n) q k0 = 0 := by simp [sR, nw]
    rw [e1, e2, rf_0]
theorem kT_nw (S : MS) (q t n : Nat) : kT (nw S q t n) q = t := by simp [kT, nw]
theorem kL_nw (S : MS) (q t n : Nat) : kL (nw S q t n) q = n := by simp [kL, nw]
theorem gd_new (X : Cx p s m args c cc nL own G) {ci N : Nat} {C : String} {T : u_T} {ty : Nat → FieldType} (hc : CI ci C T N ty) (h1 : Cond.classLink own index C ∈ lw_all) (h2 : Cond.instantiable C N ∈ lw_all) (h3 : Cond.initialized C ∈ lw_all) (hdef : ∀ i, i < N → defaultValue (ty i) = vp_V ((fl (ci + 1)).map (fun b => if b then .null else .int 0)) i) (d : decode cc pc = .ok (.new index, 3)) (hR : k + 1 ≤ R.cells ∧ j + N ≤ R.slots)
    (K : ∀ q : Nat, kT S q = 0 → q ≠ 0 → Gd p l e R s m args below meth c nL G Q (k + 1) (j + N) (nw S q (ci + 1) 0) (pc + 3) E (rf q :: st)) : Gd p l e R s m args below meth c nL G Q k j S pc E st := fun H locs la hH hS hl => by
  obtain ⟨L, hL, hP, hD⟩ := hH
  refine va_new X.1 X.2.1 X.2.2.2.2.1 hc.2.2.1 ty hc.2.2.2.1 X.2.2.2.1 (X.2.2.2.2.1 _ h1) (X.2.2.2.2.1 _ h2) (X.2.2.2.2.1 _ h3) X.2.2.2.2.2.1.1 hP hD hS X.A hc.2.1 hdef hR.1 hR.2 d (fun q H1 hP1 hD1 hS1 => ?_)
  obtain ⟨hq, hq0, hH1⟩ := HR_new (t := ci + 1) (n := 0) X.2.2.2.2.2.2.1 (by omega) hL hP1 hD1 (by rw [cell_o (kT_nw S q (ci + 1) 0) hc.1, fv_new])
  have := K q hq hq0 H1 locs la hH1 hS1 hl
  rw [rf_ne hq0] at this
  exact this
theorem cy_eq (X : Cx p s m args c cc nL own G) {cA : ClassId} {t0 : Nat} {ty : FieldType} (hK : va_K G.1 cls (tysOf G ++ [(cA, ty)]) s) (h : (tysOf G)[t0]? = some (G.2.1 (t0 + 8), ty)) : cA = G.2.1 (t0 + 8) := by
  have h1 := (X.2.2.2.2.2.1.1.2 t0 _ h).2
  have h2 := (hK.2 9 (cA, ty) rfl).2
  cases ty with
  | object C =>
    obtain ⟨_, _, -, -, -, g1⟩ := h1
    obtain ⟨_, _, -, -, -, g2⟩ := h2
    exact Option.some.inj (g2.symm.trans g1)
  | _ => exact Option.some.inj (Eq.trans (Eq.symm h2) h1)
theorem gd_newaC (X : Cx p s m args c cc nL own G) {N : Nat} {n : Int32} (h1 : Cond.arrayClass .char ∈ lw_all) (hn : ¬ n < 0) (hN : n.toNatClampNeg = N) (hb : N * 8 ≤ 536870912) (d : decode cc pc = .ok (.newarray .char, 2)) (hR : k + 1 ≤ R.cells ∧ j + N ≤ R.slots)
    (K : ∀ q : Nat, kT S q = 0 → q ≠ 0 → Gd p l e R s m args below meth c nL G Q (k + 1) (j + N) (nw S q 8 N) (pc + 2) E (rf q :: st)) : Gd p l e R s m args below meth c nL G Q k j S pc E (.int n :: st) := fun H locs la hH hS hl => by
  obtain ⟨L, hL, hP, hD⟩ := hH
  refine va_newa (atype := .char) (ty := .char) (a0 := (N, .inl (fun _ => 0))) X.1 X.2.1 (X.2.2.2.2.1 _ h1) rfl X.2.2.2.2.2.1.1 hP hD hS X.A (fun _ => rfl) hn hN (Nat.le_trans (Nat.mul_le_mul_left N (by decide)) hb) hR.1 hR.2 d (fun q cA H1 hK1 hP1 hD1 hS1 => ?_)
  have hcA := cy_eq X hK1 (t0 := 0) rfl
  subst hcA
  obtain ⟨hq, hq0, hH1⟩ := HR_new (t := 8) (n := N) X.2.2.2.2.2.2.1 (by omega) hL hP1 hD1 (by
    rw [cell_i (kT_nw S q 8 N) (by omega) (by omega), kL_nw]
    have e1 : sI (nw S q 8 N) q = fun _ => 0 := by funext i; simp [sI, nw]
    rw [e1])
  have := K q hq hq0 H1 locs la hH1 hS1 hl
  rw [rf_ne hq0] at this
  exact this
theorem gd_newaI (X : Cx p s m args c cc nL own G) {N : Nat} {n : Int32} (h1 : Cond.arrayClass .int ∈ lw_all) (hn : ¬ n < 0) (hN : n.toNatClampNeg = N) (hb : N * 8 ≤ 536870912) (d : decode cc pc = .ok (.newarray .int, 2)) (hR : k + 1 ≤ R.cells ∧ j + N ≤ R.slots)
    (K : ∀ q : Nat, kT S q = 0 → q ≠ 0 → Gd p l e R s m args below meth c nL G Q (k + 1) (j + N) (nw S q 9 N) (pc + 2) E (rf q :: st)) : Gd p l e R s m args below meth c nL G Q k j S pc E (.int n :: st) := fun H locs la hH hS hl => by
  obtain ⟨L, hL, hP, hD⟩ := hH
  refine va_newa (atype := .int) (ty := .int) (a0 := (N, .inl (fun _ => 0))) X.1 X.2.1 (X.2.2.2.2.1 _ h1) rfl X.2.2.2.2.2.1.1 hP hD hS X.A (fun _ => rfl) hn hN (Nat.le_trans (Nat.mul_le_mul_left N (by decide)) hb) hR.1 hR.2 d (fun q cA H1 hK1 hP1 hD1 hS1 => ?_)
  have hcA := cy_eq X hK1 (t0 := 1) rfl
  subst hcA
  obtain ⟨hq, hq0, hH1⟩ := HR_new (t := 9) (n := N) X.2.2.2.2.2.2.1 (by omega) hL hP1 hD1 (by
    rw [cell_i (kT_nw S q 9 N) (by omega) (by omega), kL_nw]
    have e1 : sI (nw S q 9 N) q = fun _ => 0 := by funext i; simp [sI, nw]
    rw [e1])
  have := K q hq hq0 H1 locs la hH1 hS1 hl
  rw [rf_ne hq0] at this
  exact this
theorem gd_newaZ (X : Cx p s m args c cc nL own G) {N : Nat} {n : Int32} (h1 : Cond.arrayClass .boolean ∈ lw_all) (hn : ¬ n < 0) (hN : n.toNatClampNeg = N) (hb : N * 8 ≤ 536870912) (d : decode cc pc = .ok (.newarray .boolean, 2)) (hR : k + 1 ≤ R.cells ∧ j + N ≤ R.slots)
    (K : ∀ q : Nat, kT S q = 0 → q ≠ 0 → Gd p l e R s m args below meth c nL G Q (k + 1) (j + N) (nw S q 10 N) (pc + 2) E (rf q :: st)) : Gd p l e R s m args below meth c nL G Q k j S pc E (.int n :: st) := fun H locs la hH hS hl => by
  obtain ⟨L, hL, hP, hD⟩ := hH
  refine va_newa (atype := .boolean) (ty := .boolean) (a0 := (N, .inl (fun _ => 0))) X.1 X.2.1 (X.2.2.2.2.1 _ h1) rfl X.2.2.2.2.2.1.1 hP hD hS X.A (fun _ => rfl) hn hN (Nat.le_trans (Nat.mul_le_mul_left N (by decide)) hb) hR.1 hR.2 d (fun q cA H1 hK1 hP1 hD1 hS1 => ?_)
  have hcA := cy_eq X hK1 (t0 := 2) rfl
  subst hcA
  obtain ⟨hq, hq0, hH1⟩ := HR_new (t := 10) (n := N) X.2.2.2.2.2.2.1 (by omega) hL hP1 hD1 (by
    rw [cell_i (kT_nw S q 10 N) (by omega) (by omega), kL_nw]
    have e1 : sI (nw S q 10 N) q = fun _ => 0 := by funext i; simp [sI, nw]
    rw [e1])
  have := K q hq hq0 H1 locs la hH1 hS1 hl
  rw [rf_ne hq0] at this
  exact this
theorem gd_newaL (X : Cx p s m args c cc nL own G) {N : Nat} {n : Int32} (h1 : Cond.arrayClass .long ∈ lw_all) (hn : ¬ n < 0) (hN : n.toNatClampNeg = N) (hb : N * 8 ≤ 536870912) (d : decode cc pc = .ok (.newarray .long, 2)) (hR : k + 1 ≤ R.cells ∧ j + N ≤ R.slots)
    (K : ∀ q : Nat, kT S q = 0 → q ≠ 0 → Gd p l e R s m args below meth c nL G Q (k + 1) (j + N) (nw S q 15 N) (pc + 2) E (rf q :: st)) : Gd p l e R s m args below meth c nL G Q k j S pc E (.int n :: st) := fun H locs la hH hS hl => by
  obtain ⟨L, hL, hP, hD⟩ := hH
  refine va_newa (atype := .long) (ty := .long) (a0 := (N, .inr (.inl (fun _ => 0)))) X.1 X.2.1 (X.2.2.2.2.1 _ h1) rfl X.2.2.2.2.2.1.1 hP hD hS X.A (fun _ => rfl) hn hN (Nat.le_trans (Nat.mul_le_mul_left N (by decide)) hb) hR.1 hR.2 d (fun q cA H1 hK1 hP1 hD1 hS1 => ?_)
  have hcA := cy_eq X hK1 (t0 := 7) rfl
  subst hcA
  obtain ⟨hq, hq0, hH1⟩ := HR_new (t := 15) (n := N) X.2.2.2.2.2.2.1 (by omega) hL hP1 hD1 (by
    rw [cell_l (kT_nw S q 15 N), kL_nw]
    have e1 : sL (nw S q 15 N) q = fun _ => 0 := by funext i; simp [sL, nw]
    rw [e1])
  have := K q hq hq0 H1 locs la hH1 hS1 hl
  rw [rf_ne hq0] at this
  exact this
theorem gd_newaD (X : Cx p s m args c cc nL own G) {N : Nat} {n : Int32} (h1 : Cond.arrayClass .double ∈ lw_all) (hn : ¬ n < 0) (hN : n.toNatClampNeg = N) (hb : N * 8 ≤ 536870912) (d : decode cc pc = .ok (.newarray .double, 2)) (hR : k + 1 ≤ R.cells ∧ j + N ≤ R.slots)
    (K : ∀ q : Nat, kT S q = 0 → q ≠ 0 → Gd p l e R s m args below meth c nL G Q (k + 1) (j + N) (nw S q 16 N) (pc + 2) E (rf q :: st)) : Gd p l e R s m args below meth c nL G Q k j S pc E (.int n :: st) := fun H locs la hH hS hl => by
  obtain ⟨L, hL, hP, hD⟩ := hH
  refine va_newa (atype := .double) (ty := .double) (a0 := (N, .inr (.inr (.inr (.inl (fun _ => 0)))))) X.1 X.2.1 (X.2.2.2.2.1 _ h1) rfl X.2.2.2.2.2.1.1 hP hD hS X.A (fun _ => rfl) hn hN (Nat.le_trans (Nat.mul_le_mul_left N (by decide)) hb) hR.1 hR.2 d (fun q cA H1 hK1 hP1 hD1 hS1 => ?_)
  have hcA := cy_eq X hK1 (t0 := 8) rfl
  subst hcA
  obtain ⟨hq, hq0, hH1⟩ := HR_new (t := 16) (n := N) X.2.2.2.2.2.2.1 (by omega) hL hP1 hD1 (by
    rw [cell_d (kT_nw S q 16 N), kL_nw]
    have e1 : sD (nw S q 16 N) q = fun _ => 0 := by funext i; simp [sD, nw]
    rw [e1])
  have := K q hq hq0 H1 locs la hH1 hS1 hl
  rw [rf_ne hq0] at this
  exact this
theorem gd_anew (X : Cx p s m args c cc nL own G) {t N : Nat} {n : Int32} {C : String} (h1 : Cond.classLink own index C ∈ lw_all) (hC : C ∈ [RX0, RX2, RX4]) (ht : (tysOf G)[t]? = some (G.2.1 (t + 8), .object C)) (ht1 : 3 ≤ t) (ht2 : t ≤ 5) (hn : ¬ n < 0) (hN : n.toNatClampNeg = N) (hb : N * 4 ≤ 536870912) (d : decode cc pc = .ok (.anewarray index, 3)) (hR : k + 1 ≤ R.cells ∧ j + N ≤ R.slots)
    (K : ∀ q : Nat, kT S q = 0 → q ≠ 0 → Gd p l e R s m args below meth c nL G Q (k + 1) (j + N) (nw S q (t + 8) N) (pc + 3) E (rf q :: st)) : Gd p l e R s m args below meth c nL G Q k j S pc E (.int n :: st) := fun H locs la hH hS hl => by
  obtain ⟨L, hL, hP, hD⟩ := hH
  refine va_newq X.1 X.2.1 X.2.2.2.1 (X.2.2.2.2.1 _ h1) (X.2.2.2.2.2.1.2.2.2.2.2.1 C hC) X.2.2.2.2.2.1.1 hP hD hS X.A hn hN hb hR.1 hR.2 d (fun q cA H1 hK1 hP1 hD1 hS1 => ?_)
  have hcA := cy_eq X hK1 (t0 := t) ht
  subst hcA
  obtain ⟨hq, hq0, hH1⟩ := HR_new (t := t + 8) (n := N) X.2.2.2.2.2.2.1 (by omega) hL hP1 hD1 (by
    rw [cell_q (kT_nw S q (t + 8) N) (by omega) (by omega), kL_nw]
    have e1 : (fun i => op (sR (nw S q (t + 8) N) q i)) = fun _ => none := by funext i; simp [sR, nw, op]
    rw [e1])
  have := K q hq hq0 H1 locs la hH1 hS1 hl
  rw [rf_ne hq0] at this
  exact this
theorem gd_aald (X : Cx p s m args c cc nL own G) {a t : Nat} {i : Int32} {ty : FieldType} (ht : (tysOf G)[t]? = some (G.2.1 (t + 8), ty)) (hty : ty.isReference = true) (ht1 : 3 ≤ t) (ht2 : t ≤ 6) (d : decode cc pc = .ok (.aaload, 1)) (ha : kT S a = t + 8) (hi : vp_in i (kL S a)) (K : Gd p l e R s m args below meth c nL G Q k j S (pc + 1) E (rf (sR S a (ix i)) :: st)) : Gd p l e R s m args below meth c nL G Q k j S pc E (.int i :: rf a :: st) := fun H locs la hH hS hl => by
  obtain ⟨L, q, hL, hP, hD, hm, hq⟩ := HR_at hH (a := a) (by rw [ha]; omega)
  rw [cell_q ha (by omega) (by omega)] at hq
  rw [rf_ne (a := a) (Cx.ne X hH (by rw [ha]; omega))]
  have hlt : i.toNatClampNeg < kL S a := Nat.not_le.mp fun q => hi (Or.inr q)
  exact W.aald (v := rf (sR S a (ix i))) (ty := ty) X.1 X.2.1 (hP q _ hq) ((X.2.2.2.2.2.1.1.2 t _ ht).1 (kL S a) (fun j => va_rf (op (sR S a j)))) hty (fun q => by cases q) (by show ¬ (i < 0 ∨ (arrV _ _ _).slots.size ≤ _); rw [arrV_size]; exact hi) (by show (arrV _ _ _).slots[_]? = _; rw [arrV_read _ _ hlt]; rfl) rfl rfl d (K H locs la hH hS hl)
theorem gd_aast (X : Cx p s m args c cc nL own G) {a t v ci : Nat} {i : Int32} {C : String} {T : u_T} {N : Nat} {ty : Nat → FieldType} (hc : CI ci C T N ty) (ht : (tysOf G)[t]? = some (G.2.1 (t + 8), .object C)) (ht1 : 3 ≤ t) (ht2 : t ≤ 6) (d : decode cc pc = .ok (.aastore, 1)) (ha : kT S a = t + 8) (hv : kT S v = ci + 1) (hi : vp_in i (kL S a)) (K : Gd p l e R s m args below meth c nL G Q k j (pR S a (ix i) v) (pc + 1) E st) : Gd p l e R s m args below meth c nL G Q k j S pc E (rf v :: .int i :: rf a :: st) := fun H locs la hH hS hl => by
  obtain ⟨L, q, hL, hP, hD, hm, hq⟩ := HR_at hH (a := a) (by rw [ha]; omega)
  have hq0 := hq
  obtain ⟨qv, hqv⟩ := va_pl_get (X := []) (f := cellOf G.2.1 S) ((hL v).mpr (by rw [hv]; omega))
  have hqv : (va_pl L (cellOf G.2.1 S))[qv]? = some (v, cellOf G.2.1 S v) := hqv
  rw [cell_o hv hc.1] at hqv
  rw [cell_q ha (by omega) (by omega)] at hq
  have hv0 : v ≠ 0 := Cx.ne X hH (by rw [hv]; omega)
  rw [rf_ne (a := a) (Cx.ne X hH (by rw [ha]; omega)), rf_ne (a := v) hv0]
  refine va_astq X.1 X.2.1 X.2.2.2.2.2.1.1 hP hD hS q t qv ci hq ht hqv hc.2.1 hi d (fun H1 locs1 hP1 hD1 hS1 => ?_)
  refine K H1 locs1 la (HR_put hL hD hm hq0 hP1 hD1 (fun _ => rfl) ?_ (fun b hb => cell_pR hb)) hS1 hl
  rw [cell_q (S := pR S a (ix i) v) ha (by omega) (by omega)]
  congr 2
  congr 1
  congr 1
  congr 1
  congr 1
  congr 1
  funext z
  simp only [sR_pR, va_up, ix, if_pos]
  by_cases hz : z = i.toNatClampNeg
  · simp [hz, op_ne hv0]
  · simp [hz]
theorem gd_copy (X : Cx p s m args c cc nL own G) {a b : Nat} {sp dp n : Int32} (h1 : Cond.methodLink own index arraycopyName ∈ lw_all) (h2 : Cond.native arraycopyName ∈ lw_all) (h3 : Cond.static arraycopyName ∈ lw_all) (h4 : Cond.initialized "java/lang/System" ∈ lw_all) (d : decode cc pc = .ok (.invokestatic index, 3)) (ha : kT S a = 9) (hb : kT S b = 9) (n1 : ¬ sp < 0) (n2 : ¬ dp < 0) (n3 : ¬ n < 0) (n4 : ix sp + ix n ≤ kL S a) (n5 : ix dp + ix n ≤ kL S b) (hR : 1 ≤ R.frames ∧ 100 ≤ R.locals) (hst : st.length ≤ 4)
    (K : Gd p l e R s m args below meth c nL G Q k j (S.1, fun x => if x = b then va_cpy (sI S a) (sI S b) (ix sp) (ix dp) (ix n) else sI S x, S.2.2) (pc + 3) E st) : Gd p l e R s m args below meth c nL G Q k j S pc E (.int n :: .int dp :: rf b :: .int sp :: rf a :: st) := fun H locs la hH hS hl => by
  obtain ⟨L, q, hL, hP, hD, hm, hq⟩ := HR_at hH (a := b) (by rw [hb]; omega)
  have hq0 := hq
  obtain ⟨qa, hqa⟩ := va_pl_get (X := []) (f := cellOf G.2.1 S) ((hL a).mpr (by rw [ha]; omega))
  have hqa : (va_pl L (cellOf G.2.1 S))[qa]? = some (a, cellOf G.2.1 S a) := hqa
  rw [cell_i ha (by omega) (by omega)] at hqa
  rw [cell_i hb (by omega) (by omega)] at hq
  rw [rf_ne (a := a) (Cx.ne X hH (by rw [ha]; omega)), rf_ne (a := b) (Cx.ne X hH (by rw [hb]; omega))]
  have hcs := cat_sum st
  refine va_copyi (ty := .int) X.1 X.2.1 (X.2.2.1.trans hl.1.symm) X.2.2.2.1 (X.2.2.2.2.1 _ h1) (X.2.2.2.2.1 _ h2) (X.2.2.2.2.1 _ h3) (X.2.2.2.2.1 _ h4) X.2.2.2.2.2.1.1 hP hD hS qa q 1 1 hqa hq rfl rfl rfl n1 n2 n3 n4 n5 (fun _ _ => rfl) hR.1 (Nat.le_trans (Nat.add_le_add_right (show _ ≤ 8 by omega) _) (Nat.le_trans (show 8 + (nativeFrameWords "java/lang/System" "arraycopy" 5 + 11) ≤ 100 by decide +kernel) hR.2)) d (fun H1 locs1 hP1 hD1 hS1 => ?_)
  refine K H1 locs1 la (HR_put hL hD hm hq0 hP1 hD1 (fun _ => rfl) ?_ (fun x hx => ?_)) hS1 hl
  · rw [cell_i (S := (S.1, fun x => if x = b then va_cpy (sI S a) (sI S b) (ix sp) (ix dp) (ix n) else sI S x, S.2.2)) hb (by omega) (by omega)]
    simp only [sI, kL, ix, if_pos]
  · refine cell_congr rfl rfl ?_ rfl rfl rfl
    show (if x = b then _ else sI S x) = sI S x
    rw [if_neg hx]
theorem gd_max (X : Cx p s m args c cc nL own G) {x y : Int32} (h1 : Cond.methodLink own index Lib.Math.max.name ∈ lw_all) (h2 : Cond.static Lib.Math.max.name ∈ lw_all) (h3 : Cond.initialized "java/lang/Math" ∈ lw_all) (h4 : Cond.code Lib.Math.max.name Lib.Math.max.code 2 (some .int) ∈ lw_all) (d : decode cc pc = .ok (.invokestatic index, 3)) (hR : 1 ≤ R.frames ∧ 100 ≤ R.locals ∧ k ≤ R.cells ∧ j ≤ R.slots) (hst : st.length ≤ 4)
    (K : Gd p l e R s m args below meth c nL G Q k j S (pc + 3) E (.int (if x < y then y else x) :: st)) : Gd p l e R s m args below meth c nL G Q k j S pc E (.int y :: .int x :: st) := fun H locs la hH hS hl => by
  have hcs := cat_sum st
  exact va_mmax X.1 X.2.1 (X.2.2.1.trans hl.1.symm) X.2.2.2.1 (X.2.2.2.2.1 _ h1) (X.2.2.2.2.1 _ h2) (X.2.2.2.2.1 _ h3) (X.2.2.2.2.1 _ h4) hR.1 (by omega) hR.2.2.1 hR.2.2.2 d (K H locs la hH hS hl)
theorem gd_tableOut (X : Cx p s m args c cc nL own G) {dflt lo hi : Int} {offs : Array Int} {len : Nat} {x : Int32} (tgt : Nat) (d : decode cc pc = .ok (.tableswitch dflt lo hi offs, len)) (h : x.toInt < lo ∨ hi < x.toInt) (ht : (pc : Int) + dflt = (tgt : Int)) (K : Gd p l e R s m args below meth c nL G Q k j S tgt E st) : Gd p l e R s m args below meth c nL G Q k j S pc E (.int x :: st) := fun H locs la hH hS hl => lv_tableOut X.1 X.2.1 d h ht (K H locs la hH hS hl)
theorem gd_tableIn (X : Cx p s m args c cc nL own G) {dflt lo hi : Int} {offs : Array Int} {len : Nat} {x : Int32} {off : Int} (tgt : Nat) (d : decode cc pc = .ok (.tableswitch dflt lo hi offs, len)) (h1 : ¬ x.toInt < lo) (h2 : ¬ hi < x.toInt) (ho : offs[(x.toInt - lo).toNat]? = some off) (ht : (pc : Int) + off = (tgt : Int)) (K : Gd p l e R s m args below meth c nL G Q k j S tgt E st) : Gd p l e R s m args below meth c nL G Q k j S pc E (.int x :: st) := fun H locs la hH hS hl => lv_tableIn X.1 X.2.1 d h1 h2 ho ht (K H locs la hH hS hl)
theorem gd_callW (X : Cx p s m args c cc nL own G) {y : MethodName} {bytes : ByteArray} {maxL n : Nat} {ret : Option FieldType} {hh : List (Nat × Nat × Nat × Nat)} {rm : Room} {As : List Value} {post : Option Value → MS → Prop} (hM : MetW l y bytes maxL ret hh rm As G S post) (h1 : Cond.static y ∈ lw_all) (h2 : Cond.initialized y.cls ∈ lw_all) (h3 : Cond.codeWith y bytes maxL ret hh ∈ lw_all) (h4 : y.cls ≠ "java/lang/invoke/MethodHandle" ∧ y.cls ≠ "java/lang/invoke/VarHandle" ∧ (parseMethodDescriptor y.desc).map (fun d => d.parameters.length) = some n) (hl : Cond.methodLink own index y ∈ lw_all) (hR : rm.frames + 1 ≤ R.frames ∧ 8 + (maxL + 11) + rm.locals ≤ R.locals) (hn : As.length = n) (hst : st = As.reverse ++ rest) (hr : rest.length ≤ 4) (d : decode cc pc = .ok (.invokestatic index, 3)) (hf : k + rm.cells ≤ R.cells ∧ j + rm.slots ≤ R.slots)
    (K : ∀ (v : Option Value) (S' : MS), post v S' → Gd p l e R s m args below meth c nL G Q (k + rm.cells) (j + rm.slots) S' (pc + 3) E (v.toList ++ rest)) : Gd p l e R s m args below meth c nL G Q k j S pc E st := fun H locs la hH hS hl2 => by
  subst hst
  refine gd_backX (a0 := As.toArray) hS hl2 (vx_runSX (hh := hh) X.fix hM (vx_cwSW (ws' := lw_all) n X.2.2.2.2.1 (fun w hw => ?_) rfl rfl rfl h4 hR) ⟨pc_blind G S _, fun U hU hW => X.pre hH hS rfl hU hW⟩ rfl hn hl2.1 rfl (lv_room ?_) d hf) K (fun Ex S' hE hp => hp.elim)
  · unfold va_wsS at hw
    rcases List.mem_append.mp hw with hw | hw
    · simp only [List.mem_cons, List.not_mem_nil, or_false] at hw
      rcases hw with rfl | rfl | rfl
      · exact lw_goodIn hl
      · exact lw_goodIn h1
      · exact lw_goodIn h2
    · rcases List.mem_cons.mp hw with rfl | hw
      · exact lw_goodIn h3
      · exact lw_goodIn hw
  · have := cat_sum rest
    omega
end MAKES
