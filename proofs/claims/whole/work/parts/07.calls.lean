theorem va_AOA.moved {ty : FieldType} {u U : State} (hvm : u.vm.Alike U.vm) (h : va_AOA ty u) : va_AOA ty U := Jvm.Stand.arrayOver_alikeB hvm h
theorem odd_warm {w : Cond} {s U : State} (hf : w.faceAtom = true) (ho : w.onTables = true) (hW : s.WarmedH U.vm) (h : w.before #[] s = true) : w.before #[] U = true := va_tabs ho (rfl : (s.setVm U.vm).vm = U.vm) (Cond.faceAtom_setVm hW.alike w hf h)
theorem odd_ok : ∀ w ∈ odd, w.faceAtom = true ∧ w.onTables = true := by decide +kernel
theorem wi_warm {G : GP} {s U : State} {H : Heap} {locs : List Loc} (hW : s.WarmedH U.vm) (hU : U.heap = H) (hS : va_S (Ab G) s.heap H locs) (h : WI G s) : WI G U := by
  obtain ⟨h1, h2, h3, h4, h5, h6, h7, h8, h9⟩ := h
  refine ⟨va_K.moved hW.alike h1, ?_, ?_, fun q hq => ?_, fun q hq => va_Nw.warmM hW (h5 q hq), fun C hC => va_AO.moved hW.alike (h6 C hC), va_AOA.moved hW.alike h7, fun a ha b hb hab => va_Nc.moved hW.alike (h8 a ha b hb hab), fun w hw => odd_warm (odd_ok w hw).1 (odd_ok w hw).2 hW (h9 w hw)⟩
  · rw [hU]; exact (h2.moved hW.alike).kept (fun a ha hA => hS.2.1 a ha hA)
  · rw [hU]; exact (h3.moved hW.alike).kept (fun a ha hA => hS.2.1 a ha hA)
  · obtain ⟨a, ha⟩ := h4 q hq
    exact ⟨a, ha.warm hW⟩
theorem wi_calling {G : GP} {U : State} {g : JFrame} {mk : MethodId} {a : Array Value} (h : WI G U) : WI G (U.calling g mk a) := by
  obtain ⟨h1, h2, h3, h4, h5, h6, h7, h8, h9⟩ := h
  have hA : U.vm.Alike (U.calling g mk a).vm := Vm.Alike.refl U.vm
  refine ⟨va_K.moved hA h1, h2.moved hA, h3.moved hA, fun q hq => ?_, fun q hq => (h5 q hq).same ?_ rfl, fun C hC => va_AO.moved hA (h6 C hC), va_AOA.moved hA h7, fun x hx y hy hxy => va_Nc.moved hA (h8 x hx y hy hxy), fun w hw => va_Nw.same (u := U) (odd_ok w hw).2 rfl (h9 w hw)⟩
  · obtain ⟨a, ha⟩ := h4 q hq
    exact ⟨a, ha.same rfl⟩
  · rfl
/-! CONTRACTS over the model state -/
def PcM (G : GP) (S : MS) (as : List Value) : Array Value → State → Prop := fun v U => v = as.toArray ∧ HR G S U.heap ∧ WI G U ∧ 1 ≤ G.2.2 ∧ G.2.2 ≤ U.heap.size
def QcM (G : GP) (post : Option Value → MS → Prop) : Array Value → State → Outcome → State → Prop := fun _ st o t => ∃ (v : Option Value) (S' : MS), o = .returned v ∧ post v S' ∧ HR G S' t.heap ∧ va_F (Ab G) st t
def XcM (G : GP) (xp : String → MS → Prop) : String → State → State → Prop := fun E st t => ∃ S' : MS, E ∈ excs ∧ xp E S' ∧ HR G S' t.heap ∧ va_F (Ab G) st t
def pI_ (post : Int32 → MS → Prop) : Option Value → MS → Prop := fun v S => ∃ r : Int32, v = some (.int r) ∧ post r S
def pR_ (post : Nat → MS → Prop) : Option Value → MS → Prop := fun v S => ∃ r : Nat, v = some (rf r) ∧ post r S
def pV_ (post : MS → Prop) : Option Value → MS → Prop := fun v S => v = none ∧ post S
def pD_ (post : UInt64 → MS → Prop) : Option Value → MS → Prop := fun v S => ∃ r : UInt64, v = some (.double r) ∧ post r S
def pF_ (post : UInt32 → MS → Prop) : Option Value → MS → Prop := fun v S => ∃ r : UInt32, v = some (.float r) ∧ post r S
/-- a method that returns -/
def MetM (l : Launch) (y : MethodName) (bytes : ByteArray) (maxL : Nat) (ret : Option FieldType) (rm : Room) (as : List Value) (G : GP) (S : MS) (post : Option Value → MS → Prop) : Prop := Met l y (Cond.code y bytes maxL ret :: lw_all) rm (PcM G S as) (QcM G post) rm.cells rm.slots (Ab G)
/-- a method that returns or throws -/
def MetX (l : Launch) (y : MethodName) (bytes : ByteArray) (maxL : Nat) (ret : Option FieldType) (rm : Room) (as : List Value) (G : GP) (S : MS) (post : Option Value → MS → Prop) (xp : String → MS → Prop) : Prop := vx_Met l y (Cond.code y bytes maxL ret :: lw_all) rm (PcM G S as) (QcM G post) (XcM G xp) rm.cells rm.slots (Ab G)
theorem pc_blind (G : GP) (S : MS) (as : List Value) : FrameBlind (PcM G S as) := fun a U g mk h => ⟨h.1, h.2.1, wi_calling h.2.2.1, h.2.2.2⟩
theorem cat_sum : ∀ (st : List Value), (st.map fun v => v.category).sum ≤ 2 * st.length
  | [] => Nat.le_refl 0
  | v :: st => by
    have h1 := cat_sum st
    have h2 : v.category ≤ 2 := by cases v <;> simp [Value.category]
    simp only [List.map_cons, List.sum_cons, List.length_cons]
    omega
theorem lw_goodIn {w : Cond} (h : w ∈ lw_all) : w ∈ lw_all ∧ ((w.onTables && w.keeps) = true ∨ ∃ ty, w = .arrayClass ty) := ⟨h, good_of_word (lw_all_good h)⟩
/-- what the tables say of a method that is called: by its receiver, statically, as a constructor -/
def MVw (y : MethodName) (bytes : ByteArray) (maxL : Nat) (ret : Option FieldType) (n : Nat) : Prop := Cond.instanceMethod y ∈ lw_all ∧ Cond.selects y.cls y y ∈ lw_all ∧ Cond.initialized y.cls ∈ lw_all ∧ Cond.code y bytes maxL ret ∈ lw_all ∧ y.cls ≠ "java/lang/invoke/MethodHandle" ∧ y.cls ≠ "java/lang/invoke/VarHandle" ∧ (parseMethodDescriptor y.desc).map (fun d => d.parameters.length) = some n
def MSw (y : MethodName) (bytes : ByteArray) (maxL : Nat) (ret : Option FieldType) (n : Nat) : Prop := Cond.static y ∈ lw_all ∧ Cond.initialized y.cls ∈ lw_all ∧ Cond.code y bytes maxL ret ∈ lw_all ∧ y.cls ≠ "java/lang/invoke/MethodHandle" ∧ y.cls ≠ "java/lang/invoke/VarHandle" ∧ (parseMethodDescriptor y.desc).map (fun d => d.parameters.length) = some n
def MIw (y : MethodName) (bytes : ByteArray) (maxL : Nat) (n : Nat) : Prop := Cond.instanceMethod y ∈ lw_all ∧ Cond.initialized y.cls ∈ lw_all ∧ Cond.code y bytes maxL none ∈ lw_all ∧ y.cls ≠ "java/lang/invoke/MethodHandle" ∧ y.cls ≠ "java/lang/invoke/VarHandle" ∧ (parseMethodDescriptor y.desc).map (fun d => d.parameters.length) = some n ∧ y.name = "<init>"
section CALLS
variable {p : Program} {l : Launch} {e : Env} {R : Room} {s : State} {m : MethodId} {args : Array Value} {below : List Frame} {meth : Method} {c : Code} {Q : State → Prop}
variable {cc : ByteArray} {nL : Nat} {own : String} {G : GP} {k j : Nat} {S : MS} {pc : Nat} {E : List (Nat × Value)} {st rest : List Value}
variable {y : MethodName} {bytes : ByteArray} {maxL : Nat} {ret : Option FieldType} {rm : Room} {post : Option Value → MS → Prop} {xp : String → MS → Prop} {As : List Value} {a ci index n : Nat}
theorem Cx.fix (X : Cx p s m args c cc nL own G) : CallFix p m c cc nL s args lw_all own := ⟨X.1, X.2.1, X.2.2.1, X.2.2.2.1, X.2.2.2.2.1⟩
theorem Cx.pre (X : Cx p s m args c cc nL own G) {H : Heap} {locs : List Loc} (hH : HR G S H) (hS : va_S (Ab G) s.heap H locs) {as : List Value} {v : Array Value} (hv : v = as.toArray) {U : State} (hU : U.heap = H) (hW : s.WarmedH U.vm) : PcM G S as v U :=
  ⟨hv, by rw [hU]; exact hH, wi_warm hW hU hS X.2.2.2.2.2.1, X.2.2.2.2.2.2.1, by rw [hU]; exact Nat.le_trans X.2.2.2.2.2.2.2 hS.1⟩
/-- behind a call that returned: the run goes on over the new model state -/
theorem gd_back {H : Heap} {locs : List Loc} {la : Array Slot} (hS : va_S (Ab G) s.heap H locs) (hl : lv_has la nL E) {a0 : Array Value} (hr : va_Run p l e R s m args below meth c H locs k j rm.cells rm.slots (F0 m pc la st) rest (QcM G post a0) (Ab G))
    (K : ∀ (v : Option Value) (S' : MS), post v S' → Gd p l e R s m args below meth c nL G Q (k + rm.cells) (j + rm.slots) S' (pc + 3) E (v.toList ++ rest)) : W p l e R s m args below meth c H locs k j Q (F0 m pc la st) := by
  intro T hT X
  obtain ⟨v, st₀, t, T', L, h0, X', hL, e1, e2, ⟨v', S', hv, hp, hH, hF⟩, go⟩ := hr T hT X
  cases hv
  obtain ⟨-, -, hS'⟩ := vx_keep h0 e1 hS (fun _ _ h => h) (fun _ h => h) hL hF
  obtain ⟨t2, a1, b1⟩ := K v S' hp T'.heap (locs ++ L) la (by rw [e1]; exact hH) hS' hl T' rfl X'
  exact ⟨t2, go t2 a1, b1⟩
theorem gd_backX {H : Heap} {locs : List Loc} {la : Array Slot} (hS : va_S (Ab G) s.heap H locs) (hl : lv_has la nL E) {a0 : Array Value} (hr : vx_Run p l e R s m args below meth c H locs k j rm.cells rm.slots (F0 m pc la st) rest (QcM G post a0) (XcM G xp) (Ab G))
    (K : ∀ (v : Option Value) (S' : MS), post v S' → Gd p l e R s m args below meth c nL G Q (k + rm.cells) (j + rm.slots) S' (pc + 3) E (v.toList ++ rest))
    (KX : ∀ (Ex : String) (S' : MS), Ex ∈ excs → xp Ex S' → ∀ (H1 : Heap) (locs1 : List Loc) (q : Addr) (ce : Cell), HR G S' H1 → va_S (Ab G) s.heap H1 locs1 → H1[q]? = some ce → ce.vm = .none → s.vm.findClass Ex = some ce.cls → vx_W p l e R s m args below meth c H1 locs1 (k + rm.cells) (j + rm.slots) Q (F0 m pc la rest) q) : W p l e R s m args below meth c H locs k j Q (F0 m pc la st) := by
  intro T hT X
  rcases hr T hT X with ⟨v, st₀, t, T', L, h0, X', hL, e1, e2, ⟨v', S', hv, hp, hH, hF⟩, go⟩ | ⟨q, st₀, t, T', L, Ex, ce, h0, X', hL, e1, e2, ⟨S', hE, hp, hH, hF⟩, hce, hcv, hcl, go⟩
  · cases hv
    obtain ⟨-, -, hS'⟩ := vx_keep h0 e1 hS (fun _ _ h => h) (fun _ h => h) hL hF
    obtain ⟨t2, a1, b1⟩ := K v S' hp T'.heap (locs ++ L) la (by rw [e1]; exact hH) hS' hl T' rfl X'
    exact ⟨t2, go t2 a1, b1⟩
  · obtain ⟨-, -, hS'⟩ := vx_keep h0 e1 hS (fun _ _ h => h) (fun _ h => h) hL hF
    obtain ⟨t2, a1, b1⟩ := KX Ex S' hE hp T'.heap (locs ++ L) q ce (by rw [e1]; exact hH) hS' (by rw [e1]; exact hce) hcv hcl T' rfl X'
    exact ⟨t2, go.trans a1, b1⟩
theorem gd_recv (X : Cx p s m args c cc nL own G) {H : Heap} (hH : HR G S H) {C : String} {T : u_T} {N : Nat} {ty : Nat → FieldType} (hc : CI ci C T N ty) (ha : kT S a = ci + 1) : ∃ cell : Cell, H[a]? = some cell ∧ cell.vm.isStatics = false ∧ s.vm.findClass C = some cell.cls := by
  obtain ⟨L, q, hL, hP, hD, hm, hq⟩ := HR_at hH (a := a) (by rw [ha]; omega)
  rw [cell_o ha hc.1] at hq
  exact va_recv X.2.2.2.2.2.1.1 hP hc.2.1 hq
theorem cwV_of (X : Cx p s m args c cc nL own G) (hm : MVw y bytes maxL ret n) (hl : Cond.methodLink own index y ∈ lw_all) (hR : rm.frames + 1 ≤ R.frames ∧ 8 + (maxL + 11) + rm.locals ≤ R.locals) : CallW R s args own y.cls index y bytes maxL ret (Cond.code y bytes maxL ret :: lw_all) rm rm.cells rm.slots n := by
  obtain ⟨h1, h2, h3, h4, h5, h6, h7⟩ := hm
  refine cwV (ws' := lw_all) n X.2.2.2.2.1 (fun w hw => ?_) rfl rfl rfl ⟨rfl, h5, h6, h7⟩ hR
  unfold wsV at hw
  rcases List.mem_append.mp hw with hw | hw
  · simp only [List.mem_cons, List.not_mem_nil, or_false] at hw
    rcases hw with rfl | rfl | rfl | rfl
    · exact lw_goodIn hl
    · exact lw_goodIn h1
    · exact lw_goodIn h2
    · exact lw_goodIn h3
  · rcases List.mem_cons.mp hw with rfl | hw
    · exact lw_goodIn h4
    · exact lw_goodIn hw
theorem cwB_of (X : Cx p s m args c cc nL own G) (h3 : Cond.initialized y.cls ∈ lw_all) (h4 : Cond.code y bytes maxL ret ∈ lw_all) (h5 : y.cls ≠ "java/lang/invoke/MethodHandle" ∧ y.cls ≠ "java/lang/invoke/VarHandle" ∧ (parseMethodDescriptor y.desc).map (fun d => d.parameters.length) = some n) (hl : Cond.methodLink own index y ∈ lw_all) (hR : rm.frames + 1 ≤ R.frames ∧ 8 + (maxL + 11) + rm.locals ≤ R.locals) : CallB R s args own index y bytes maxL ret (Cond.code y bytes maxL ret :: lw_all) rm rm.cells rm.slots n := by
  refine callB_of (ws' := lw_all) n X.2.2.2.2.1 (fun w hw => ?_) rfl rfl rfl (X.2.2.2.2.1 _ h3) (X.2.2.2.2.1 _ hl) h5 hR
  rcases List.mem_cons.mp hw with rfl | hw
  · exact lw_goodIn h4
  · exact lw_goodIn hw
theorem gd_callV (X : Cx p s m args c cc nL own G) (hM : MetM l y bytes maxL ret rm (rf a :: As) G S post) (hm : MVw y bytes maxL ret n) (hl : Cond.methodLink own index y ∈ lw_all) {C : String} {T : u_T} {N : Nat} {ty : Nat → FieldType} (hc : CI ci C T N ty) (hC : y.cls = C) (ha : kT S a = ci + 1) (hR : rm.frames + 1 ≤ R.frames ∧ 8 + (maxL + 11) + rm.locals ≤ R.locals) (hn : As.length = n) (hst : st = As.reverse ++ rf a :: rest) (hr : rest.length ≤ 4) (d : decode cc pc = .ok (.invokevirtual index, 3)) (hf : k + rm.cells ≤ R.cells ∧ j + rm.slots ≤ R.slots)
    (K : ∀ (v : Option Value) (S' : MS), post v S' → Gd p l e R s m args below meth c nL G Q (k + rm.cells) (j + rm.slots) S' (pc + 3) E (v.toList ++ rest)) : Gd p l e R s m args below meth c nL G Q k j S pc E st := fun H locs la hH hS hl2 => by
  have ha0 : rf a = .ref a := rf_ne (Cx.ne X hH (by rw [ha]; omega))
  subst hst
  rw [ha0] at hM ⊢
  refine gd_back (a0 := (Value.ref a :: As).toArray) hS hl2 (va_runV X.fix hM (cwV_of X hm hl hR) ⟨pc_blind G S _, by rw [hC]; exact gd_recv X hH hc ha, fun U hU hW => X.pre hH hS rfl hU hW⟩ rfl hn hl2.1 rfl (lv_room ?_) d hf) K
  have := cat_sum rest
  omega
theorem gd_callVX (X : Cx p s m args c cc nL own G) (hM : MetX l y bytes maxL ret rm (rf a :: As) G S post xp) (hm : MVw y bytes maxL ret n) (hl : Cond.methodLink own index y ∈ lw_all) {C : String} {T : u_T} {N : Nat} {ty : Nat → FieldType} (hc : CI ci C T N ty) (hC : y.cls = C) (ha : kT S a = ci + 1) (hR : rm.frames + 1 ≤ R.frames ∧ 8 + (maxL + 11) + rm.locals ≤ R.locals) (hn : As.length = n) (hst : st = As.reverse ++ rf a :: rest) (hr : rest.length ≤ 4) (d : decode cc pc = .ok (.invokevirtual index, 3)) (hf : k + rm.cells ≤ R.cells ∧ j + rm.slots ≤ R.slots)
    (K : ∀ (v : Option Value) (S' : MS), post v S' → Gd p l e R s m args below meth c nL G Q (k + rm.cells) (j + rm.slots) S' (pc + 3) E (v.toList ++ rest))
    (KX : ∀ (Ex : String) (S' : MS), Ex ∈ excs → xp Ex S' → ∀ (H1 : Heap) (locs1 : List Loc) (la : Array Slot) (q : Addr) (ce : Cell), HR G S' H1 → va_S (Ab G) s.heap H1 locs1 → lv_has la nL E → H1[q]? = some ce → ce.vm = .none → s.vm.findClass Ex = some ce.cls → vx_W p l e R s m args below meth c H1 locs1 (k + rm.cells) (j + rm.slots) Q (F0 m pc la rest) q) : Gd p l e R s m args below meth c nL G Q k j S pc E st := fun H locs la hH hS hl2 => by
  have ha0 : rf a = .ref a := rf_ne (Cx.ne X hH (by rw [ha]; omega))
  subst hst
  rw [ha0] at hM ⊢
  refine gd_backX (a0 := (Value.ref a :: As).toArray) hS hl2 (vx_runV X.fix hM (cwV_of X hm hl hR) ⟨pc_blind G S _, by rw [hC]; exact gd_recv X hH hc ha, fun U hU hW => X.pre hH hS rfl hU hW⟩ rfl hn hl2.1 rfl (lv_room ?_) d hf) K (fun Ex S' hE hp H1 locs1 q ce h1 h2 => KX Ex S' hE hp H1 locs1 la q ce h1 h2 hl2)
  have := cat_sum rest
  omega
theorem gd_callS (X : Cx p s m args c cc nL own G) (hM : MetM l y bytes maxL ret rm As G S post) (hm : MSw y bytes maxL ret n) (hl : Cond.methodLink own index y ∈ lw_all) (hR : rm.frames + 1 ≤ R.frames ∧ 8 + (maxL + 11) + rm.locals ≤ R.locals) (hn : As.length = n) (hst : st = As.reverse ++ rest) (hr : rest.length ≤ 4) (d : decode cc pc = .ok (.invokestatic index, 3)) (hf : k + rm.cells ≤ R.cells ∧ j + rm.slots ≤ R.slots)
    (K : ∀ (v : Option Value) (S' : MS), post v S' → Gd p l e R s m args below meth c nL G Q (k + rm.cells) (j + rm.slots) S' (pc + 3) E (v.toList ++ rest)) : Gd p l e R s m args below meth c nL G Q k j S pc E st := fun H locs la hH hS hl2 => by
  subst hst
  refine gd_back (a0 := As.toArray) hS hl2 (va_runS X.fix hM ⟨cwB_of X hm.2.1 hm.2.2.1 hm.2.2.2 hl hR, X.2.2.2.2.1 _ hm.1⟩ ⟨pc_blind G S _, fun U hU hW => X.pre hH hS rfl hU hW⟩ rfl hn hl2.1 rfl (lv_room ?_) d hf) K
  have := cat_sum rest
  omega
theorem gd_callSX (X : Cx p s m args c cc nL own G) (hM : MetX l y bytes maxL ret rm As G S post xp) (hm : MSw y bytes maxL ret n) (hl : Cond.methodLink own index y ∈ lw_all) (hR : rm.frames + 1 ≤ R.frames ∧ 8 + (maxL + 11) + rm.locals ≤ R.locals) (hn : As.length = n) (hst : st = As.reverse ++ rest) (hr : rest.length ≤ 4) (d : decode cc pc = .ok (.invokestatic index, 3)) (hf : k + rm.cells ≤ R.cells ∧ j + rm.slots ≤ R.slots)
    (K : ∀ (v : Option Value) (S' : MS), post v S' → Gd p l e R s m args below meth c nL G Q (k + rm.cells) (j + rm.slots) S' (pc + 3) E (v.toList ++ rest))
    (KX : ∀ (Ex : String) (S' : MS), Ex ∈ excs → xp Ex S' → ∀ (H1 : Heap) (locs1 : List Loc) (la : Array Slot) (q : Addr) (ce : Cell), HR G S' H1 → va_S (Ab G) s.heap H1 locs1 → lv_has la nL E → H1[q]? = some ce → ce.vm = .none → s.vm.findClass Ex = some ce.cls → vx_W p l e R s m args below meth c H1 locs1 (k + rm.cells) (j + rm.slots) Q (F0 m pc la rest) q) : Gd p l e R s m args below meth c nL G Q k j S pc E st := fun H locs la hH hS hl2 => by
  subst hst
  refine gd_backX (a0 := As.toArray) hS hl2 (vx_runS X.fix hM ⟨cwB_of X hm.2.1 hm.2.2.1 hm.2.2.2 hl hR, X.2.2.2.2.1 _ hm.1⟩ ⟨pc_blind G S _, fun U hU hW => X.pre hH hS rfl hU hW⟩ rfl hn hl2.1 rfl (lv_room ?_) d hf) K (fun Ex S' hE hp H1 locs1 q ce h1 h2 => KX Ex S' hE hp H1 locs1 la q ce h1 h2 hl2)
  have := cat_sum rest
  omega
theorem gd_callSN (X : Cx p s m args c cc nL own G) {host : String} (hM : MetM l y bytes maxL ret rm As G S post) (hm : MSw y bytes maxL ret n) (hl : (own, index, y, host) ∈ nest) (hR : rm.frames + 1 ≤ R.frames ∧ 8 + (maxL + 11) + rm.locals ≤ R.locals) (hn : As.length = n) (hst : st = As.reverse ++ rest) (hr : rest.length ≤ 4) (d : decode cc pc = .ok (.invokestatic index, 3)) (hf : k + rm.cells ≤ R.cells ∧ j + rm.slots ≤ R.slots)
    (K : ∀ (v : Option Value) (S' : MS), post v S' → Gd p l e R s m args below meth c nL G Q (k + rm.cells) (j + rm.slots) S' (pc + 3) E (v.toList ++ rest)) : Gd p l e R s m args below meth c nL G Q k j S pc E st := fun H locs la hH hS hl2 => by
  subst hst
  refine gd_back (a0 := As.toArray) hS hl2 (va_runSN X.fix hM ⟨va_cnB (host := host) (ws' := lw_all) n X.2.2.2.2.1 (fun w hw => ?_) rfl rfl rfl (X.2.2.2.2.2.1.2.2.2.2.1 _ hl) (X.2.2.2.2.1 _ hm.2.1) hm.2.2.2 hR, X.2.2.2.2.1 _ hm.1, trivial⟩ ⟨pc_blind G S _, fun U hU hW => X.pre hH hS rfl hU hW⟩ rfl hn hl2.1 rfl (lv_room ?_) d hf) K
  · rcases List.mem_cons.mp hw with rfl | hw
    · exact lw_goodIn hm.2.2.1
    · exact lw_goodIn hw
  · have := cat_sum rest
    omega
theorem gd_callI (X : Cx p s m args c cc nL own G) (hM : MetM l y bytes maxL none rm (rf a :: As) G S post) (hm : MIw y bytes maxL n) (hl : Cond.methodLink own index y ∈ lw_all) (ha : kT S a ≠ 0) (hR : rm.frames + 1 ≤ R.frames ∧ 8 + (maxL + 11) + rm.locals ≤ R.locals) (hn : As.length = n) (hst : st = As.reverse ++ rf a :: rest) (hr : rest.length ≤ 4) (d : decode cc pc = .ok (.invokespecial index, 3)) (hf : k + rm.cells ≤ R.cells ∧ j + rm.slots ≤ R.slots)
    (K : ∀ (v : Option Value) (S' : MS), post v S' → Gd p l e R s m args below meth c nL G Q (k + rm.cells) (j + rm.slots) S' (pc + 3) E (v.toList ++ rest)) : Gd p l e R s m args below meth c nL G Q k j S pc E st := fun H locs la hH hS hl2 => by
  have ha0 : rf a = .ref a := rf_ne (Cx.ne X hH ha)
  subst hst
  rw [ha0] at hM ⊢
  refine gd_back (a0 := (Value.ref a :: As).toArray) hS hl2 (va_runI X.fix hM ⟨cwB_of X hm.2.1 hm.2.2.1 ⟨hm.2.2.2.1, hm.2.2.2.2.1, hm.2.2.2.2.2.1⟩ hl hR, hm.2.2.2.2.2.2, X.2.2.2.2.1 _ hm.1⟩ ⟨pc_blind G S _, fun U hU hW => X.pre hH hS rfl hU hW⟩ rfl hn hl2.1 rfl (lv_room ?_) d hf) K
  have := cat_sum rest
  omega
theorem gd_objInit (X : Cx p s m args c cc nL own G) (ha : kT S a ≠ 0) (hl : Cond.methodLink own index objectInit ∈ lw_all) (h2 : Cond.instanceMethod objectInit ∈ lw_all) (h3 : Cond.code objectInit ⟨#[0xb1]⟩ 1 none ∈ lw_all) (d : decode cc pc = .ok (.invokespecial index, 3)) (hr : st.length ≤ 4) (hR : 1 ≤ R.frames ∧ 20 ≤ R.locals) (K : Gd p l e R s m args below meth c nL G Q k j S (pc + 3) E st) : Gd p l e R s m args below meth c nL G Q k j S pc E (rf a :: st) := fun H locs la hH hS hl2 => by
  rw [rf_ne (Cx.ne X hH ha)]
  refine W.objInit X.1 X.2.1 X.2.2.2.1 (X.2.2.2.2.1 _ hl) (X.2.2.2.2.1 _ h2) (X.2.2.2.2.1 _ h3) rfl (by rw [X.2.2.1]; exact hl2.1) rfl d hR.1 ?_ (K H locs la hH hS hl2)
  have := cat_sum st
  show 2 * 0 + _ + 12 ≤ _
  omega
end CALLS
