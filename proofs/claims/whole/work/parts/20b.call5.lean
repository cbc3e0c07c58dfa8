theorem cat1_sum : ∀ {vs : List Value}, cat1 vs → (vs.map fun v => v.category).sum = vs.length
  | [], _ => rfl
  | v :: vs, h => by
    rw [List.map_cons, List.sum_cons, List.length_cons, h.1, cat1_sum h.2, Nat.add_comm]
section CALLS
variable {p : Program} {l : Launch} {e : Env} {R : Room} {s : State} {m : MethodId} {args : Array Value} {below : List Frame} {meth : Method} {c : Code} {Q : State → Prop}
variable {cc : ByteArray} {nL : Nat} {own : String} {G : GP} {k j : Nat} {S : MS} {pc : Nat} {E : List (Nat × Value)} {st rest : List Value}
variable {y : MethodName} {bytes : ByteArray} {maxL : Nat} {ret : Option FieldType} {rm : Room} {post : Option Value → MS → Prop} {xp : String → MS → Prop} {As : List Value} {a ci index n : Nat}
theorem gd_callV5 (X : Cx p s m args c cc nL own G) (hM : MetM l y bytes maxL ret rm (rf a :: As) G S post) (hm : MVw y bytes maxL ret n) (hl : Cond.methodLink own index y ∈ lw_all) {C : String} {T : u_T} {N : Nat} {ty : Nat → FieldType} (hc : CI ci C T N ty) (hC : y.cls = C) (ha : kT S a = ci + 1) (hR : rm.frames + 1 ≤ R.frames ∧ 8 + (maxL + 11) + rm.locals ≤ R.locals) (hn : As.length = n) (hst : st = As.reverse ++ rf a :: rest) (hr : rest.length ≤ 8) (hr1 : cat1 rest) (d : decode cc pc = .ok (.invokevirtual index, 3)) (hf : k + rm.cells ≤ R.cells ∧ j + rm.slots ≤ R.slots)
    (K : ∀ (v : Option Value) (S' : MS), post v S' → Gd p l e R s m args below meth c nL G Q (k + rm.cells) (j + rm.slots) S' (pc + 3) E (v.toList ++ rest)) : Gd p l e R s m args below meth c nL G Q k j S pc E st := fun H locs la hH hS hl2 => by
  have ha0 : rf a = .ref a := rf_ne (Cx.ne X hH (by rw [ha]; omega))
  subst hst
  rw [ha0] at hM ⊢
  refine gd_back (a0 := (Value.ref a :: As).toArray) hS hl2 (va_runV X.fix hM (cwV_of X hm hl hR) ⟨pc_blind G S _, by rw [hC]; exact gd_recv X hH hc ha, fun U hU hW => X.pre hH hS rfl hU hW⟩ rfl hn hl2.1 rfl (lv_room ?_) d hf) K
  have := cat1_sum hr1
  omega
end CALLS
