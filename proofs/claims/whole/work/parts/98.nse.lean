/-! 'throw new NoSuchElementException("text")': its constructor links at 13, not at 7 -/
def rx13 : ByteArray := ⟨#[0x2a, 0x2b, 0xb7, 0x00, 0x0d, 0xb1]⟩
def nse_at (own : String) (ic : Nat) (X : String) (names : List String) : List Cond := (Bundle.ownAtomsX own ic X 13 rx13 names).filter vx_no
theorem thX_15 : (∀ w ∈ (nse_at "OptimisticStore" 138 "java/util/NoSuchElementException" xnames).filter goodWord, w ∈ lw_all) ∧ (∀ w ∈ (nse_at "OptimisticStore" 138 "java/util/NoSuchElementException" xnames).filter (fun w => !goodWord w), w ∈ odd) ∧ (∀ w ∈ Cond.classLink "OptimisticStore" 134 "java/util/NoSuchElementException" :: Cond.initialized "java/util/NoSuchElementException" :: nse_at "OptimisticStore" 138 "java/util/NoSuchElementException" xnames, vx_ot w = true) := ⟨by decide +kernel, by decide +kernel, by decide +kernel⟩
theorem x13_0 : decode rx13 0 = .ok (.aload_n 0, 1) := by decide +kernel
theorem x13_1 : decode rx13 1 = .ok (.aload_n 1, 1) := by decide +kernel
theorem x13_2 : decode rx13 2 = .ok (.invokespecial 13, 3) := by decide +kernel
theorem x13_5 : decode rx13 5 = .ok (.return_, 1) := by decide +kernel
section NSE
variable {p : Program} {l : Launch} {e : Env} {R : Room} {s : State} {m₀ : MethodId} {args : Array Value} {below : List Frame} {meth : Method} {c : Code} {W : State} {locs : List Loc} {cells slots : Nat}
set_option maxHeartbeats 1000000 in
/-- the constructor, then athrow: the cell a leaves, thrown -/
theorem nse_ctor (X : Stand p l e R s m₀ args below meth c W locs cells slots) (hexec : p.tables.exec = Jvm.exec) (htr : e.platform.stackTraces = false) {own cls : String} {names : List String} {ic : Nat}
    (hown : s.vm.findClass own = some m₀.cls) (hcls : Bundle.fit cls = true) (hnames : ∀ n ∈ names, Bundle.fit n = true) (h : ∀ w ∈ Bundle.ownAtomsX own ic cls 13 rx13 names, w.before args s = true)
    (hlocs : ∀ x ∈ locs, ∀ cell, s.heap[x.base]? = some cell → cell.vm.isStatics = false)
    {a : Addr} {cX : ClassId} {kX : Class} (hfX : s.vm.findClass cls = some cX) (hkX : s.vm.classes[cX]? = some kX) (hcell : W.heap[a]? = some (freshCell cX kX)) (hnew : s.heap.size ≤ a)
    {msg : Value} (hmsg : msg.isRef = true) {g : JFrame} (hg : g.method = m₀) (hsize : g.locals.size = c.maxLocals) (hlocked : g.locked = none) (hentered : g.entered = []) {rest : List Value} (hstack : g.stack = msg :: .ref a :: .ref a :: rest)
    (hd6 : decode c.code g.pc = .ok (.invokespecial ic, 3)) (hd9 : decode c.code (g.pc + 3) = .ok (.athrow, 1)) (hout : ∀ x ∈ c.exceptionTable.toList, covers x (g.pc + 3) = false)
    (hRf : names.length + 3 < R.frames) (hRl : 2 * g.monitorRoom + ((Value.ref a :: rest).map fun v => v.category).sum + (13 * (names.length + 1) + 42) ≤ R.locals) (hlocks : meth.locks = false) :
    ∃ U : State, Steps p.tables e below (W.setTop g) U ∧ U.status = .running ∧ Ended U below (.threw a) ∧ s.WarmedH U.vm ∧ s.sameButNew ({ U with vm := s.vm } : State) locs cells slots ∧ ∃ ce, U.heap[a]? = some ce ∧ ce.cls = cX ∧ ce.vm = .none := by
  have hpl : e.platform.magicAccessors = ({} : Platform).magicAccessors := by rw [X.admits.platform]
  obtain ⟨T, Z0, L, -, Y⟩ := ThrowableC.of_atoms (args := args) (s := s) (pl := e.platform) (by rw [X.admits.platform]) (by rw [X.admits.platform]) hpl (fun w hw => h w (by simp [Bundle.ownAtomsX, hw]))
  obtain ⟨Z, M, LZ, LM, hnZ⟩ := Init0T.ofS_atoms (args := args) hpl L Y (fun w hw => h w (by simp [Bundle.ownAtomsX, hw]))
  obtain ⟨P1, Ps, hlen, L1, hL, hP1, hl1, hl2⟩ := Bundle.chainSX (args := args) hpl hnZ x13_0 x13_1 x13_2 x13_5 names cls hcls hnames (fun w hw => h w (by simp [Bundle.ownAtomsX, hw]))
  have hfound : s.vm.findClass cls = some P1.m.cls := findClass_of_methodNamed hP1
  cases Option.some.inj (hfX.symm.trans hfound)
  obtain ⟨c1, k1, hc1, hk, hord, -, -, hn6⟩ := Cond.instantiable_spec (h (.instantiable cls 6) (by simp [Bundle.ownAtomsX]))
  cases Option.some.inj (hc1.symm.trans hfound)
  cases Option.some.inj (hkX.symm.trans hk)
  have sel : ∀ {y : MethodName} {q : MethodId}, Cond.selects cls y y ∈ Bundle.ownAtomsX own ic cls 13 rx13 names → s.methodNamed? y = some q → s.methodFound? y.cls y.name y.desc = some q → selectMethod e.platform s.vm P1.m.cls q = .method q := fun {y q} hm hn hf => by
    obtain ⟨c2, r2, m2, q1, q2, q3, q4, -⟩ := Cond.selects_spec (h _ hm)
    cases Option.some.inj (q1.symm.trans hfound)
    cases Option.some.inj (q2.symm.trans hf)
    cases Option.some.inj (q3.symm.trans hn)
    rw [Launch.admits_selectMethod X.admits]; exact q4
  have hsel0 : selectMethod e.platform s.vm P1.m.cls T.fill0 = .method T.fill0 := sel (by simp [Bundle.ownAtomsX]) Y.fill0 (State.methodFound?_of_named Y.fill0 (by decide))
  have hselF : selectMethod e.platform s.vm P1.m.cls T.fill = .method T.fill := sel (by simp [Bundle.ownAtomsX]) Y.fill (State.methodFound?_of_named Y.fill (by decide))
  obtain ⟨cS0, hcS0, hiss⟩ := Y.statics
  obtain ⟨u0, hu0⟩ := Cond.staticRefV Y.unassigned L.unassignedStatic L.statics hcS0 hiss (h (.isRef (.static Bundle.tN "UNASSIGNED_STACK" Bundle.steD)) (by simp [Bundle.ownAtomsX]))
  obtain ⟨sen, hsen⟩ := Cond.staticRefV Y.sentinel L.sentinelStatic L.statics hcS0 hiss (h (.isRef (.static Bundle.tN "SUPPRESSED_SENTINEL" Bundle.listD)) (by simp [Bundle.ownAtomsX]))
  obtain ⟨ci, iB, fB, hkB, hgB, haB, hsB, -, hnB, htB, hfB⟩ := Cond.ownField (t := .object "java/lang/Object") Y.found L.cls (by decide +kernel) (h (.fieldLink Bundle.tN 198 Bundle.tN "backtrace" "Ljava/lang/Object;") (by simp [Bundle.ownAtomsX])) (h (.lays Bundle.tN Bundle.tN "backtrace" "Ljava/lang/Object;") (by simp [Bundle.ownAtomsX])) e.platform hpl
  obtain ⟨cS, hcS, heS, -, hkeep⟩ := X.same.2.2.2.2.2 T.aS cS0 hcS0
  have hout' : ∀ i, (⟨T.aS, i⟩ : Loc) ∉ locs := fun i hm => by
    have := hlocs _ hm cS0 hcS0
    rw [hiss] at this; cases this
  have hknown : cS.vm ≠ .unknown := fun hu => by
    rw [heS] at hu
    rw [show cS0.vm = .unknown from hu] at hiss
    cases hiss
  have hneS : T.aS ≠ a := Nat.ne_of_lt (Nat.lt_of_lt_of_le (Array.getElem?_eq_some_iff.mp hcS0).1 hnew)
  obtain ⟨iM, hfM⟩ := Y.msg
  obtain ⟨tyC, dC, hdC, nC⟩ := Cond.laysAt hfound hk Y.cause (h (.lays cls Bundle.tN "cause" "Ljava/lang/Throwable;") (by simp [Bundle.ownAtomsX]))
  obtain ⟨tyS, dS, hdS, nS'⟩ := Cond.laysAt hfound hk Y.stack (h (.lays cls Bundle.tN "stackTrace" Bundle.steD) (by simp [Bundle.ownAtomsX]))
  obtain ⟨tyP, dP, hdP, nP⟩ := Cond.laysAt hfound hk Y.supp (h (.lays cls Bundle.tN "suppressedExceptions" Bundle.listD) (by simp [Bundle.ownAtomsX]))
  obtain ⟨tyM, dM, hdM, nM⟩ := Cond.laysAt hfound hk hfM (h (.lays cls Bundle.tN "detailMessage" "Ljava/lang/String;") (by simp [Bundle.ownAtomsX]))
  obtain ⟨tyB, dB, hdB, nB⟩ := Cond.laysAt hfound hk hfB (h (.lays cls Bundle.tN "backtrace" "Ljava/lang/Object;") (by simp [Bundle.ownAtomsX]))
  have bC := Cond.laysApart hdB hdC nB nC (by rw [hnB, Y.causeName]; decide)
  have bS := Cond.laysApart hdB hdS nB nS' (by rw [hnB, Y.stackName]; decide)
  have bP := Cond.laysApart hdB hdP nB nP (by rw [hnB, Y.suppName]; decide)
  have hskip : SkipFacts T e.platform s (fun u => u) u0 ((preparedCellV T.toThrowableT (freshCell P1.m.cls kX) a u0 sen).withEntry W.cur) :=
    ⟨{ ci198 := ci, i198 := iB, fBack := fB }, ⟨hkB, hgB, haB, hsB⟩, by
      have := fresh_default (c := P1.m.cls) tyB
      rw [htB] at this
      simpa [preparedCellV, Cell.setSlot, Cell.withEntry, Array.getElem?_setIfInBounds, bC, bS, bP, bC.symm, bS.symm, bP.symm, defaultValue] using this, fun _ _ => rfl⟩
  obtain ⟨tm, mC, cC, kC, vm₁, hnC, -, -, -, -, -, -, -, hW₁, st1⟩ := Steps.initColdS (tb := p.tables) (e := e) (below := below) (s := s) (U := W) X.here hexec X.warmed hpl hown (t := Bundle.initS cls) rfl rfl (Bundle.fit_spec hcls).2
    (h (.methodLink own ic (Bundle.initS cls)) (by simp [Bundle.ownAtomsX])) (h (.instanceMethod (Bundle.initS cls)) (by cases names <;> simp [Bundle.ownAtomsX, Bundle.chainSAtomsX, Bundle.passSAtoms])) (bytes := rx13) (maxL := 2) (h (.code (Bundle.initS cls) rx13 2 none) (by cases names <;> simp [Bundle.ownAtomsX, Bundle.chainSAtomsX, Bundle.passSAtoms]))
    (f := g) hg (a := a) (msg := msg) (rest := .ref a :: rest) hstack hd6
  cases Option.some.inj (hnC.symm.trans hP1)
  obtain ⟨vm₂, X₂, st2⟩ := (X.noted hW₁).ctorMessageOffV hexec (g := { g with stack := .ref a :: rest }) hg hsize T L Z LZ M LM (P1 :: Ps)
    (fun P hP => (List.mem_cons.mp hP).elim (fun e => by rw [e]; exact L1) (hL P)) ⟨hl1, hl2⟩ (u0 := u0) (sen := sen) (self := a) hmsg (cell := freshCell P1.m.cls kX) (cellS := cS)
    hcell (fun _ => by simp) (by simp) rfl rfl hsel0 hselF hcS hneS hknown (by rw [hkeep _ (hout' _)]; exact hu0) (by rw [hkeep _ (hout' _)]; exact hsen)
    (Takes.of_laid hk hord tyC (by rw [Y.causeType]; rfl)) (Takes.of_laid hk hord tyS (by rw [Y.stackType]; exact fits_refV_array _ u0)) (Takes.of_laid hk hord tyP (by rw [Y.suppType]; exact fits_refV_object _ sen))
    (Takes.of_laid hk hord tyM (by rw [Y.msgType]; exact fits_refV_object _ ⟨msg, hmsg⟩)) Y.objLocals hskip htr [] hd6
    (by simp only [List.length_cons, hlen]; omega) (by simp only [List.length_cons, hlen]; exact hRl)
  obtain ⟨hwalk, hrun, hended, hWU, hsame⟩ := X₂.athrowLeaves hexec (g := { g with stack := .ref a :: rest, pc := g.pc + 3 }) hg hlocked hentered hout (a := a) (rest := rest) rfl hd9
  have hlt : a < ((W.setVm vm₁).setVm vm₂).heap.size := (Array.getElem?_eq_some_iff.mp hcell).1
  have hU := heapAt_setCell_self (s := (W.setVm vm₁).setVm vm₂) (plainBareV T.toThrowableT (freshCell P1.m.cls kX) a u0 sen msg) hlt
  refine ⟨_, st1 _ (fun acts => ?_), hrun, hended, hWU, hsame.weaken (fun y hy hlt' => ?_) (Nat.le_refl _) (Nat.le_refl _), _, hU, rfl, rfl⟩
  · rw [doInvoke_state]
    exact st2 _ hwalk
  · rcases List.mem_append.mp hy with h1 | h1
    · exact h1
    · exfalso
      have hb : y.base = a := by
        simp only [List.mem_cons, List.not_mem_nil, or_false] at h1
        rcases h1 with rfl | rfl | rfl | rfl | rfl <;> rfl
      rw [hb] at hlt'
      exact Nat.not_lt.mpr hnew hlt'
end NSE
