/-! from the law's entry to the walk over the model state -/
def S0 : MS := (fun _ => (0, 0), fun _ _ => 0, fun _ _ => 0, fun _ _ => 0, fun _ _ => 0)
theorem hr_0 (G : GP) (H : Heap) : HR G S0 H := ⟨[], fun a => by simp [kT, S0], fun k q h => by simp [va_pl] at h, ⟨fun i j p q h => by simp [va_pl] at h, fun k q h => by simp [va_pl] at h⟩⟩
theorem st_arr {args : Array Value} {s : State} {ty : FieldType} (hp : ∀ C, ty ≠ .object C) (h : (Cond.arrayClass ty).before args s = true) : ∃ c : ClassId, ArrOfT s c ty ∧ va_RA s c ty := by
  obtain ⟨c, k, comp, h1, h2, h3⟩ := Cond.arrayClass_spec h
  refine ⟨c, fun n z => ⟨fun k h => (by cases h), k, h2, comp, h3⟩, ?_⟩
  cases ty with
  | object C => exact absurd rfl (hp C)
  | _ => exact h1
theorem st_ao {s : State} {C : String} (h : va_AO C s) : ∃ c : ClassId, ArrOfT s c (.object C) ∧ va_RA s c (.object C) := by
  obtain ⟨comp, c, k, h1, -, h2, h3, h4⟩ := Cond.arrayOver_spec h
  exact ⟨c, fun n z => ⟨fun k h => (by cases h), k, h2, comp, h3⟩, k, comp, h2, h3, h1, h4⟩
theorem st_aoa {s : State} {ty : FieldType} (h : va_AOA ty s) : ∃ c : ClassId, ArrOfT s c (.array ty) ∧ va_RA s c (.array ty) := by
  obtain ⟨comp, c, k, h1, h2, h3, h4⟩ := Cond.arrayOver_specA h
  exact ⟨c, fun n z => ⟨fun k h => (by cases h), k, h2, comp, h3⟩, h4⟩
theorem st_str {args : Array Value} {s : State} {own tx : String} {k : Nat} (h1 : (Cond.stringRef own k tx).before args s = true) (h2 : (Cond.exactly (.string own k) "java/lang/String").before args s = true) : ∃ a, vk_R own k tx a s := by
  obtain ⟨a, c, cA, kA, q1, -⟩ := Cond.exactly_spec (args := args) (first := s) (o := none) (s := s) (idx := []) (t := .string own k) (cls := "java/lang/String") h2
  exact ⟨a, vk_R.of h1 q1⟩
theorem st_strs : ∀ q ∈ strs, Cond.stringRef q.1 q.2.1 q.2.2 ∈ tables_1 ∧ Cond.exactly (.string q.1 q.2.1) "java/lang/String" ∈ flatC (Jvm.Cond.and given_1 narrow_1) := by decide +kernel
theorem st_nest : ∀ q ∈ nest, Cond.methodLinkNest q.1 q.2.1 q.2.2.1 q.2.2.2 ∈ tables_1 := by decide +kernel
theorem st_nc : ∀ a ∈ excs, ∀ b ∈ excs, a ≠ b → Cond.not (.castable a b) ∈ flatC (Jvm.Cond.and given_1 narrow_1) := by decide +kernel
theorem st_odd : ∀ w ∈ odd, w ∈ tables_1 := by decide +kernel
theorem st_ars : (∀ ty ∈ ([.char, .int, .boolean, .long, .double] : List FieldType), Cond.arrayClass ty ∈ tables_1) ∧ (∀ C ∈ [RX0, RX2, RX4], Cond.arrayOver (.object C) ∈ tables_1) ∧ Cond.arrayOver (.array .int) ∈ tables_1 := by decide +kernel
theorem st_inst : Cond.instantiable RX0 4 ∈ tables_1 ∧ Cond.instantiable RX1 3 ∈ tables_1 ∧ Cond.instantiable RX2 6 ∈ tables_1 ∧ Cond.instantiable RX3 6 ∈ tables_1 ∧ Cond.instantiable RX4 12 ∈ tables_1 ∧ Cond.instantiable RX5 12 ∈ tables_1 ∧ Cond.instantiable RX6 31 ∈ tables_1 := by decide +kernel
theorem st_stat : Cond.laysStatic Bundle.tN "UNASSIGNED_STACK" Bundle.steD ∈ tables_1 ∧ Cond.laysStatic Bundle.tN "SUPPRESSED_SENTINEL" Bundle.listD ∈ tables_1 ∧ Cond.initialized Bundle.tN ∈ tables_1 ∧ Cond.isRef (.static Bundle.tN "UNASSIGNED_STACK" Bundle.steD) ∈ flatC (Jvm.Cond.and given_1 narrow_1) ∧ Cond.isRef (.static Bundle.tN "SUPPRESSED_SENTINEL" Bundle.listD) ∈ flatC (Jvm.Cond.and given_1 narrow_1) := by decide +kernel
set_option maxHeartbeats 4000000 in
set_option maxRecDepth 100000 in
theorem st_world {args : Array Value} {s : State} (htt : ∀ w ∈ tables_1, w.before args s = true) (hgv : (Jvm.Cond.and given_1 narrow_1).before args s = true) : ∃ (D : va_G) (cy : Nat → ClassId), WI (D, cy, s.heap.size) s := by
  have hfl := flat_of_before _ hgv
  have hall : ∀ w ∈ lw_all, w ∈ lw_tbl := fun w hw => (List.mem_filter.mp hw).1
  have hts : ∀ w ∈ tables_1, w.before args s = true := htt
  obtain ⟨i0, i1, i2, i3, i4, i5, i6⟩ := st_inst
  have hin : ∀ {C : String} {T : u_T} {N : Nat}, (∀ w ∈ u_ws C T N, w ∈ tables_1) → Cond.instantiable C N ∈ tables_1 → ∃ (cC : ClassId) (iS : Nat → Nat), u_Kn s C T N cC iS := fun h1 h2 => u_known hts h1 (hts _ h2)
  obtain ⟨c0, s0, h0⟩ := hin (C := RX0) (T := TX0) (by decide +kernel) i0
  obtain ⟨c1, s1, h1⟩ := hin (C := RX1) (T := TX1) (by decide +kernel) i1
  obtain ⟨c2, s2, h2⟩ := hin (C := RX2) (T := TX2) (by decide +kernel) i2
  obtain ⟨c3, s3, h3⟩ := hin (C := RX3) (T := TX3) (by decide +kernel) i3
  obtain ⟨c4, s4, h4⟩ := hin (C := RX4) (T := TX4) (by decide +kernel) i4
  obtain ⟨c5, s5, h5⟩ := hin (C := RX5) (T := TX5) (by decide +kernel) i5
  obtain ⟨c6, s6, h6⟩ := hin (C := RX6) (T := TX6) (by decide +kernel) i6
  obtain ⟨a1, a2, a3⟩ := st_ars
  have hao : ∀ C ∈ [RX0, RX2, RX4], va_AO C s := fun C hC => va_AO.of (hts _ (a2 C hC))
  have haoa : va_AOA .int s := hts _ a3
  obtain ⟨y8, k8⟩ := st_arr (fun _ h => by cases h) (hts _ (a1 .char (by decide)))
  obtain ⟨y9, k9⟩ := st_arr (fun _ h => by cases h) (hts _ (a1 .int (by decide)))
  obtain ⟨y10, k10⟩ := st_arr (fun _ h => by cases h) (hts _ (a1 .boolean (by decide)))
  obtain ⟨y11, k11⟩ := st_ao (hao RX0 (by decide))
  obtain ⟨y12, k12⟩ := st_ao (hao RX2 (by decide))
  obtain ⟨y13, k13⟩ := st_ao (hao RX4 (by decide))
  obtain ⟨y14, k14⟩ := st_aoa haoa
  obtain ⟨y15, k15⟩ := st_arr (fun _ h => by cases h) (hts _ (a1 .long (by decide)))
  obtain ⟨y16, k16⟩ := st_arr (fun _ h => by cases h) (hts _ (a1 .double (by decide)))
  obtain ⟨t1, t2, t3, t4, t5⟩ := st_stat
  have hA : ∀ a : Nat, a < s.heap.size → ¬ s.heap.size ≤ a := fun a h => Nat.not_le.mpr h
  refine ⟨(fun k => if k = 0 then c0 else if k = 1 then c1 else if k = 2 then c2 else if k = 3 then c3 else if k = 4 then c4 else if k = 5 then c5 else c6, fun k => if k = 0 then s0 else if k = 1 then s1 else if k = 2 then s2 else if k = 3 then s3 else if k = 4 then s4 else if k = 5 then s5 else s6), fun k => if k = 8 then y8 else if k = 9 then y9 else if k = 10 then y10 else if k = 11 then y11 else if k = 12 then y12 else if k = 13 then y13 else if k = 14 then y14 else if k = 15 then y15 else y16, ⟨?_, ?_⟩, vx_Zqof (hts _ t1) (hts _ t3) (hfl _ t4) hA, vx_Zqof (hts _ t2) (hts _ t3) (hfl _ t5) hA, fun q hq => st_str (hts _ (st_strs q hq).1) (hfl _ (st_strs q hq).2), fun q hq => va_Nw.of rfl (hts _ (st_nest q hq)), hao, haoa, fun a ha b hb hab => va_Nc.of (hfl _ (st_nc a ha b hb hab)), fun w hw => va_Nw.of (odd_ok w hw).2 (hts _ (st_odd w hw))⟩
  · intro k q hq
    match k, hq with
    | 0, hq => cases hq; exact h0
    | 1, hq => cases hq; exact h1
    | 2, hq => cases hq; exact h2
    | 3, hq => cases hq; exact h3
    | 4, hq => cases hq; exact h4
    | 5, hq => cases hq; exact h5
    | 6, hq => cases hq; exact h6
    | k + 7, hq => simp [cls] at hq
  · intro k q hq
    match k, hq with
    | 0, hq => cases hq; exact k8
    | 1, hq => cases hq; exact k9
    | 2, hq => cases hq; exact k10
    | 3, hq => cases hq; exact k11
    | 4, hq => cases hq; exact k12
    | 5, hq => cases hq; exact k13
    | 6, hq => cases hq; exact k14
    | 7, hq => cases hq; exact k15
    | 8, hq => cases hq; exact k16
    | k + 9, hq => simp [tysOf] at hq
set_option maxHeartbeats 4000000 in
set_option maxRecDepth 100000 in
/-- THE LAW, from its entry, out of what the model state's law says -/
theorem start_of {p : Program} {e : Env} {s : State} {m : MethodId} {below : List Frame} {meth : Method} {c : Code} (l : Launch) (hflags : l.flags = flags0) {b L : Nat} {xs : Nat → Int32} (C0 : lw_At p s m meth c b L xs) (hw : w_L_law xs L S0) : W p l e room_1 s m #[Value.ref b] below meth c s.heap [] 0 0 (lw_Z below #[Value.ref b] s) (entryFrame m ([Value.ref b] : List Value).toArray 9) := by
  obtain ⟨hx, hb, hr, hml, hown, hts, hX, hbl, hlocks, hgv⟩ := C0
  obtain ⟨D, cy, hWI⟩ := st_world (fun w hw => hts w (List.mem_append_right _ hw)) hgv
  have hfl : l.stackTraces = false := by unfold Launch.stackTraces; rw [hflags]; decide +kernel
  have hl := lv_entry ([.ref b]) (n := 9) (Nat.le_of_ble_eq_true rfl)
  rw [lg_entry_eq]
  have hl : lv_has (lg_sl [Value.ref b] ++ List.replicate (9 - (lg_sl [Value.ref b]).length) Slot.unset).toArray 9 [(0, .ref b)] := hl
  exact law_gd (G := (D, cy, s.heap.size)) hfl ⟨hx, hb, hml, hown, fun w hw => hts w (List.mem_filter.mp hw).1, hWI, Nat.lt_of_le_of_lt (Nat.zero_le b) hbl, Nat.le_refl _⟩ hX hbl (Nat.not_le.mpr hbl) hr hlocks rfl S0 hw s.heap [] _ (hr_0 _ _) va_S.rf hl
