abbrev rm_X6_valueAt : Room := { frames := 2, cells := 0, slots := 0, locals := 42 }
def b_X6_valueAt_46 (post : Int32 → MS → Prop) (S : MS) (l0 : Nat) (l1 : Int32) (l2 : Int32) (s0 : Int32) : Prop := post s0 S
def w_X6_valueAt (S : MS) (a0 : Nat) (a1 : Int32) (a2 : Int32) (post : Int32 → MS → Prop) : Prop := kT S a0 = 7 ∧ ∀ S2 : MS, S2 = pI S a0 0 0 → w_X6_isKey S2 a1 (fun r5 S4 => ((¬ r5 = 0 → kT S4 a0 = 7 ∧ w_X6_isIn S4 a2 0 (sI S4 a0 14) (fun r8 S7 => ((¬ r8 = 0 → kT S7 a0 = 7 ∧ w_X6_stored S7 a0 a2 a1 (fun r11 S10 => b_X6_valueAt_46 post S10 a0 a1 a2 r11)) ∧ (r8 = 0 → kT S7 a0 = 7 ∧ w_X6_fail S7 a0 2 (fun r14 S13 => b_X6_valueAt_46 post S13 a0 a1 a2 r14))))) ∧ (r5 = 0 → kT S4 a0 = 7 ∧ w_X6_fail S4 a0 1 (fun r18 S17 => b_X6_valueAt_46 post S17 a0 a1 a2 r18))))
set_option maxHeartbeats 4000000 in
set_option maxRecDepth 100000 in
theorem ct_X6_valueAt (l : Launch) (G : GP) (S : MS) (a0 : Nat) (a1 : Int32) (a2 : Int32) (post : Int32 → MS → Prop) (h : w_X6_valueAt S a0 a1 a2 post) : MetM l yX6_valueAt cX6_valueAt 3 (some .int) rm_X6_valueAt [rf a0, .int a1, .int a2] G S (pI_ post) := by
  refine met_of (by decide) (cat1_r (cat1_i (cat1_i cat1_n))) (Nat.le_of_ble_eq_true rfl) ?_
  intro p e s m args below meth c X hr hlk hin
  revert h
  have g46 : ∀ (S : MS) (l0 : Nat) (l1 : Int32) (l2 : Int32) (s0 : Int32), b_X6_valueAt_46 post S l0 l1 l2 s0 → Gd p l e rm_X6_valueAt s m args below meth c 3 G (MQ below (QcM G (pI_ post)) args s rm_X6_valueAt.cells rm_X6_valueAt.slots (Ab G)) 0 0 S 46 [(0, rf l0), (1, .int l1), (2, .int l2)] [.int s0] := by
    intro S l0 l1 l2 s0 h
    exact (gd_ret_i (pc := 46) X hr hlk rfl (by decide) (by decide) dX6_valueAt_46 ⟨_, rfl, h⟩)
  intro h
  refine gd_aload_n (pc := 0) X 0 dX6_valueAt_0 rfl ?_
  refine gd_iconst (pc := 1) X (0) dX6_valueAt_1 (by decide) ?_
  obtain ⟨hk1, h⟩ := h
  refine gd_putI (pc := 2) (kf := 0) X ci6 (by decide) rfl rfl tw_983 rfl rfl dX6_valueAt_2 hk1 ?_
  refine gd_topS (fun S2 hS2 => ?_)
  have h := h S2 hS2
  have hk3 : kT S2 a0 = 7 := by rw [hS2]; exact hk1
  refine gd_iload_n (pc := 5) X 1 dX6_valueAt_5 rfl ?_
  refine gd_callS (pc := 6) (As := [.int a1]) (rest := []) X (ct_X6_isKey l G S2 a1 _ h) mw_X6_isKey tw_1117 ⟨(Nat.le_of_ble_eq_true rfl), (Nat.le_of_ble_eq_true rfl)⟩ rfl rfl (Nat.le_of_ble_eq_true rfl) dX6_valueAt_6 ⟨Nat.le_of_ble_eq_true rfl, Nat.le_of_ble_eq_true rfl⟩ (kI (fun r5 S4 h => ?_))
  refine gd_wide (k2 := 0) (j2 := 0) (Nat.le_of_ble_eq_true rfl) (Nat.le_of_ble_eq_true rfl) ?_
  refine gd_if_ne (pc := 9) X 20 dX6_valueAt_9 (by decide) (fun hc19 => ?_) (fun hc19 => ?_)
  · have h := h.1 hc19
    refine gd_iload_n (pc := 20) X 2 dX6_valueAt_20 rfl ?_
    refine gd_iconst (pc := 21) X (0) dX6_valueAt_21 (by decide) ?_
    refine gd_aload_n (pc := 22) X 0 dX6_valueAt_22 rfl ?_
    obtain ⟨hk6, h⟩ := h
    refine gd_getI (pc := 23) (kf := 14) X ci6 (by decide) rfl tw_997 dX6_valueAt_23 hk6 ?_
    refine gd_callS (pc := 26) (As := [.int a2, .int 0, .int (sI S4 a0 14)]) (rest := []) X (ct_X6_isIn l G S4 a2 0 (sI S4 a0 14) _ h) mw_X6_isIn tw_1082 ⟨(Nat.le_of_ble_eq_true rfl), (Nat.le_of_ble_eq_true rfl)⟩ rfl rfl (Nat.le_of_ble_eq_true rfl) dX6_valueAt_26 ⟨Nat.le_of_ble_eq_true rfl, Nat.le_of_ble_eq_true rfl⟩ (kI (fun r8 S7 h => ?_))
    refine gd_wide (k2 := 0) (j2 := 0) (Nat.le_of_ble_eq_true rfl) (Nat.le_of_ble_eq_true rfl) ?_
    refine gd_if_ne (pc := 29) X 40 dX6_valueAt_29 (by decide) (fun hc15 => ?_) (fun hc15 => ?_)
    · have h := h.1 hc15
      refine gd_aload_n (pc := 40) X 0 dX6_valueAt_40 rfl ?_
      refine gd_iload_n (pc := 41) X 2 dX6_valueAt_41 rfl ?_
      refine gd_iload_n (pc := 42) X 1 dX6_valueAt_42 rfl ?_
      obtain ⟨hk9, h⟩ := h
      refine gd_callV (pc := 43) (As := [.int a2, .int a1]) (rest := []) X (ct_X6_stored l G S7 a0 a2 a1 _ h) mw_X6_stored tw_1132 ci6 rfl hk9 ⟨(Nat.le_of_ble_eq_true rfl), (Nat.le_of_ble_eq_true rfl)⟩ rfl rfl (Nat.le_of_ble_eq_true rfl) dX6_valueAt_43 ⟨Nat.le_of_ble_eq_true rfl, Nat.le_of_ble_eq_true rfl⟩ (kI (fun r11 S10 h => ?_))
      refine gd_wide (k2 := 0) (j2 := 0) (Nat.le_of_ble_eq_true rfl) (Nat.le_of_ble_eq_true rfl) ?_
      exact g46 _ _ _ _ _ h
    · have h := h.2 hc15
      refine gd_aload_n (pc := 32) X 0 dX6_valueAt_32 rfl ?_
      refine gd_iconst (pc := 33) X (2) dX6_valueAt_33 (by decide) ?_
      obtain ⟨hk12, h⟩ := h
      refine gd_callV (pc := 34) (As := [.int 2]) (rest := []) X (ct_X6_fail l G S7 a0 2 _ h) mw_X6_fail tw_1101 ci6 rfl hk12 ⟨(Nat.le_of_ble_eq_true rfl), (Nat.le_of_ble_eq_true rfl)⟩ rfl rfl (Nat.le_of_ble_eq_true rfl) dX6_valueAt_34 ⟨Nat.le_of_ble_eq_true rfl, Nat.le_of_ble_eq_true rfl⟩ (kI (fun r14 S13 h => ?_))
      refine gd_wide (k2 := 0) (j2 := 0) (Nat.le_of_ble_eq_true rfl) (Nat.le_of_ble_eq_true rfl) ?_
      refine gd_goto (pc := 37) X 46 dX6_valueAt_37 (by decide) ?_
      exact g46 _ _ _ _ _ h
  · have h := h.2 hc19
    refine gd_aload_n (pc := 12) X 0 dX6_valueAt_12 rfl ?_
    refine gd_iconst (pc := 13) X (1) dX6_valueAt_13 (by decide) ?_
    obtain ⟨hk16, h⟩ := h
    refine gd_callV (pc := 14) (As := [.int 1]) (rest := []) X (ct_X6_fail l G S4 a0 1 _ h) mw_X6_fail tw_1101 ci6 rfl hk16 ⟨(Nat.le_of_ble_eq_true rfl), (Nat.le_of_ble_eq_true rfl)⟩ rfl rfl (Nat.le_of_ble_eq_true rfl) dX6_valueAt_14 ⟨Nat.le_of_ble_eq_true rfl, Nat.le_of_ble_eq_true rfl⟩ (kI (fun r18 S17 h => ?_))
    refine gd_wide (k2 := 0) (j2 := 0) (Nat.le_of_ble_eq_true rfl) (Nat.le_of_ble_eq_true rfl) ?_
    refine gd_goto (pc := 17) X 46 dX6_valueAt_17 (by decide) ?_
    exact g46 _ _ _ _ _ h
abbrev rm_X6_lastWriter : Room := { frames := 1, cells := 0, slots := 0, locals := 22 }
def b_X6_lastWriter_27 (KH5 : MS → Nat → Int32 → Int32 → Int32 → Int32 → Prop) (post : Int32 → MS → Prop) (S : MS) (l0 : Nat) (l1 : Int32) (l2 : Int32) (l3 : Int32) (l4 : Int32) (s0 : Int32) : Prop := ∀ v1 : Int32, v1 = l4 + 1 → KH5 S l0 l1 l2 s0 v1
def b_X6_lastWriter_5 (post : Int32 → MS → Prop) : Nat → MS → Nat → Int32 → Int32 → Int32 → Int32 → Prop
  | 0 => fun _ _ _ _ _ _ => False
  | f + 1 => fun S l0 l1 l2 l3 l4 => ((l2 ≤ l4 → post l3 S) ∧ (¬ l2 ≤ l4 → kT S l0 = 7 ∧ w_X6_hasWritten S l0 l4 l1 (fun r3 S2 => ((r3 = 0 → b_X6_lastWriter_27 (b_X6_lastWriter_5 post f) post S2 l0 l1 l2 l3 l4 l3) ∧ (¬ r3 = 0 → b_X6_lastWriter_27 (b_X6_lastWriter_5 post f) post S2 l0 l1 l2 l3 l4 l4)))))
def w_X6_lastWriter (S : MS) (a0 : Nat) (a1 : Int32) (a2 : Int32) (post : Int32 → MS → Prop) : Prop := ∃ f5, b_X6_lastWriter_5 post f5 S a0 a1 a2 0 1
set_option maxHeartbeats 4000000 in
set_option maxRecDepth 100000 in
theorem ct_X6_lastWriter (l : Launch) (G : GP) (S : MS) (a0 : Nat) (a1 : Int32) (a2 : Int32) (post : Int32 → MS → Prop) (h : w_X6_lastWriter S a0 a1 a2 post) : MetM l yX6_lastWriter cX6_lastWriter 5 (some .int) rm_X6_lastWriter [rf a0, .int a1, .int a2] G S (pI_ post) := by
  refine met_of (by decide) (cat1_r (cat1_i (cat1_i cat1_n))) (Nat.le_of_ble_eq_true rfl) ?_
  intro p e s m args below meth c X hr hlk hin
  revert h
  have g27 : ∀ (KH5 : MS → Nat → Int32 → Int32 → Int32 → Int32 → Prop) (hKH5 : ∀ (S : MS) (l0 : Nat) (l1 : Int32) (l2 : Int32) (l3 : Int32) (l4 : Int32), KH5 S l0 l1 l2 l3 l4 → Gd p l e rm_X6_lastWriter s m args below meth c 5 G (MQ below (QcM G (pI_ post)) args s rm_X6_lastWriter.cells rm_X6_lastWriter.slots (Ab G)) 0 0 S 5 [(0, rf l0), (1, .int l1), (2, .int l2), (3, .int l3), (4, .int l4)] []) (S : MS) (l0 : Nat) (l1 : Int32) (l2 : Int32) (l3 : Int32) (l4 : Int32) (s0 : Int32), b_X6_lastWriter_27 KH5 post S l0 l1 l2 l3 l4 s0 → Gd p l e rm_X6_lastWriter s m args below meth c 5 G (MQ below (QcM G (pI_ post)) args s rm_X6_lastWriter.cells rm_X6_lastWriter.slots (Ab G)) 0 0 S 27 [(0, rf l0), (1, .int l1), (2, .int l2), (3, .int l3), (4, .int l4)] [.int s0] := by
    intro KH5 hKH5 S l0 l1 l2 l3 l4 s0 h
    refine gd_istore_n (pc := 27) X dX6_lastWriter_27 (by decide) (E2 := [(3, .int s0), (0, rf l0), (1, .int l1), (2, .int l2), (4, .int l4)]) rfl ?_
    obtain ⟨v1, hv1⟩ : ∃ z : Int32, z = l4 + 1 := ⟨_, rfl⟩
    have h := h v1 hv1
    refine gd_iinc (pc := 28) (v := v1) X 4 dX6_lastWriter_28 rfl (by rw [hv1]; rfl) (by decide) (E2 := [(4, .int v1), (3, .int s0), (0, rf l0), (1, .int l1), (2, .int l2)]) rfl ?_
    refine gd_goto (pc := 31) X 5 dX6_lastWriter_31 (by decide) ?_
    refine gd_sub [2, 3, 4, 1, 0] rfl ?_
    exact hKH5 _ _ _ _ _ _ h
  have g5 : ∀ (f : Nat) (S : MS) (l0 : Nat) (l1 : Int32) (l2 : Int32) (l3 : Int32) (l4 : Int32), b_X6_lastWriter_5 post f S l0 l1 l2 l3 l4 → Gd p l e rm_X6_lastWriter s m args below meth c 5 G (MQ below (QcM G (pI_ post)) args s rm_X6_lastWriter.cells rm_X6_lastWriter.slots (Ab G)) 0 0 S 5 [(0, rf l0), (1, .int l1), (2, .int l2), (3, .int l3), (4, .int l4)] [] := by
    intro f
    induction f with
    | zero => intro S l0 l1 l2 l3 l4 h; exact h.elim
    | succ f ih =>
      intro S l0 l1 l2 l3 l4 h
      refine gd_iload (pc := 5) X 4 dX6_lastWriter_5 rfl ?_
      refine gd_iload_n (pc := 7) X 2 dX6_lastWriter_7 rfl ?_
      refine gd_icmp_ge (pc := 8) X 34 dX6_lastWriter_8 (by decide) (fun hc5 => ?_) (fun hc5 => ?_)
      · have h := h.1 hc5
        refine gd_iload_n (pc := 34) X 3 dX6_lastWriter_34 rfl ?_
        exact (gd_ret_i (pc := 35) X hr hlk rfl (by decide) (by decide) dX6_lastWriter_35 ⟨_, rfl, h⟩)
      · have h := h.2 hc5
        refine gd_aload_n (pc := 11) X 0 dX6_lastWriter_11 rfl ?_
        refine gd_iload (pc := 12) X 4 dX6_lastWriter_12 rfl ?_
        refine gd_iload_n (pc := 14) X 1 dX6_lastWriter_14 rfl ?_
        obtain ⟨hk1, h⟩ := h
        refine gd_callV (pc := 15) (As := [.int l4, .int l1]) (rest := []) X (ct_X6_hasWritten l G S l0 l4 l1 _ h) mw_X6_hasWritten tw_1191 ci6 rfl hk1 ⟨(Nat.le_of_ble_eq_true rfl), (Nat.le_of_ble_eq_true rfl)⟩ rfl rfl (Nat.le_of_ble_eq_true rfl) dX6_lastWriter_15 ⟨Nat.le_of_ble_eq_true rfl, Nat.le_of_ble_eq_true rfl⟩ (kI (fun r3 S2 h => ?_))
        refine gd_wide (k2 := 0) (j2 := 0) (Nat.le_of_ble_eq_true rfl) (Nat.le_of_ble_eq_true rfl) ?_
        refine gd_if_eq (pc := 18) X 26 dX6_lastWriter_18 (by decide) (fun hc4 => ?_) (fun hc4 => ?_)
        · have h := h.1 hc4
          refine gd_iload_n (pc := 26) X 3 dX6_lastWriter_26 rfl ?_
          exact g27 _ ih _ _ _ _ _ _ _ h
        · have h := h.2 hc4
          refine gd_iload (pc := 21) X 4 dX6_lastWriter_21 rfl ?_
          refine gd_goto (pc := 23) X 27 dX6_lastWriter_23 (by decide) ?_
          exact g27 _ ih _ _ _ _ _ _ _ h
  intro h
  refine gd_iconst (pc := 0) X (0) dX6_lastWriter_0 (by decide) ?_
  refine gd_istore_n (pc := 1) X dX6_lastWriter_1 (by decide) (E2 := [(3, .int 0), (0, rf a0), (1, .int a1), (2, .int a2)]) rfl ?_
  refine gd_iconst (pc := 2) X (1) dX6_lastWriter_2 (by decide) ?_
  refine gd_istore (pc := 3) X dX6_lastWriter_3 (by decide) (E2 := [(4, .int 1), (3, .int 0), (0, rf a0), (1, .int a1), (2, .int a2)]) rfl ?_
  refine gd_sub [2, 3, 4, 1, 0] rfl ?_
  obtain ⟨f5, h⟩ := h
  exact g5 f5 _ _ _ _ _ _ h
abbrev rm_X6_writerOf : Room := { frames := 2, cells := 0, slots := 0, locals := 46 }
def b_X6_writerOf_31 (post : Int32 → MS → Prop) (S : MS) (l0 : Nat) (l1 : Int32) (s0 : Int32) : Prop := post s0 S
def w_X6_writerOf (S : MS) (a0 : Nat) (a1 : Int32) (post : Int32 → MS → Prop) : Prop := kT S a0 = 7 ∧ ∀ S2 : MS, S2 = pI S a0 0 0 → w_X6_isKey S2 a1 (fun r5 S4 => ((r5 = 0 → kT S4 a0 = 7 ∧ w_X6_fail S4 a0 1 (fun r8 S7 => b_X6_writerOf_31 post S7 a0 a1 r8)) ∧ (¬ r5 = 0 → kT S4 a0 = 7 ∧ w_X6_lastWriter S4 a0 a1 ((sI S4 a0 14) + 1) (fun r11 S10 => b_X6_writerOf_31 post S10 a0 a1 r11))))
set_option maxHeartbeats 4000000 in
set_option maxRecDepth 100000 in
theorem ct_X6_writerOf (l : Launch) (G : GP) (S : MS) (a0 : Nat) (a1 : Int32) (post : Int32 → MS → Prop) (h : w_X6_writerOf S a0 a1 post) : MetM l yX6_writerOf cX6_writerOf 2 (some .int) rm_X6_writerOf [rf a0, .int a1] G S (pI_ post) := by
  refine met_of (by decide) (cat1_r (cat1_i cat1_n)) (Nat.le_of_ble_eq_true rfl) ?_
  intro p e s m args below meth c X hr hlk hin
  revert h
  have g31 : ∀ (S : MS) (l0 : Nat) (l1 : Int32) (s0 : Int32), b_X6_writerOf_31 post S l0 l1 s0 → Gd p l e rm_X6_writerOf s m args below meth c 2 G (MQ below (QcM G (pI_ post)) args s rm_X6_writerOf.cells rm_X6_writerOf.slots (Ab G)) 0 0 S 31 [(0, rf l0), (1, .int l1)] [.int s0] := by
    intro S l0 l1 s0 h
    exact (gd_ret_i (pc := 31) X hr hlk rfl (by decide) (by decide) dX6_writerOf_31 ⟨_, rfl, h⟩)
  intro h
  refine gd_aload_n (pc := 0) X 0 dX6_writerOf_0 rfl ?_
  refine gd_iconst (pc := 1) X (0) dX6_writerOf_1 (by decide) ?_
  obtain ⟨hk1, h⟩ := h
  refine gd_putI (pc := 2) (kf := 0) X ci6 (by decide) rfl rfl tw_983 rfl rfl dX6_writerOf_2 hk1 ?_
  refine gd_topS (fun S2 hS2 => ?_)
  have h := h S2 hS2
  have hk3 : kT S2 a0 = 7 := by rw [hS2]; exact hk1
  refine gd_iload_n (pc := 5) X 1 dX6_writerOf_5 rfl ?_
  refine gd_callS (pc := 6) (As := [.int a1]) (rest := []) X (ct_X6_isKey l G S2 a1 _ h) mw_X6_isKey tw_1117 ⟨(Nat.le_of_ble_eq_true rfl), (Nat.le_of_ble_eq_true rfl)⟩ rfl rfl (Nat.le_of_ble_eq_true rfl) dX6_writerOf_6 ⟨Nat.le_of_ble_eq_true rfl, Nat.le_of_ble_eq_true rfl⟩ (kI (fun r5 S4 h => ?_))
  refine gd_wide (k2 := 0) (j2 := 0) (Nat.le_of_ble_eq_true rfl) (Nat.le_of_ble_eq_true rfl) ?_
  refine gd_if_eq (pc := 9) X 26 dX6_writerOf_9 (by decide) (fun hc12 => ?_) (fun hc12 => ?_)
  · have h := h.1 hc12
    refine gd_aload_n (pc := 26) X 0 dX6_writerOf_26 rfl ?_
    refine gd_iconst (pc := 27) X (1) dX6_writerOf_27 (by decide) ?_
    obtain ⟨hk6, h⟩ := h
    refine gd_callV (pc := 28) (As := [.int 1]) (rest := []) X (ct_X6_fail l G S4 a0 1 _ h) mw_X6_fail tw_1101 ci6 rfl hk6 ⟨(Nat.le_of_ble_eq_true rfl), (Nat.le_of_ble_eq_true rfl)⟩ rfl rfl (Nat.le_of_ble_eq_true rfl) dX6_writerOf_28 ⟨Nat.le_of_ble_eq_true rfl, Nat.le_of_ble_eq_true rfl⟩ (kI (fun r8 S7 h => ?_))
    refine gd_wide (k2 := 0) (j2 := 0) (Nat.le_of_ble_eq_true rfl) (Nat.le_of_ble_eq_true rfl) ?_
    exact g31 _ _ _ _ h
  · have h := h.2 hc12
    refine gd_aload_n (pc := 12) X 0 dX6_writerOf_12 rfl ?_
    refine gd_iload_n (pc := 13) X 1 dX6_writerOf_13 rfl ?_
    refine gd_aload_n (pc := 14) X 0 dX6_writerOf_14 rfl ?_
    obtain ⟨hk9, h⟩ := h
    refine gd_getI (pc := 15) (kf := 14) X ci6 (by decide) rfl tw_997 dX6_writerOf_15 hk9 ?_
    refine gd_iconst (pc := 18) X (1) dX6_writerOf_18 (by decide) ?_
    refine gd_iadd (pc := 19) X dX6_writerOf_19 ?_
    refine gd_callV (pc := 20) (As := [.int a1, .int ((sI S4 a0 14) + 1)]) (rest := []) X (ct_X6_lastWriter l G S4 a0 a1 ((sI S4 a0 14) + 1) _ h) mw_X6_lastWriter tw_1307 ci6 rfl hk9 ⟨(Nat.le_of_ble_eq_true rfl), (Nat.le_of_ble_eq_true rfl)⟩ rfl rfl (Nat.le_of_ble_eq_true rfl) dX6_writerOf_20 ⟨Nat.le_of_ble_eq_true rfl, Nat.le_of_ble_eq_true rfl⟩ (kI (fun r11 S10 h => ?_))
    refine gd_wide (k2 := 0) (j2 := 0) (Nat.le_of_ble_eq_true rfl) (Nat.le_of_ble_eq_true rfl) ?_
    refine gd_goto (pc := 23) X 31 dX6_writerOf_23 (by decide) ?_
    exact g31 _ _ _ _ h
abbrev rm_X6_isCommit : Room := { frames := 1, cells := 0, slots := 0, locals := 22 }
def w_X6_isCommit (S : MS) (a0 : Nat) (a1 : Int32) (post : Int32 → MS → Prop) : Prop := kT S a0 = 7 ∧ w_X6_isIn S a1 1 (sI S a0 14) (fun r3 S2 => narrow .boolean (.int r3) = .int r3 ∧ post r3 S2)
set_option maxHeartbeats 4000000 in
set_option maxRecDepth 100000 in
theorem ct_X6_isCommit (l : Launch) (G : GP) (S : MS) (a0 : Nat) (a1 : Int32) (post : Int32 → MS → Prop) (h : w_X6_isCommit S a0 a1 post) : MetM l yX6_isCommit cX6_isCommit 2 (some .boolean) rm_X6_isCommit [rf a0, .int a1] G S (pI_ post) := by
  refine met_of (by decide) (cat1_r (cat1_i cat1_n)) (Nat.le_of_ble_eq_true rfl) ?_
  intro p e s m args below meth c X hr hlk hin
  refine gd_iload_n (pc := 0) X 1 dX6_isCommit_0 rfl ?_
  refine gd_iconst (pc := 1) X (1) dX6_isCommit_1 (by decide) ?_
  refine gd_aload_n (pc := 2) X 0 dX6_isCommit_2 rfl ?_
  obtain ⟨hk1, h⟩ := h
  refine gd_getI (pc := 3) (kf := 14) X ci6 (by decide) rfl tw_997 dX6_isCommit_3 hk1 ?_
  refine gd_callS (pc := 6) (As := [.int a1, .int 1, .int (sI S a0 14)]) (rest := []) X (ct_X6_isIn l G S a1 1 (sI S a0 14) _ h) mw_X6_isIn tw_1082 ⟨(Nat.le_of_ble_eq_true rfl), (Nat.le_of_ble_eq_true rfl)⟩ rfl rfl (Nat.le_of_ble_eq_true rfl) dX6_isCommit_6 ⟨Nat.le_of_ble_eq_true rfl, Nat.le_of_ble_eq_true rfl⟩ (kI (fun r3 S2 h => ?_))
  refine gd_wide (k2 := 0) (j2 := 0) (Nat.le_of_ble_eq_true rfl) (Nat.le_of_ble_eq_true rfl) ?_
  obtain ⟨hnz, h⟩ := h
  exact (gd_ret_i (pc := 9) X hr hlk hnz (by decide) (by decide) dX6_isCommit_9 ⟨_, rfl, h⟩)
abbrev rm_X6_transactionOf : Room := { frames := 2, cells := 0, slots := 0, locals := 43 }
def b_X6_transactionOf_27 (post : Int32 → MS → Prop) (S : MS) (l0 : Nat) (l1 : Int32) (s0 : Int32) : Prop := post s0 S
def w_X6_transactionOf (S : MS) (a0 : Nat) (a1 : Int32) (post : Int32 → MS → Prop) : Prop := kT S a0 = 7 ∧ ∀ S2 : MS, S2 = pI S a0 0 0 → w_X6_isCommit S2 a0 a1 (fun r5 S4 => ((r5 = 0 → kT S4 a0 = 7 ∧ w_X6_fail S4 a0 1 (fun r8 S7 => b_X6_transactionOf_27 post S7 a0 a1 r8)) ∧ (¬ r5 = 0 → kT S4 a0 = 7 ∧ kT S4 (sR S4 a0 16) = 9 ∧ vp_in a1 (kL S4 (sR S4 a0 16)) ∧ b_X6_transactionOf_27 post S4 a0 a1 (sI S4 (sR S4 a0 16) (ix a1)))))
set_option maxHeartbeats 4000000 in
set_option maxRecDepth 100000 in
theorem ct_X6_transactionOf (l : Launch) (G : GP) (S : MS) (a0 : Nat) (a1 : Int32) (post : Int32 → MS → Prop) (h : w_X6_transactionOf S a0 a1 post) : MetM l yX6_transactionOf cX6_transactionOf 2 (some .int) rm_X6_transactionOf [rf a0, .int a1] G S (pI_ post) := by
  refine met_of (by decide) (cat1_r (cat1_i cat1_n)) (Nat.le_of_ble_eq_true rfl) ?_
  intro p e s m args below meth c X hr hlk hin
  revert h
  have g27 : ∀ (S : MS) (l0 : Nat) (l1 : Int32) (s0 : Int32), b_X6_transactionOf_27 post S l0 l1 s0 → Gd p l e rm_X6_transactionOf s m args below meth c 2 G (MQ below (QcM G (pI_ post)) args s rm_X6_transactionOf.cells rm_X6_transactionOf.slots (Ab G)) 0 0 S 27 [(0, rf l0), (1, .int l1)] [.int s0] := by
    intro S l0 l1 s0 h
    exact (gd_ret_i (pc := 27) X hr hlk rfl (by decide) (by decide) dX6_transactionOf_27 ⟨_, rfl, h⟩)
  intro h
  refine gd_aload_n (pc := 0) X 0 dX6_transactionOf_0 rfl ?_
  refine gd_iconst (pc := 1) X (0) dX6_transactionOf_1 (by decide) ?_
  obtain ⟨hk1, h⟩ := h
  refine gd_putI (pc := 2) (kf := 0) X ci6 (by decide) rfl rfl tw_983 rfl rfl dX6_transactionOf_2 hk1 ?_
  refine gd_topS (fun S2 hS2 => ?_)
  have h := h S2 hS2
  have hk3 : kT S2 a0 = 7 := by rw [hS2]; exact hk1
  refine gd_aload_n (pc := 5) X 0 dX6_transactionOf_5 rfl ?_
  refine gd_iload_n (pc := 6) X 1 dX6_transactionOf_6 rfl ?_
  refine gd_callV (pc := 7) (As := [.int a1]) (rest := []) X (ct_X6_isCommit l G S2 a0 a1 _ h) mw_X6_isCommit tw_1315 ci6 rfl hk3 ⟨(Nat.le_of_ble_eq_true rfl), (Nat.le_of_ble_eq_true rfl)⟩ rfl rfl (Nat.le_of_ble_eq_true rfl) dX6_transactionOf_7 ⟨Nat.le_of_ble_eq_true rfl, Nat.le_of_ble_eq_true rfl⟩ (kI (fun r5 S4 h => ?_))
  refine gd_wide (k2 := 0) (j2 := 0) (Nat.le_of_ble_eq_true rfl) (Nat.le_of_ble_eq_true rfl) ?_
  refine gd_if_eq (pc := 10) X 22 dX6_transactionOf_10 (by decide) (fun hc12 => ?_) (fun hc12 => ?_)
  · have h := h.1 hc12
    refine gd_aload_n (pc := 22) X 0 dX6_transactionOf_22 rfl ?_
    refine gd_iconst (pc := 23) X (1) dX6_transactionOf_23 (by decide) ?_
    obtain ⟨hk6, h⟩ := h
    refine gd_callV (pc := 24) (As := [.int 1]) (rest := []) X (ct_X6_fail l G S4 a0 1 _ h) mw_X6_fail tw_1101 ci6 rfl hk6 ⟨(Nat.le_of_ble_eq_true rfl), (Nat.le_of_ble_eq_true rfl)⟩ rfl rfl (Nat.le_of_ble_eq_true rfl) dX6_transactionOf_24 ⟨Nat.le_of_ble_eq_true rfl, Nat.le_of_ble_eq_true rfl⟩ (kI (fun r8 S7 h => ?_))
    refine gd_wide (k2 := 0) (j2 := 0) (Nat.le_of_ble_eq_true rfl) (Nat.le_of_ble_eq_true rfl) ?_
    exact g27 _ _ _ _ h
  · have h := h.2 hc12
    refine gd_aload_n (pc := 13) X 0 dX6_transactionOf_13 rfl ?_
    obtain ⟨hk9, h⟩ := h
    refine gd_getR (pc := 14) (kf := 16) X ci6 (by decide) rfl tw_999 dX6_transactionOf_14 hk9 ?_
    refine gd_iload_n (pc := 17) X 1 dX6_transactionOf_17 rfl ?_
    obtain ⟨hk10, h⟩ := h
    obtain ⟨hi11, h⟩ := h
    refine gd_iald (pc := 18) X dX6_transactionOf_18 hk10 hi11 ?_
    refine gd_goto (pc := 19) X 27 dX6_transactionOf_19 (by decide) ?_
    exact g27 _ _ _ _ h
abbrev rm_X6_dependencyOf : Room := { frames := 3, cells := 0, slots := 0, locals := 74 }
def b_X6_dependencyOf_218 (post : Int32 → MS → Prop) (S : MS) (l0 : Nat) (l1 : Int32) (l2 : Int32) (l3 : Int32) (l4 : Int32) (l5 : Int32) (l6 : Int32) (l7 : Int32) (l8 : Int32) (s0 : Int32) (s1 : Int32) : Prop := post (s1 + s0) S
def b_X6_dependencyOf_207 (post : Int32 → MS → Prop) (S : MS) (l0 : Nat) (l1 : Int32) (l2 : Int32) (l3 : Int32) (l4 : Int32) (l5 : Int32) (l6 : Int32) (l7 : Int32) (l8 : Int32) (s0 : Int32) (s1 : Int32) : Prop := ((l7 = 0 → b_X6_dependencyOf_218 post S l0 l1 l2 l3 l4 l5 l6 l7 l8 0 (s1 + s0)) ∧ (¬ l7 = 0 → b_X6_dependencyOf_218 post S l0 l1 l2 l3 l4 l5 l6 l7 l8 4 (s1 + s0)))
def b_X6_dependencyOf_197 (post : Int32 → MS → Prop) (S : MS) (l0 : Nat) (l1 : Int32) (l2 : Int32) (l3 : Int32) (l4 : Int32) (l5 : Int32) (l6 : Int32) (l7 : Int32) (l8 : Int32) (s0 : Int32) : Prop := ((l6 = 0 → b_X6_dependencyOf_207 post S l0 l1 l2 l3 l4 l5 l6 l7 l8 0 s0) ∧ (¬ l6 = 0 → b_X6_dependencyOf_207 post S l0 l1 l2 l3 l4 l5 l6 l7 l8 2 s0))
def b_X6_dependencyOf_179 (KH27 : MS → Nat → Int32 → Int32 → Int32 → Int32 → Int32 → Int32 → Int32 → Int32 → Prop) (post : Int32 → MS → Prop) (S : MS) (l0 : Nat) (l1 : Int32) (l2 : Int32) (l3 : Int32) (l4 : Int32) (l5 : Int32) (l6 : Int32) (l7 : Int32) (l8 : Int32) (l9 : Int32) (s0 : Int32) : Prop := ∀ v1 : Int32, v1 = l8 + 1 → KH27 S l0 l1 l2 l3 l4 l5 l6 s0 v1
def b_X6_dependencyOf_178 (KH27 : MS → Nat → Int32 → Int32 → Int32 → Int32 → Int32 → Int32 → Int32 → Int32 → Prop) (post : Int32 → MS → Prop) (S : MS) (l0 : Nat) (l1 : Int32) (l2 : Int32) (l3 : Int32) (l4 : Int32) (l5 : Int32) (l6 : Int32) (l7 : Int32) (l8 : Int32) (l9 : Int32) : Prop := b_X6_dependencyOf_179 KH27 post S l0 l1 l2 l3 l4 l5 l6 l7 l8 l9 0
def b_X6_dependencyOf_174 (KH27 : MS → Nat → Int32 → Int32 → Int32 → Int32 → Int32 → Int32 → Int32 → Int32 → Prop) (post : Int32 → MS → Prop) (S : MS) (l0 : Nat) (l1 : Int32) (l2 : Int32) (l3 : Int32) (l4 : Int32) (l5 : Int32) (l6 : Int32) (l7 : Int32) (l8 : Int32) (l9 : Int32) : Prop := b_X6_dependencyOf_179 KH27 post S l0 l1 l2 l3 l4 l5 l6 l7 l8 l9 1
def b_X6_dependencyOf_118 (KH27 : MS → Nat → Int32 → Int32 → Int32 → Int32 → Int32 → Int32 → Int32 → Int32 → Prop) (post : Int32 → MS → Prop) (S : MS) (l0 : Nat) (l1 : Int32) (l2 : Int32) (l3 : Int32) (l4 : Int32) (l5 : Int32) (l6 : Int32) (l7 : Int32) (l8 : Int32) (l9 : Int32) (s0 : Int32) : Prop := ((¬ l7 = 0 → b_X6_dependencyOf_174 KH27 post S l0 l1 l2 l3 l4 l5 s0 l7 l8 l9) ∧ (l7 = 0 → ((l9 = 0 → b_X6_dependencyOf_178 KH27 post S l0 l1 l2 l3 l4 l5 s0 l7 l8 l9) ∧ (¬ l9 = 0 → kT S l0 = 7 ∧ kT S (sR S l0 9) = 9 ∧ vp_in ((32 * l3) + l8) (kL S (sR S l0 9)) ∧ ((¬ (sI S (sR S l0 9) (ix ((32 * l3) + l8))) = ((-1)) → b_X6_dependencyOf_174 KH27 post S l0 l1 l2 l3 l4 l5 s0 l7 l8 l9) ∧ ((sI S (sR S l0 9) (ix ((32 * l3) + l8))) = ((-1)) → w_X6_stored S l0 (l2 - 1) l8 (fun r5 S4 => kT S4 l0 = 7 ∧ w_X6_stored S4 l0 l2 l8 (fun r8 S7 => kT S7 l0 = 7 ∧ w_X6_touchesAny S7 l0 l3 61 l8 r5 r8 (fun r11 S10 => ((r11 = 0 → b_X6_dependencyOf_178 KH27 post S10 l0 l1 l2 l3 l4 l5 s0 l7 l8 l9) ∧ (¬ r11 = 0 → b_X6_dependencyOf_174 KH27 post S10 l0 l1 l2 l3 l4 l5 s0 l7 l8 l9)))))))))))
def b_X6_dependencyOf_117 (KH27 : MS → Nat → Int32 → Int32 → Int32 → Int32 → Int32 → Int32 → Int32 → Int32 → Prop) (post : Int32 → MS → Prop) (S : MS) (l0 : Nat) (l1 : Int32) (l2 : Int32) (l3 : Int32) (l4 : Int32) (l5 : Int32) (l6 : Int32) (l7 : Int32) (l8 : Int32) (l9 : Int32) : Prop := b_X6_dependencyOf_118 KH27 post S l0 l1 l2 l3 l4 l5 l6 l7 l8 l9 0
def b_X6_dependencyOf_113 (KH27 : MS → Nat → Int32 → Int32 → Int32 → Int32 → Int32 → Int32 → Int32 → Int32 → Prop) (post : Int32 → MS → Prop) (S : MS) (l0 : Nat) (l1 : Int32) (l2 : Int32) (l3 : Int32) (l4 : Int32) (l5 : Int32) (l6 : Int32) (l7 : Int32) (l8 : Int32) (l9 : Int32) : Prop := b_X6_dependencyOf_118 KH27 post S l0 l1 l2 l3 l4 l5 l6 l7 l8 l9 1
def b_X6_dependencyOf_91 (KH27 : MS → Nat → Int32 → Int32 → Int32 → Int32 → Int32 → Int32 → Int32 → Int32 → Prop) (post : Int32 → MS → Prop) (S : MS) (l0 : Nat) (l1 : Int32) (l2 : Int32) (l3 : Int32) (l4 : Int32) (l5 : Int32) (l6 : Int32) (l7 : Int32) (l8 : Int32) (l9 : Int32) (s0 : Int32) : Prop := ((¬ l6 = 0 → b_X6_dependencyOf_113 KH27 post S l0 l1 l2 l3 l4 s0 l6 l7 l8 l9) ∧ (l6 = 0 → ((l9 = 0 → b_X6_dependencyOf_117 KH27 post S l0 l1 l2 l3 l4 s0 l6 l7 l8 l9) ∧ (¬ l9 = 0 → kT S l0 = 7 ∧ w_X6_hasWritten S l0 l1 l8 (fun r3 S2 => ((r3 = 0 → b_X6_dependencyOf_117 KH27 post S2 l0 l1 l2 l3 l4 s0 l6 l7 l8 l9) ∧ (¬ r3 = 0 → b_X6_dependencyOf_113 KH27 post S2 l0 l1 l2 l3 l4 s0 l6 l7 l8 l9)))))))
def b_X6_dependencyOf_90 (KH27 : MS → Nat → Int32 → Int32 → Int32 → Int32 → Int32 → Int32 → Int32 → Int32 → Prop) (post : Int32 → MS → Prop) (S : MS) (l0 : Nat) (l1 : Int32) (l2 : Int32) (l3 : Int32) (l4 : Int32) (l5 : Int32) (l6 : Int32) (l7 : Int32) (l8 : Int32) (l9 : Int32) : Prop := b_X6_dependencyOf_91 KH27 post S l0 l1 l2 l3 l4 l5 l6 l7 l8 l9 0
def b_X6_dependencyOf_86 (KH27 : MS → Nat → Int32 → Int32 → Int32 → Int32 → Int32 → Int32 → Int32 → Int32 → Prop) (post : Int32 → MS → Prop) (S : MS) (l0 : Nat) (l1 : Int32) (l2 : Int32) (l3 : Int32) (l4 : Int32) (l5 : Int32) (l6 : Int32) (l7 : Int32) (l8 : Int32) (l9 : Int32) : Prop := b_X6_dependencyOf_91 KH27 post S l0 l1 l2 l3 l4 l5 l6 l7 l8 l9 1
def b_X6_dependencyOf_27 (post : Int32 → MS → Prop) : Nat → MS → Nat → Int32 → Int32 → Int32 → Int32 → Int32 → Int32 → Int32 → Int32 → Prop
  | 0 => fun _ _ _ _ _ _ _ _ _ _ => False
  | f + 1 => fun S l0 l1 l2 l3 l4 l5 l6 l7 l8 => ((32 ≤ l8 → ((l5 = 0 → b_X6_dependencyOf_197 post S l0 l1 l2 l3 l4 l5 l6 l7 l8 0) ∧ (¬ l5 = 0 → b_X6_dependencyOf_197 post S l0 l1 l2 l3 l4 l5 l6 l7 l8 1))) ∧ (¬ 32 ≤ l8 → kT S l0 = 7 ∧ w_X6_hasWritten S l0 l2 l8 (fun r4 S3 => ((¬ l5 = 0 → b_X6_dependencyOf_86 (b_X6_dependencyOf_27 post f) post S3 l0 l1 l2 l3 l4 l5 l6 l7 l8 r4) ∧ (l5 = 0 → kT S3 l0 = 7 ∧ w_X6_hasWritten S3 l0 l1 l8 (fun r7 S6 => ((r7 = 0 → b_X6_dependencyOf_90 (b_X6_dependencyOf_27 post f) post S6 l0 l1 l2 l3 l4 l5 l6 l7 l8 r4) ∧ (¬ r7 = 0 → kT S6 l0 = 7 ∧ kT S6 (sR S6 l0 9) = 9 ∧ vp_in ((32 * l4) + l8) (kL S6 (sR S6 l0 9)) ∧ (((sI S6 (sR S6 l0 9) (ix ((32 * l4) + l8))) = ((-1)) → b_X6_dependencyOf_90 (b_X6_dependencyOf_27 post f) post S6 l0 l1 l2 l3 l4 l5 l6 l7 l8 r4) ∧ (¬ (sI S6 (sR S6 l0 9) (ix ((32 * l4) + l8))) = ((-1)) → w_X6_lastWriter S6 l0 l8 l2 (fun r12 S11 => ((¬ r12 = l1 → b_X6_dependencyOf_90 (b_X6_dependencyOf_27 post f) post S11 l0 l1 l2 l3 l4 l5 l6 l7 l8 r4) ∧ (r12 = l1 → b_X6_dependencyOf_86 (b_X6_dependencyOf_27 post f) post S11 l0 l1 l2 l3 l4 l5 l6 l7 l8 r4)))))))))))))
def w_X6_dependencyOf (S : MS) (a0 : Nat) (a1 : Int32) (a2 : Int32) (post : Int32 → MS → Prop) : Prop := kT S a0 = 7 ∧ kT S (sR S a0 16) = 9 ∧ vp_in a1 (kL S (sR S a0 16)) ∧ ∀ v4 : Int32, v4 = sI S (sR S a0 16) (ix a1) → vp_in a2 (kL S (sR S a0 16)) ∧ ∀ v6 : Int32, v6 = sI S (sR S a0 16) (ix a2) → ∃ f27, b_X6_dependencyOf_27 post f27 S a0 a1 a2 v4 v6 0 0 0 0
set_option maxHeartbeats 4000000 in
set_option maxRecDepth 100000 in
theorem ct_X6_dependencyOf (l : Launch) (G : GP) (S : MS) (a0 : Nat) (a1 : Int32) (a2 : Int32) (post : Int32 → MS → Prop) (h : w_X6_dependencyOf S a0 a1 a2 post) : MetM l yX6_dependencyOf cX6_dependencyOf 10 (some .int) rm_X6_dependencyOf [rf a0, .int a1, .int a2] G S (pI_ post) := by
  refine met_of (by decide) (cat1_r (cat1_i (cat1_i cat1_n))) (Nat.le_of_ble_eq_true rfl) ?_
  intro p e s m args below meth c X hr hlk hin
  revert h
  have g218 : ∀ (S : MS) (l0 : Nat) (l1 : Int32) (l2 : Int32) (l3 : Int32) (l4 : Int32) (l5 : Int32) (l6 : Int32) (l7 : Int32) (l8 : Int32) (s0 : Int32) (s1 : Int32), b_X6_dependencyOf_218 post S l0 l1 l2 l3 l4 l5 l6 l7 l8 s0 s1 → Gd p l e rm_X6_dependencyOf s m args below meth c 10 G (MQ below (QcM G (pI_ post)) args s rm_X6_dependencyOf.cells rm_X6_dependencyOf.slots (Ab G)) 0 0 S 218 [(0, rf l0), (1, .int l1), (2, .int l2), (3, .int l3), (4, .int l4), (5, .int l5), (6, .int l6), (7, .int l7), (8, .int l8)] [.int s0, .int s1] := by
    intro S l0 l1 l2 l3 l4 l5 l6 l7 l8 s0 s1 h
    refine gd_iadd (pc := 218) X dX6_dependencyOf_218 ?_
    exact (gd_ret_i (pc := 219) X hr hlk rfl (by decide) (by decide) dX6_dependencyOf_219 ⟨_, rfl, h⟩)
  have g207 : ∀ (S : MS) (l0 : Nat) (l1 : Int32) (l2 : Int32) (l3 : Int32) (l4 : Int32) (l5 : Int32) (l6 : Int32) (l7 : Int32) (l8 : Int32) (s0 : Int32) (s1 : Int32), b_X6_dependencyOf_207 post S l0 l1 l2 l3 l4 l5 l6 l7 l8 s0 s1 → Gd p l e rm_X6_dependencyOf s m args below meth c 10 G (MQ below (QcM G (pI_ post)) args s rm_X6_dependencyOf.cells rm_X6_dependencyOf.slots (Ab G)) 0 0 S 207 [(0, rf l0), (1, .int l1), (2, .int l2), (3, .int l3), (4, .int l4), (5, .int l5), (6, .int l6), (7, .int l7), (8, .int l8)] [.int s0, .int s1] := by
    intro S l0 l1 l2 l3 l4 l5 l6 l7 l8 s0 s1 h
    refine gd_iadd (pc := 207) X dX6_dependencyOf_207 ?_
    refine gd_iload (pc := 208) X 7 dX6_dependencyOf_208 rfl ?_
    refine gd_if_eq (pc := 210) X 217 dX6_dependencyOf_210 (by decide) (fun hc1 => ?_) (fun hc1 => ?_)
    · have h := h.1 hc1
      refine gd_iconst (pc := 217) X (0) dX6_dependencyOf_217 (by decide) ?_
      exact g218 _ _ _ _ _ _ _ _ _ _ _ _ h
    · have h := h.2 hc1
      refine gd_iconst (pc := 213) X (4) dX6_dependencyOf_213 (by decide) ?_
      refine gd_goto (pc := 214) X 218 dX6_dependencyOf_214 (by decide) ?_
      exact g218 _ _ _ _ _ _ _ _ _ _ _ _ h
  have g197 : ∀ (S : MS) (l0 : Nat) (l1 : Int32) (l2 : Int32) (l3 : Int32) (l4 : Int32) (l5 : Int32) (l6 : Int32) (l7 : Int32) (l8 : Int32) (s0 : Int32), b_X6_dependencyOf_197 post S l0 l1 l2 l3 l4 l5 l6 l7 l8 s0 → Gd p l e rm_X6_dependencyOf s m args below meth c 10 G (MQ below (QcM G (pI_ post)) args s rm_X6_dependencyOf.cells rm_X6_dependencyOf.slots (Ab G)) 0 0 S 197 [(0, rf l0), (1, .int l1), (2, .int l2), (3, .int l3), (4, .int l4), (5, .int l5), (6, .int l6), (7, .int l7), (8, .int l8)] [.int s0] := by
    intro S l0 l1 l2 l3 l4 l5 l6 l7 l8 s0 h
    refine gd_iload (pc := 197) X 6 dX6_dependencyOf_197 rfl ?_
    refine gd_if_eq (pc := 199) X 206 dX6_dependencyOf_199 (by decide) (fun hc1 => ?_) (fun hc1 => ?_)
    · have h := h.1 hc1
      refine gd_iconst (pc := 206) X (0) dX6_dependencyOf_206 (by decide) ?_
      exact g207 _ _ _ _ _ _ _ _ _ _ _ _ h
    · have h := h.2 hc1
      refine gd_iconst (pc := 202) X (2) dX6_dependencyOf_202 (by decide) ?_
      refine gd_goto (pc := 203) X 207 dX6_dependencyOf_203 (by decide) ?_
      exact g207 _ _ _ _ _ _ _ _ _ _ _ _ h
  have g179 : ∀ (KH27 : MS → Nat → Int32 → Int32 → Int32 → Int32 → Int32 → Int32 → Int32 → Int32 → Prop) (hKH27 : ∀ (S : MS) (l0 : Nat) (l1 : Int32) (l2 : Int32) (l3 : Int32) (l4 : Int32) (l5 : Int32) (l6 : Int32) (l7 : Int32) (l8 : Int32), KH27 S l0 l1 l2 l3 l4 l5 l6 l7 l8 → Gd p l e rm_X6_dependencyOf s m args below meth c 10 G (MQ below (QcM G (pI_ post)) args s rm_X6_dependencyOf.cells rm_X6_dependencyOf.slots (Ab G)) 0 0 S 27 [(0, rf l0), (1, .int l1), (2, .int l2), (3, .int l3), (4, .int l4), (5, .int l5), (6, .int l6), (7, .int l7), (8, .int l8)] []) (S : MS) (l0 : Nat) (l1 : Int32) (l2 : Int32) (l3 : Int32) (l4 : Int32) (l5 : Int32) (l6 : Int32) (l7 : Int32) (l8 : Int32) (l9 : Int32) (s0 : Int32), b_X6_dependencyOf_179 KH27 post S l0 l1 l2 l3 l4 l5 l6 l7 l8 l9 s0 → Gd p l e rm_X6_dependencyOf s m args below meth c 10 G (MQ below (QcM G (pI_ post)) args s rm_X6_dependencyOf.cells rm_X6_dependencyOf.slots (Ab G)) 0 0 S 179 [(0, rf l0), (1, .int l1), (2, .int l2), (3, .int l3), (4, .int l4), (5, .int l5), (6, .int l6), (7, .int l7), (8, .int l8), (9, .int l9)] [.int s0] := by
    intro KH27 hKH27 S l0 l1 l2 l3 l4 l5 l6 l7 l8 l9 s0 h
    refine gd_istore (pc := 179) X dX6_dependencyOf_179 (by decide) (E2 := [(7, .int s0), (0, rf l0), (1, .int l1), (2, .int l2), (3, .int l3), (4, .int l4), (5, .int l5), (6, .int l6), (8, .int l8), (9, .int l9)]) rfl ?_
    obtain ⟨v1, hv1⟩ : ∃ z : Int32, z = l8 + 1 := ⟨_, rfl⟩
    have h := h v1 hv1
    refine gd_iinc (pc := 181) (v := v1) X 8 dX6_dependencyOf_181 rfl (by rw [hv1]; rfl) (by decide) (E2 := [(8, .int v1), (7, .int s0), (0, rf l0), (1, .int l1), (2, .int l2), (3, .int l3), (4, .int l4), (5, .int l5), (6, .int l6), (9, .int l9)]) rfl ?_
    refine gd_goto (pc := 184) X 27 dX6_dependencyOf_184 (by decide) ?_
    refine gd_sub [2, 3, 4, 5, 6, 7, 8, 1, 0] rfl ?_
    exact hKH27 _ _ _ _ _ _ _ _ _ _ h
  have g178 : ∀ (KH27 : MS → Nat → Int32 → Int32 → Int32 → Int32 → Int32 → Int32 → Int32 → Int32 → Prop) (hKH27 : ∀ (S : MS) (l0 : Nat) (l1 : Int32) (l2 : Int32) (l3 : Int32) (l4 : Int32) (l5 : Int32) (l6 : Int32) (l7 : Int32) (l8 : Int32), KH27 S l0 l1 l2 l3 l4 l5 l6 l7 l8 → Gd p l e rm_X6_dependencyOf s m args below meth c 10 G (MQ below (QcM G (pI_ post)) args s rm_X6_dependencyOf.cells rm_X6_dependencyOf.slots (Ab G)) 0 0 S 27 [(0, rf l0), (1, .int l1), (2, .int l2), (3, .int l3), (4, .int l4), (5, .int l5), (6, .int l6), (7, .int l7), (8, .int l8)] []) (S : MS) (l0 : Nat) (l1 : Int32) (l2 : Int32) (l3 : Int32) (l4 : Int32) (l5 : Int32) (l6 : Int32) (l7 : Int32) (l8 : Int32) (l9 : Int32), b_X6_dependencyOf_178 KH27 post S l0 l1 l2 l3 l4 l5 l6 l7 l8 l9 → Gd p l e rm_X6_dependencyOf s m args below meth c 10 G (MQ below (QcM G (pI_ post)) args s rm_X6_dependencyOf.cells rm_X6_dependencyOf.slots (Ab G)) 0 0 S 178 [(0, rf l0), (1, .int l1), (2, .int l2), (3, .int l3), (4, .int l4), (5, .int l5), (6, .int l6), (7, .int l7), (8, .int l8), (9, .int l9)] [] := by
    intro KH27 hKH27 S l0 l1 l2 l3 l4 l5 l6 l7 l8 l9 h
    refine gd_iconst (pc := 178) X (0) dX6_dependencyOf_178 (by decide) ?_
    exact g179 _ hKH27 _ _ _ _ _ _ _ _ _ _ _ _ h
  have g174 : ∀ (KH27 : MS → Nat → Int32 → Int32 → Int32 → Int32 → Int32 → Int32 → Int32 → Int32 → Prop) (hKH27 : ∀ (S : MS) (l0 : Nat) (l1 : Int32) (l2 : Int32) (l3 : Int32) (l4 : Int32) (l5 : Int32) (l6 : Int32) (l7 : Int32) (l8 : Int32), KH27 S l0 l1 l2 l3 l4 l5 l6 l7 l8 → Gd p l e rm_X6_dependencyOf s m args below meth c 10 G (MQ below (QcM G (pI_ post)) args s rm_X6_dependencyOf.cells rm_X6_dependencyOf.slots (Ab G)) 0 0 S 27 [(0, rf l0), (1, .int l1), (2, .int l2), (3, .int l3), (4, .int l4), (5, .int l5), (6, .int l6), (7, .int l7), (8, .int l8)] []) (S : MS) (l0 : Nat) (l1 : Int32) (l2 : Int32) (l3 : Int32) (l4 : Int32) (l5 : Int32) (l6 : Int32) (l7 : Int32) (l8 : Int32) (l9 : Int32), b_X6_dependencyOf_174 KH27 post S l0 l1 l2 l3 l4 l5 l6 l7 l8 l9 → Gd p l e rm_X6_dependencyOf s m args below meth c 10 G (MQ below (QcM G (pI_ post)) args s rm_X6_dependencyOf.cells rm_X6_dependencyOf.slots (Ab G)) 0 0 S 174 [(0, rf l0), (1, .int l1), (2, .int l2), (3, .int l3), (4, .int l4), (5, .int l5), (6, .int l6), (7, .int l7), (8, .int l8), (9, .int l9)] [] := by
    intro KH27 hKH27 S l0 l1 l2 l3 l4 l5 l6 l7 l8 l9 h
    refine gd_iconst (pc := 174) X (1) dX6_dependencyOf_174 (by decide) ?_
    refine gd_goto (pc := 175) X 179 dX6_dependencyOf_175 (by decide) ?_
    exact g179 _ hKH27 _ _ _ _ _ _ _ _ _ _ _ _ h
  have g118 : ∀ (KH27 : MS → Nat → Int32 → Int32 → Int32 → Int32 → Int32 → Int32 → Int32 → Int32 → Prop) (hKH27 : ∀ (S : MS) (l0 : Nat) (l1 : Int32) (l2 : Int32) (l3 : Int32) (l4 : Int32) (l5 : Int32) (l6 : Int32) (l7 : Int32) (l8 : Int32), KH27 S l0 l1 l2 l3 l4 l5 l6 l7 l8 → Gd p l e rm_X6_dependencyOf s m args below meth c 10 G (MQ below (QcM G (pI_ post)) args s rm_X6_dependencyOf.cells rm_X6_dependencyOf.slots (Ab G)) 0 0 S 27 [(0, rf l0), (1, .int l1), (2, .int l2), (3, .int l3), (4, .int l4), (5, .int l5), (6, .int l6), (7, .int l7), (8, .int l8)] []) (S : MS) (l0 : Nat) (l1 : Int32) (l2 : Int32) (l3 : Int32) (l4 : Int32) (l5 : Int32) (l6 : Int32) (l7 : Int32) (l8 : Int32) (l9 : Int32) (s0 : Int32), b_X6_dependencyOf_118 KH27 post S l0 l1 l2 l3 l4 l5 l6 l7 l8 l9 s0 → Gd p l e rm_X6_dependencyOf s m args below meth c 10 G (MQ below (QcM G (pI_ post)) args s rm_X6_dependencyOf.cells rm_X6_dependencyOf.slots (Ab G)) 0 0 S 118 [(0, rf l0), (1, .int l1), (2, .int l2), (3, .int l3), (4, .int l4), (5, .int l5), (6, .int l6), (7, .int l7), (8, .int l8), (9, .int l9)] [.int s0] := by
    intro KH27 hKH27 S l0 l1 l2 l3 l4 l5 l6 l7 l8 l9 s0 h
    refine gd_istore (pc := 118) X dX6_dependencyOf_118 (by decide) (E2 := [(6, .int s0), (0, rf l0), (1, .int l1), (2, .int l2), (3, .int l3), (4, .int l4), (5, .int l5), (7, .int l7), (8, .int l8), (9, .int l9)]) rfl ?_
    refine gd_iload (pc := 120) X 7 dX6_dependencyOf_120 rfl ?_
    refine gd_if_ne (pc := 122) X 174 dX6_dependencyOf_122 (by decide) (fun hc15 => ?_) (fun hc15 => ?_)
    · have h := h.1 hc15
      refine gd_sub [1, 2, 3, 4, 5, 6, 0, 7, 8, 9] rfl ?_
      exact g174 _ hKH27 _ _ _ _ _ _ _ _ _ _ _ h
    · have h := h.2 hc15
      refine gd_iload (pc := 125) X 9 dX6_dependencyOf_125 rfl ?_
      refine gd_if_eq (pc := 127) X 178 dX6_dependencyOf_127 (by decide) (fun hc14 => ?_) (fun hc14 => ?_)
      · have h := h.1 hc14
        refine gd_sub [1, 2, 3, 4, 5, 6, 0, 7, 8, 9] rfl ?_
        exact g178 _ hKH27 _ _ _ _ _ _ _ _ _ _ _ h
      · have h := h.2 hc14
        refine gd_aload_n (pc := 130) X 1 dX6_dependencyOf_130 rfl ?_
        obtain ⟨hk1, h⟩ := h
        refine gd_getR (pc := 131) (kf := 9) X ci6 (by decide) rfl tw_992 dX6_dependencyOf_131 hk1 ?_
        refine gd_bipush (pc := 134) X (32) dX6_dependencyOf_134 (by decide) ?_
        refine gd_iload_n (pc := 136) X 4 dX6_dependencyOf_136 rfl ?_
        refine gd_imul (pc := 137) X dX6_dependencyOf_137 ?_
        refine gd_iload (pc := 138) X 8 dX6_dependencyOf_138 rfl ?_
        refine gd_iadd (pc := 140) X dX6_dependencyOf_140 ?_
        obtain ⟨hk2, h⟩ := h
        obtain ⟨hi3, h⟩ := h
        refine gd_iald (pc := 141) X dX6_dependencyOf_141 hk2 hi3 ?_
        refine gd_iconst (pc := 142) X (-1) dX6_dependencyOf_142 (by decide) ?_
        refine gd_icmp_ne (pc := 143) X 174 dX6_dependencyOf_143 (by decide) (fun hc13 => ?_) (fun hc13 => ?_)
        · have h := h.1 hc13
          refine gd_sub [1, 2, 3, 4, 5, 6, 0, 7, 8, 9] rfl ?_
          exact g174 _ hKH27 _ _ _ _ _ _ _ _ _ _ _ h
        · have h := h.2 hc13
          refine gd_aload_n (pc := 146) X 1 dX6_dependencyOf_146 rfl ?_
          refine gd_iload_n (pc := 147) X 4 dX6_dependencyOf_147 rfl ?_
          refine gd_bipush (pc := 148) X (61) dX6_dependencyOf_148 (by decide) ?_
          refine gd_iload (pc := 150) X 8 dX6_dependencyOf_150 rfl ?_
          refine gd_aload_n (pc := 152) X 1 dX6_dependencyOf_152 rfl ?_
          refine gd_iload_n (pc := 153) X 3 dX6_dependencyOf_153 rfl ?_
          refine gd_iconst (pc := 154) X (1) dX6_dependencyOf_154 (by decide) ?_
          refine gd_isub (pc := 155) X dX6_dependencyOf_155 ?_
          refine gd_iload (pc := 156) X 8 dX6_dependencyOf_156 rfl ?_
          refine gd_callV (pc := 158) (As := [.int (l2 - 1), .int l8]) (rest := [.int l8, .int 61, .int l3, rf l0]) X (ct_X6_stored l G S l0 (l2 - 1) l8 _ h) mw_X6_stored tw_1132 ci6 rfl hk1 ⟨(Nat.le_of_ble_eq_true rfl), (Nat.le_of_ble_eq_true rfl)⟩ rfl rfl (Nat.le_of_ble_eq_true rfl) dX6_dependencyOf_158 ⟨Nat.le_of_ble_eq_true rfl, Nat.le_of_ble_eq_true rfl⟩ (kI (fun r5 S4 h => ?_))
          refine gd_wide (k2 := 0) (j2 := 0) (Nat.le_of_ble_eq_true rfl) (Nat.le_of_ble_eq_true rfl) ?_
          refine gd_aload_n (pc := 161) X 1 dX6_dependencyOf_161 rfl ?_
          refine gd_iload_n (pc := 162) X 3 dX6_dependencyOf_162 rfl ?_
          refine gd_iload (pc := 163) X 8 dX6_dependencyOf_163 rfl ?_
          obtain ⟨hk6, h⟩ := h
          refine gd_callV5 (pc := 165) (As := [.int l2, .int l8]) (rest := [.int r5, .int l8, .int 61, .int l3, rf l0]) X (ct_X6_stored l G S4 l0 l2 l8 _ h) mw_X6_stored tw_1132 ci6 rfl hk6 ⟨(Nat.le_of_ble_eq_true rfl), (Nat.le_of_ble_eq_true rfl)⟩ rfl rfl (Nat.le_of_ble_eq_true rfl) (cat1_i (cat1_i (cat1_i (cat1_i (cat1_r cat1_n))))) dX6_dependencyOf_165 ⟨Nat.le_of_ble_eq_true rfl, Nat.le_of_ble_eq_true rfl⟩ (kI (fun r8 S7 h => ?_))
          refine gd_wide (k2 := 0) (j2 := 0) (Nat.le_of_ble_eq_true rfl) (Nat.le_of_ble_eq_true rfl) ?_
          obtain ⟨hk9, h⟩ := h
          refine gd_callV (pc := 168) (As := [.int l3, .int 61, .int l8, .int r5, .int r8]) (rest := []) X (ct_X6_touchesAny l G S7 l0 l3 61 l8 r5 r8 _ h) mw_X6_touchesAny tw_1195 ci6 rfl hk9 ⟨(Nat.le_of_ble_eq_true rfl), (Nat.le_of_ble_eq_true rfl)⟩ rfl rfl (Nat.le_of_ble_eq_true rfl) dX6_dependencyOf_168 ⟨Nat.le_of_ble_eq_true rfl, Nat.le_of_ble_eq_true rfl⟩ (kI (fun r11 S10 h => ?_))
          refine gd_wide (k2 := 0) (j2 := 0) (Nat.le_of_ble_eq_true rfl) (Nat.le_of_ble_eq_true rfl) ?_
          refine gd_if_eq (pc := 171) X 178 dX6_dependencyOf_171 (by decide) (fun hc12 => ?_) (fun hc12 => ?_)
          · have h := h.1 hc12
            refine gd_sub [1, 2, 3, 4, 5, 6, 0, 7, 8, 9] rfl ?_
            exact g178 _ hKH27 _ _ _ _ _ _ _ _ _ _ _ h
          · have h := h.2 hc12
            refine gd_sub [1, 2, 3, 4, 5, 6, 0, 7, 8, 9] rfl ?_
            exact g174 _ hKH27 _ _ _ _ _ _ _ _ _ _ _ h
  have g117 : ∀ (KH27 : MS → Nat → Int32 → Int32 → Int32 → Int32 → Int32 → Int32 → Int32 → Int32 → Prop) (hKH27 : ∀ (S : MS) (l0 : Nat) (l1 : Int32) (l2 : Int32) (l3 : Int32) (l4 : Int32) (l5 : Int32) (l6 : Int32) (l7 : Int32) (l8 : Int32), KH27 S l0 l1 l2 l3 l4 l5 l6 l7 l8 → Gd p l e rm_X6_dependencyOf s m args below meth c 10 G (MQ below (QcM G (pI_ post)) args s rm_X6_dependencyOf.cells rm_X6_dependencyOf.slots (Ab G)) 0 0 S 27 [(0, rf l0), (1, .int l1), (2, .int l2), (3, .int l3), (4, .int l4), (5, .int l5), (6, .int l6), (7, .int l7), (8, .int l8)] []) (S : MS) (l0 : Nat) (l1 : Int32) (l2 : Int32) (l3 : Int32) (l4 : Int32) (l5 : Int32) (l6 : Int32) (l7 : Int32) (l8 : Int32) (l9 : Int32), b_X6_dependencyOf_117 KH27 post S l0 l1 l2 l3 l4 l5 l6 l7 l8 l9 → Gd p l e rm_X6_dependencyOf s m args below meth c 10 G (MQ below (QcM G (pI_ post)) args s rm_X6_dependencyOf.cells rm_X6_dependencyOf.slots (Ab G)) 0 0 S 117 [(0, rf l0), (1, .int l1), (2, .int l2), (3, .int l3), (4, .int l4), (5, .int l5), (6, .int l6), (7, .int l7), (8, .int l8), (9, .int l9)] [] := by
    intro KH27 hKH27 S l0 l1 l2 l3 l4 l5 l6 l7 l8 l9 h
    refine gd_iconst (pc := 117) X (0) dX6_dependencyOf_117 (by decide) ?_
    exact g118 _ hKH27 _ _ _ _ _ _ _ _ _ _ _ _ h
  have g113 : ∀ (KH27 : MS → Nat → Int32 → Int32 → Int32 → Int32 → Int32 → Int32 → Int32 → Int32 → Prop) (hKH27 : ∀ (S : MS) (l0 : Nat) (l1 : Int32) (l2 : Int32) (l3 : Int32) (l4 : Int32) (l5 : Int32) (l6 : Int32) (l7 : Int32) (l8 : Int32), KH27 S l0 l1 l2 l3 l4 l5 l6 l7 l8 → Gd p l e rm_X6_dependencyOf s m args below meth c 10 G (MQ below (QcM G (pI_ post)) args s rm_X6_dependencyOf.cells rm_X6_dependencyOf.slots (Ab G)) 0 0 S 27 [(0, rf l0), (1, .int l1), (2, .int l2), (3, .int l3), (4, .int l4), (5, .int l5), (6, .int l6), (7, .int l7), (8, .int l8)] []) (S : MS) (l0 : Nat) (l1 : Int32) (l2 : Int32) (l3 : Int32) (l4 : Int32) (l5 : Int32) (l6 : Int32) (l7 : Int32) (l8 : Int32) (l9 : Int32), b_X6_dependencyOf_113 KH27 post S l0 l1 l2 l3 l4 l5 l6 l7 l8 l9 → Gd p l e rm_X6_dependencyOf s m args below meth c 10 G (MQ below (QcM G (pI_ post)) args s rm_X6_dependencyOf.cells rm_X6_dependencyOf.slots (Ab G)) 0 0 S 113 [(0, rf l0), (1, .int l1), (2, .int l2), (3, .int l3), (4, .int l4), (5, .int l5), (6, .int l6), (7, .int l7), (8, .int l8), (9, .int l9)] [] := by
    intro KH27 hKH27 S l0 l1 l2 l3 l4 l5 l6 l7 l8 l9 h
    refine gd_iconst (pc := 113) X (1) dX6_dependencyOf_113 (by decide) ?_
    refine gd_goto (pc := 114) X 118 dX6_dependencyOf_114 (by decide) ?_
    exact g118 _ hKH27 _ _ _ _ _ _ _ _ _ _ _ _ h
  have g91 : ∀ (KH27 : MS → Nat → Int32 → Int32 → Int32 → Int32 → Int32 → Int32 → Int32 → Int32 → Prop) (hKH27 : ∀ (S : MS) (l0 : Nat) (l1 : Int32) (l2 : Int32) (l3 : Int32) (l4 : Int32) (l5 : Int32) (l6 : Int32) (l7 : Int32) (l8 : Int32), KH27 S l0 l1 l2 l3 l4 l5 l6 l7 l8 → Gd p l e rm_X6_dependencyOf s m args below meth c 10 G (MQ below (QcM G (pI_ post)) args s rm_X6_dependencyOf.cells rm_X6_dependencyOf.slots (Ab G)) 0 0 S 27 [(0, rf l0), (1, .int l1), (2, .int l2), (3, .int l3), (4, .int l4), (5, .int l5), (6, .int l6), (7, .int l7), (8, .int l8)] []) (S : MS) (l0 : Nat) (l1 : Int32) (l2 : Int32) (l3 : Int32) (l4 : Int32) (l5 : Int32) (l6 : Int32) (l7 : Int32) (l8 : Int32) (l9 : Int32) (s0 : Int32), b_X6_dependencyOf_91 KH27 post S l0 l1 l2 l3 l4 l5 l6 l7 l8 l9 s0 → Gd p l e rm_X6_dependencyOf s m args below meth c 10 G (MQ below (QcM G (pI_ post)) args s rm_X6_dependencyOf.cells rm_X6_dependencyOf.slots (Ab G)) 0 0 S 91 [(0, rf l0), (1, .int l1), (2, .int l2), (3, .int l3), (4, .int l4), (5, .int l5), (6, .int l6), (7, .int l7), (8, .int l8), (9, .int l9)] [.int s0] := by
    intro KH27 hKH27 S l0 l1 l2 l3 l4 l5 l6 l7 l8 l9 s0 h
    refine gd_istore (pc := 91) X dX6_dependencyOf_91 (by decide) (E2 := [(5, .int s0), (0, rf l0), (1, .int l1), (2, .int l2), (3, .int l3), (4, .int l4), (6, .int l6), (7, .int l7), (8, .int l8), (9, .int l9)]) rfl ?_
    refine gd_iload (pc := 93) X 6 dX6_dependencyOf_93 rfl ?_
    refine gd_if_ne (pc := 95) X 113 dX6_dependencyOf_95 (by decide) (fun hc6 => ?_) (fun hc6 => ?_)
    · have h := h.1 hc6
      refine gd_sub [1, 2, 3, 4, 5, 0, 6, 7, 8, 9] rfl ?_
      exact g113 _ hKH27 _ _ _ _ _ _ _ _ _ _ _ h
    · have h := h.2 hc6
      refine gd_iload (pc := 98) X 9 dX6_dependencyOf_98 rfl ?_
      refine gd_if_eq (pc := 100) X 117 dX6_dependencyOf_100 (by decide) (fun hc5 => ?_) (fun hc5 => ?_)
      · have h := h.1 hc5
        refine gd_sub [1, 2, 3, 4, 5, 0, 6, 7, 8, 9] rfl ?_
        exact g117 _ hKH27 _ _ _ _ _ _ _ _ _ _ _ h
      · have h := h.2 hc5
        refine gd_aload_n (pc := 103) X 1 dX6_dependencyOf_103 rfl ?_
        refine gd_iload_n (pc := 104) X 2 dX6_dependencyOf_104 rfl ?_
        refine gd_iload (pc := 105) X 8 dX6_dependencyOf_105 rfl ?_
        obtain ⟨hk1, h⟩ := h
        refine gd_callV (pc := 107) (As := [.int l1, .int l8]) (rest := []) X (ct_X6_hasWritten l G S l0 l1 l8 _ h) mw_X6_hasWritten tw_1191 ci6 rfl hk1 ⟨(Nat.le_of_ble_eq_true rfl), (Nat.le_of_ble_eq_true rfl)⟩ rfl rfl (Nat.le_of_ble_eq_true rfl) dX6_dependencyOf_107 ⟨Nat.le_of_ble_eq_true rfl, Nat.le_of_ble_eq_true rfl⟩ (kI (fun r3 S2 h => ?_))
        refine gd_wide (k2 := 0) (j2 := 0) (Nat.le_of_ble_eq_true rfl) (Nat.le_of_ble_eq_true rfl) ?_
        refine gd_if_eq (pc := 110) X 117 dX6_dependencyOf_110 (by decide) (fun hc4 => ?_) (fun hc4 => ?_)
        · have h := h.1 hc4
          refine gd_sub [1, 2, 3, 4, 5, 0, 6, 7, 8, 9] rfl ?_
          exact g117 _ hKH27 _ _ _ _ _ _ _ _ _ _ _ h
        · have h := h.2 hc4
          refine gd_sub [1, 2, 3, 4, 5, 0, 6, 7, 8, 9] rfl ?_
          exact g113 _ hKH27 _ _ _ _ _ _ _ _ _ _ _ h
  have g90 : ∀ (KH27 : MS → Nat → Int32 → Int32 → Int32 → Int32 → Int32 → Int32 → Int32 → Int32 → Prop) (hKH27 : ∀ (S : MS) (l0 : Nat) (l1 : Int32) (l2 : Int32) (l3 : Int32) (l4 : Int32) (l5 : Int32) (l6 : Int32) (l7 : Int32) (l8 : Int32), KH27 S l0 l1 l2 l3 l4 l5 l6 l7 l8 → Gd p l e rm_X6_dependencyOf s m args below meth c 10 G (MQ below (QcM G (pI_ post)) args s rm_X6_dependencyOf.cells rm_X6_dependencyOf.slots (Ab G)) 0 0 S 27 [(0, rf l0), (1, .int l1), (2, .int l2), (3, .int l3), (4, .int l4), (5, .int l5), (6, .int l6), (7, .int l7), (8, .int l8)] []) (S : MS) (l0 : Nat) (l1 : Int32) (l2 : Int32) (l3 : Int32) (l4 : Int32) (l5 : Int32) (l6 : Int32) (l7 : Int32) (l8 : Int32) (l9 : Int32), b_X6_dependencyOf_90 KH27 post S l0 l1 l2 l3 l4 l5 l6 l7 l8 l9 → Gd p l e rm_X6_dependencyOf s m args below meth c 10 G (MQ below (QcM G (pI_ post)) args s rm_X6_dependencyOf.cells rm_X6_dependencyOf.slots (Ab G)) 0 0 S 90 [(0, rf l0), (1, .int l1), (2, .int l2), (3, .int l3), (4, .int l4), (5, .int l5), (6, .int l6), (7, .int l7), (8, .int l8), (9, .int l9)] [] := by
    intro KH27 hKH27 S l0 l1 l2 l3 l4 l5 l6 l7 l8 l9 h
    refine gd_iconst (pc := 90) X (0) dX6_dependencyOf_90 (by decide) ?_
    exact g91 _ hKH27 _ _ _ _ _ _ _ _ _ _ _ _ h
  have g86 : ∀ (KH27 : MS → Nat → Int32 → Int32 → Int32 → Int32 → Int32 → Int32 → Int32 → Int32 → Prop) (hKH27 : ∀ (S : MS) (l0 : Nat) (l1 : Int32) (l2 : Int32) (l3 : Int32) (l4 : Int32) (l5 : Int32) (l6 : Int32) (l7 : Int32) (l8 : Int32), KH27 S l0 l1 l2 l3 l4 l5 l6 l7 l8 → Gd p l e rm_X6_dependencyOf s m args below meth c 10 G (MQ below (QcM G (pI_ post)) args s rm_X6_dependencyOf.cells rm_X6_dependencyOf.slots (Ab G)) 0 0 S 27 [(0, rf l0), (1, .int l1), (2, .int l2), (3, .int l3), (4, .int l4), (5, .int l5), (6, .int l6), (7, .int l7), (8, .int l8)] []) (S : MS) (l0 : Nat) (l1 : Int32) (l2 : Int32) (l3 : Int32) (l4 : Int32) (l5 : Int32) (l6 : Int32) (l7 : Int32) (l8 : Int32) (l9 : Int32), b_X6_dependencyOf_86 KH27 post S l0 l1 l2 l3 l4 l5 l6 l7 l8 l9 → Gd p l e rm_X6_dependencyOf s m args below meth c 10 G (MQ below (QcM G (pI_ post)) args s rm_X6_dependencyOf.cells rm_X6_dependencyOf.slots (Ab G)) 0 0 S 86 [(0, rf l0), (1, .int l1), (2, .int l2), (3, .int l3), (4, .int l4), (5, .int l5), (6, .int l6), (7, .int l7), (8, .int l8), (9, .int l9)] [] := by
    intro KH27 hKH27 S l0 l1 l2 l3 l4 l5 l6 l7 l8 l9 h
    refine gd_iconst (pc := 86) X (1) dX6_dependencyOf_86 (by decide) ?_
    refine gd_goto (pc := 87) X 91 dX6_dependencyOf_87 (by decide) ?_
    exact g91 _ hKH27 _ _ _ _ _ _ _ _ _ _ _ _ h
  have g27 : ∀ (f : Nat) (S : MS) (l0 : Nat) (l1 : Int32) (l2 : Int32) (l3 : Int32) (l4 : Int32) (l5 : Int32) (l6 : Int32) (l7 : Int32) (l8 : Int32), b_X6_dependencyOf_27 post f S l0 l1 l2 l3 l4 l5 l6 l7 l8 → Gd p l e rm_X6_dependencyOf s m args below meth c 10 G (MQ below (QcM G (pI_ post)) args s rm_X6_dependencyOf.cells rm_X6_dependencyOf.slots (Ab G)) 0 0 S 27 [(0, rf l0), (1, .int l1), (2, .int l2), (3, .int l3), (4, .int l4), (5, .int l5), (6, .int l6), (7, .int l7), (8, .int l8)] [] := by
    intro f
    induction f with
    | zero => intro S l0 l1 l2 l3 l4 l5 l6 l7 l8 h; exact h.elim
    | succ f ih =>
      intro S l0 l1 l2 l3 l4 l5 l6 l7 l8 h
      refine gd_iload (pc := 27) X 8 dX6_dependencyOf_27 rfl ?_
      refine gd_bipush (pc := 29) X (32) dX6_dependencyOf_29 (by decide) ?_
      refine gd_icmp_ge (pc := 31) X 187 dX6_dependencyOf_31 (by decide) (fun hc17 => ?_) (fun hc17 => ?_)
      · have h := h.1 hc17
        refine gd_iload (pc := 187) X 5 dX6_dependencyOf_187 rfl ?_
        refine gd_if_eq (pc := 189) X 196 dX6_dependencyOf_189 (by decide) (fun hc1 => ?_) (fun hc1 => ?_)
        · have h := h.1 hc1
          refine gd_iconst (pc := 196) X (0) dX6_dependencyOf_196 (by decide) ?_
          exact g197 _ _ _ _ _ _ _ _ _ _ _ h
        · have h := h.2 hc1
          refine gd_iconst (pc := 192) X (1) dX6_dependencyOf_192 (by decide) ?_
          refine gd_goto (pc := 193) X 197 dX6_dependencyOf_193 (by decide) ?_
          exact g197 _ _ _ _ _ _ _ _ _ _ _ h
      · have h := h.2 hc17
        refine gd_aload_n (pc := 34) X 0 dX6_dependencyOf_34 rfl ?_
        refine gd_iload_n (pc := 35) X 2 dX6_dependencyOf_35 rfl ?_
        refine gd_iload (pc := 36) X 8 dX6_dependencyOf_36 rfl ?_
        obtain ⟨hk2, h⟩ := h
        refine gd_callV (pc := 38) (As := [.int l2, .int l8]) (rest := []) X (ct_X6_hasWritten l G S l0 l2 l8 _ h) mw_X6_hasWritten tw_1191 ci6 rfl hk2 ⟨(Nat.le_of_ble_eq_true rfl), (Nat.le_of_ble_eq_true rfl)⟩ rfl rfl (Nat.le_of_ble_eq_true rfl) dX6_dependencyOf_38 ⟨Nat.le_of_ble_eq_true rfl, Nat.le_of_ble_eq_true rfl⟩ (kI (fun r4 S3 h => ?_))
        refine gd_wide (k2 := 0) (j2 := 0) (Nat.le_of_ble_eq_true rfl) (Nat.le_of_ble_eq_true rfl) ?_
        refine gd_istore (pc := 41) X dX6_dependencyOf_41 (by decide) (E2 := [(9, .int r4), (0, rf l0), (1, .int l1), (2, .int l2), (3, .int l3), (4, .int l4), (5, .int l5), (6, .int l6), (7, .int l7), (8, .int l8)]) rfl ?_
        refine gd_iload (pc := 43) X 6 dX6_dependencyOf_43 rfl ?_
        refine gd_if_ne (pc := 45) X 86 dX6_dependencyOf_45 (by decide) (fun hc16 => ?_) (fun hc16 => ?_)
        · have h := h.1 hc16
          refine gd_sub [1, 2, 3, 4, 5, 6, 7, 8, 9, 0] rfl ?_
          exact g86 _ ih _ _ _ _ _ _ _ _ _ _ _ h
        · have h := h.2 hc16
          refine gd_aload_n (pc := 48) X 1 dX6_dependencyOf_48 rfl ?_
          refine gd_iload_n (pc := 49) X 2 dX6_dependencyOf_49 rfl ?_
          refine gd_iload (pc := 50) X 9 dX6_dependencyOf_50 rfl ?_
          obtain ⟨hk5, h⟩ := h
          refine gd_callV (pc := 52) (As := [.int l1, .int l8]) (rest := []) X (ct_X6_hasWritten l G S3 l0 l1 l8 _ h) mw_X6_hasWritten tw_1191 ci6 rfl hk5 ⟨(Nat.le_of_ble_eq_true rfl), (Nat.le_of_ble_eq_true rfl)⟩ rfl rfl (Nat.le_of_ble_eq_true rfl) dX6_dependencyOf_52 ⟨Nat.le_of_ble_eq_true rfl, Nat.le_of_ble_eq_true rfl⟩ (kI (fun r7 S6 h => ?_))
          refine gd_wide (k2 := 0) (j2 := 0) (Nat.le_of_ble_eq_true rfl) (Nat.le_of_ble_eq_true rfl) ?_
          refine gd_if_eq (pc := 55) X 90 dX6_dependencyOf_55 (by decide) (fun hc15 => ?_) (fun hc15 => ?_)
          · have h := h.1 hc15
            refine gd_sub [1, 2, 3, 4, 5, 6, 7, 8, 9, 0] rfl ?_
            exact g90 _ ih _ _ _ _ _ _ _ _ _ _ _ h
          · have h := h.2 hc15
            refine gd_aload_n (pc := 58) X 1 dX6_dependencyOf_58 rfl ?_
            obtain ⟨hk8, h⟩ := h
            refine gd_getR (pc := 59) (kf := 9) X ci6 (by decide) rfl tw_992 dX6_dependencyOf_59 hk8 ?_
            refine gd_bipush (pc := 62) X (32) dX6_dependencyOf_62 (by decide) ?_
            refine gd_iload (pc := 64) X 5 dX6_dependencyOf_64 rfl ?_
            refine gd_imul (pc := 66) X dX6_dependencyOf_66 ?_
            refine gd_iload (pc := 67) X 9 dX6_dependencyOf_67 rfl ?_
            refine gd_iadd (pc := 69) X dX6_dependencyOf_69 ?_
            obtain ⟨hk9, h⟩ := h
            obtain ⟨hi10, h⟩ := h
            refine gd_iald (pc := 70) X dX6_dependencyOf_70 hk9 hi10 ?_
            refine gd_iconst (pc := 71) X (-1) dX6_dependencyOf_71 (by decide) ?_
            refine gd_icmp_eq (pc := 72) X 90 dX6_dependencyOf_72 (by decide) (fun hc14 => ?_) (fun hc14 => ?_)
            · have h := h.1 hc14
              refine gd_sub [1, 2, 3, 4, 5, 6, 7, 8, 9, 0] rfl ?_
              exact g90 _ ih _ _ _ _ _ _ _ _ _ _ _ h
            · have h := h.2 hc14
              refine gd_aload_n (pc := 75) X 1 dX6_dependencyOf_75 rfl ?_
              refine gd_iload (pc := 76) X 9 dX6_dependencyOf_76 rfl ?_
              refine gd_iload_n (pc := 78) X 3 dX6_dependencyOf_78 rfl ?_
              refine gd_callV (pc := 79) (As := [.int l8, .int l2]) (rest := []) X (ct_X6_lastWriter l G S6 l0 l8 l2 _ h) mw_X6_lastWriter tw_1307 ci6 rfl hk8 ⟨(Nat.le_of_ble_eq_true rfl), (Nat.le_of_ble_eq_true rfl)⟩ rfl rfl (Nat.le_of_ble_eq_true rfl) dX6_dependencyOf_79 ⟨Nat.le_of_ble_eq_true rfl, Nat.le_of_ble_eq_true rfl⟩ (kI (fun r12 S11 h => ?_))
              refine gd_wide (k2 := 0) (j2 := 0) (Nat.le_of_ble_eq_true rfl) (Nat.le_of_ble_eq_true rfl) ?_
              refine gd_iload_n (pc := 82) X 2 dX6_dependencyOf_82 rfl ?_
              refine gd_icmp_ne (pc := 83) X 90 dX6_dependencyOf_83 (by decide) (fun hc13 => ?_) (fun hc13 => ?_)
              · have h := h.1 hc13
                refine gd_sub [1, 2, 3, 4, 5, 6, 7, 8, 9, 0] rfl ?_
                exact g90 _ ih _ _ _ _ _ _ _ _ _ _ _ h
              · have h := h.2 hc13
                refine gd_sub [1, 2, 3, 4, 5, 6, 7, 8, 9, 0] rfl ?_
                exact g86 _ ih _ _ _ _ _ _ _ _ _ _ _ h
  intro h
  refine gd_aload_n (pc := 0) X 0 dX6_dependencyOf_0 rfl ?_
  obtain ⟨hk1, h⟩ := h
  refine gd_getR (pc := 1) (kf := 16) X ci6 (by decide) rfl tw_999 dX6_dependencyOf_1 hk1 ?_
  refine gd_iload_n (pc := 4) X 1 dX6_dependencyOf_4 rfl ?_
  obtain ⟨hk2, h⟩ := h
  obtain ⟨hi3, h⟩ := h
  refine gd_iald (pc := 5) X dX6_dependencyOf_5 hk2 hi3 ?_
  refine gd_topI (fun v4 hv4 => ?_)
  have h := h v4 hv4
  refine gd_istore_n (pc := 6) X dX6_dependencyOf_6 (by decide) (E2 := [(3, .int v4), (0, rf a0), (1, .int a1), (2, .int a2)]) rfl ?_
  refine gd_aload_n (pc := 7) X 1 dX6_dependencyOf_7 rfl ?_
  refine gd_getR (pc := 8) (kf := 16) X ci6 (by decide) rfl tw_999 dX6_dependencyOf_8 hk1 ?_
  refine gd_iload_n (pc := 11) X 3 dX6_dependencyOf_11 rfl ?_
  obtain ⟨hi5, h⟩ := h
  refine gd_iald (pc := 12) X dX6_dependencyOf_12 hk2 hi5 ?_
  refine gd_topI (fun v6 hv6 => ?_)
  have h := h v6 hv6
  refine gd_istore (pc := 13) X dX6_dependencyOf_13 (by decide) (E2 := [(4, .int v6), (3, .int v4), (0, rf a0), (1, .int a1), (2, .int a2)]) rfl ?_
  refine gd_iconst (pc := 15) X (0) dX6_dependencyOf_15 (by decide) ?_
  refine gd_istore (pc := 16) X dX6_dependencyOf_16 (by decide) (E2 := [(5, .int 0), (4, .int v6), (3, .int v4), (0, rf a0), (1, .int a1), (2, .int a2)]) rfl ?_
  refine gd_iconst (pc := 18) X (0) dX6_dependencyOf_18 (by decide) ?_
  refine gd_istore (pc := 19) X dX6_dependencyOf_19 (by decide) (E2 := [(6, .int 0), (5, .int 0), (4, .int v6), (3, .int v4), (0, rf a0), (1, .int a1), (2, .int a2)]) rfl ?_
  refine gd_iconst (pc := 21) X (0) dX6_dependencyOf_21 (by decide) ?_
  refine gd_istore (pc := 22) X dX6_dependencyOf_22 (by decide) (E2 := [(7, .int 0), (6, .int 0), (5, .int 0), (4, .int v6), (3, .int v4), (0, rf a0), (1, .int a1), (2, .int a2)]) rfl ?_
  refine gd_iconst (pc := 24) X (0) dX6_dependencyOf_24 (by decide) ?_
  refine gd_istore (pc := 25) X dX6_dependencyOf_25 (by decide) (E2 := [(8, .int 0), (7, .int 0), (6, .int 0), (5, .int 0), (4, .int v6), (3, .int v4), (0, rf a0), (1, .int a1), (2, .int a2)]) rfl ?_
  refine gd_sub [6, 7, 8, 5, 4, 3, 2, 1, 0] rfl ?_
  obtain ⟨f27, h⟩ := h
  exact g27 f27 _ _ _ _ _ _ _ _ _ _ h
abbrev rm_X6_dependency : Room := { frames := 4, cells := 0, slots := 0, locals := 103 }
def b_X6_dependency_51 (post : Int32 → MS → Prop) (S : MS) (l0 : Nat) (l1 : Int32) (l2 : Int32) (s0 : Int32) : Prop := post s0 S
def b_X6_dependency_31 (post : Int32 → MS → Prop) (S : MS) (l0 : Nat) (l1 : Int32) (l2 : Int32) (s0 : Int32) (s1 : Nat) : Prop := kT S s1 = 7 ∧ ∀ S2 : MS, S2 = pI S s1 0 s0 → kT S2 l0 = 7 ∧ ((¬ (sI S2 l0 0) = 0 → b_X6_dependency_51 post S2 l0 l1 l2 0) ∧ ((sI S2 l0 0) = 0 → w_X6_dependencyOf S2 l0 l1 l2 (fun r6 S5 => b_X6_dependency_51 post S5 l0 l1 l2 r6)))
def b_X6_dependency_17 (post : Int32 → MS → Prop) (S : MS) (l0 : Nat) (l1 : Int32) (l2 : Int32) (s0 : Nat) : Prop := b_X6_dependency_31 post S l0 l1 l2 1 s0
def w_X6_dependency (S : MS) (a0 : Nat) (a1 : Int32) (a2 : Int32) (post : Int32 → MS → Prop) : Prop := kT S a0 = 7 ∧ w_X6_isCommit S a0 a1 (fun r3 S2 => ((r3 = 0 → b_X6_dependency_17 post S2 a0 a1 a2 a0) ∧ (¬ r3 = 0 → kT S2 a0 = 7 ∧ w_X6_isCommit S2 a0 a2 (fun r6 S5 => ((¬ r6 = 0 → ((a1 < a2 → b_X6_dependency_31 post S5 a0 a1 a2 0 a0) ∧ (¬ a1 < a2 → b_X6_dependency_31 post S5 a0 a1 a2 2 a0))) ∧ (r6 = 0 → b_X6_dependency_17 post S5 a0 a1 a2 a0))))))
set_option maxHeartbeats 4000000 in
set_option maxRecDepth 100000 in
theorem ct_X6_dependency (l : Launch) (G : GP) (S : MS) (a0 : Nat) (a1 : Int32) (a2 : Int32) (post : Int32 → MS → Prop) (h : w_X6_dependency S a0 a1 a2 post) : MetM l yX6_dependency cX6_dependency 3 (some .int) rm_X6_dependency [rf a0, .int a1, .int a2] G S (pI_ post) := by
  refine met_of (by decide) (cat1_r (cat1_i (cat1_i cat1_n))) (Nat.le_of_ble_eq_true rfl) ?_
  intro p e s m args below meth c X hr hlk hin
  revert h
  have g51 : ∀ (S : MS) (l0 : Nat) (l1 : Int32) (l2 : Int32) (s0 : Int32), b_X6_dependency_51 post S l0 l1 l2 s0 → Gd p l e rm_X6_dependency s m args below meth c 3 G (MQ below (QcM G (pI_ post)) args s rm_X6_dependency.cells rm_X6_dependency.slots (Ab G)) 0 0 S 51 [(0, rf l0), (1, .int l1), (2, .int l2)] [.int s0] := by
    intro S l0 l1 l2 s0 h
    exact (gd_ret_i (pc := 51) X hr hlk rfl (by decide) (by decide) dX6_dependency_51 ⟨_, rfl, h⟩)
  have g31 : ∀ (S : MS) (l0 : Nat) (l1 : Int32) (l2 : Int32) (s0 : Int32) (s1 : Nat), b_X6_dependency_31 post S l0 l1 l2 s0 s1 → Gd p l e rm_X6_dependency s m args below meth c 3 G (MQ below (QcM G (pI_ post)) args s rm_X6_dependency.cells rm_X6_dependency.slots (Ab G)) 0 0 S 31 [(0, rf l0), (1, .int l1), (2, .int l2)] [.int s0, rf s1] := by
    intro S l0 l1 l2 s0 s1 h
    obtain ⟨hk1, h⟩ := h
    refine gd_putI (pc := 31) (kf := 0) X ci6 (by decide) rfl rfl tw_983 rfl rfl dX6_dependency_31 hk1 ?_
    refine gd_topS (fun S2 hS2 => ?_)
    have h := h S2 hS2
    have hk3 : kT S2 s1 = 7 := by rw [hS2]; exact hk1
    refine gd_aload_n (pc := 34) X 0 dX6_dependency_34 rfl ?_
    obtain ⟨hk4, h⟩ := h
    refine gd_getI (pc := 35) (kf := 0) X ci6 (by decide) rfl tw_983 dX6_dependency_35 hk4 ?_
    refine gd_if_ne (pc := 38) X 50 dX6_dependency_38 (by decide) (fun hc7 => ?_) (fun hc7 => ?_)
    · have h := h.1 hc7
      refine gd_iconst (pc := 50) X (0) dX6_dependency_50 (by decide) ?_
      exact g51 _ _ _ _ _ h
    · have h := h.2 hc7
      refine gd_aload_n (pc := 41) X 0 dX6_dependency_41 rfl ?_
      refine gd_iload_n (pc := 42) X 1 dX6_dependency_42 rfl ?_
      refine gd_iload_n (pc := 43) X 2 dX6_dependency_43 rfl ?_
      refine gd_callV (pc := 44) (As := [.int l1, .int l2]) (rest := []) X (ct_X6_dependencyOf l G S2 l0 l1 l2 _ h) mw_X6_dependencyOf tw_1323 ci6 rfl hk4 ⟨(Nat.le_of_ble_eq_true rfl), (Nat.le_of_ble_eq_true rfl)⟩ rfl rfl (Nat.le_of_ble_eq_true rfl) dX6_dependency_44 ⟨Nat.le_of_ble_eq_true rfl, Nat.le_of_ble_eq_true rfl⟩ (kI (fun r6 S5 h => ?_))
      refine gd_wide (k2 := 0) (j2 := 0) (Nat.le_of_ble_eq_true rfl) (Nat.le_of_ble_eq_true rfl) ?_
      refine gd_goto (pc := 47) X 51 dX6_dependency_47 (by decide) ?_
      exact g51 _ _ _ _ _ h
  have g17 : ∀ (S : MS) (l0 : Nat) (l1 : Int32) (l2 : Int32) (s0 : Nat), b_X6_dependency_17 post S l0 l1 l2 s0 → Gd p l e rm_X6_dependency s m args below meth c 3 G (MQ below (QcM G (pI_ post)) args s rm_X6_dependency.cells rm_X6_dependency.slots (Ab G)) 0 0 S 17 [(0, rf l0), (1, .int l1), (2, .int l2)] [rf s0] := by
    intro S l0 l1 l2 s0 h
    refine gd_iconst (pc := 17) X (1) dX6_dependency_17 (by decide) ?_
    refine gd_goto (pc := 18) X 31 dX6_dependency_18 (by decide) ?_
    exact g31 _ _ _ _ _ _ h
  intro h
  refine gd_aload_n (pc := 0) X 0 dX6_dependency_0 rfl ?_
  refine gd_aload_n (pc := 1) X 0 dX6_dependency_1 rfl ?_
  refine gd_iload_n (pc := 2) X 1 dX6_dependency_2 rfl ?_
  obtain ⟨hk1, h⟩ := h
  refine gd_callV (pc := 3) (As := [.int a1]) (rest := [rf a0]) X (ct_X6_isCommit l G S a0 a1 _ h) mw_X6_isCommit tw_1315 ci6 rfl hk1 ⟨(Nat.le_of_ble_eq_true rfl), (Nat.le_of_ble_eq_true rfl)⟩ rfl rfl (Nat.le_of_ble_eq_true rfl) dX6_dependency_3 ⟨Nat.le_of_ble_eq_true rfl, Nat.le_of_ble_eq_true rfl⟩ (kI (fun r3 S2 h => ?_))
  refine gd_wide (k2 := 0) (j2 := 0) (Nat.le_of_ble_eq_true rfl) (Nat.le_of_ble_eq_true rfl) ?_
  refine gd_if_eq (pc := 6) X 17 dX6_dependency_6 (by decide) (fun hc9 => ?_) (fun hc9 => ?_)
  · have h := h.1 hc9
    exact g17 _ _ _ _ _ h
  · have h := h.2 hc9
    refine gd_aload_n (pc := 9) X 0 dX6_dependency_9 rfl ?_
    refine gd_iload_n (pc := 10) X 2 dX6_dependency_10 rfl ?_
    obtain ⟨hk4, h⟩ := h
    refine gd_callV (pc := 11) (As := [.int a2]) (rest := [rf a0]) X (ct_X6_isCommit l G S2 a0 a2 _ h) mw_X6_isCommit tw_1315 ci6 rfl hk4 ⟨(Nat.le_of_ble_eq_true rfl), (Nat.le_of_ble_eq_true rfl)⟩ rfl rfl (Nat.le_of_ble_eq_true rfl) dX6_dependency_11 ⟨Nat.le_of_ble_eq_true rfl, Nat.le_of_ble_eq_true rfl⟩ (kI (fun r6 S5 h => ?_))
    refine gd_wide (k2 := 0) (j2 := 0) (Nat.le_of_ble_eq_true rfl) (Nat.le_of_ble_eq_true rfl) ?_
    refine gd_if_ne (pc := 14) X 21 dX6_dependency_14 (by decide) (fun hc8 => ?_) (fun hc8 => ?_)
    · have h := h.1 hc8
      refine gd_iload_n (pc := 21) X 1 dX6_dependency_21 rfl ?_
      refine gd_iload_n (pc := 22) X 2 dX6_dependency_22 rfl ?_
      refine gd_icmp_lt (pc := 23) X 30 dX6_dependency_23 (by decide) (fun hc7 => ?_) (fun hc7 => ?_)
      · have h := h.1 hc7
        refine gd_iconst (pc := 30) X (0) dX6_dependency_30 (by decide) ?_
        exact g31 _ _ _ _ _ _ h
      · have h := h.2 hc7
        refine gd_iconst (pc := 26) X (2) dX6_dependency_26 (by decide) ?_
        refine gd_goto (pc := 27) X 31 dX6_dependency_27 (by decide) ?_
        exact g31 _ _ _ _ _ _ h
    · have h := h.2 hc8
      exact g17 _ _ _ _ _ h
abbrev rm_X6_longestChain : Room := { frames := 4, cells := 0, slots := 0, locals := 103 }
def b_X6_longestChain_71 (KH9 : MS → Nat → Int32 → Int32 → Prop) (KH26 : MS → Nat → Int32 → Int32 → Int32 → Prop) (post : Int32 → MS → Prop) (S : MS) (l0 : Nat) (l1 : Int32) (l2 : Int32) (l3 : Int32) : Prop := ∀ v1 : Int32, v1 = l3 + 1 → KH26 S l0 l1 l2 v1
def b_X6_longestChain_26 (KH9 : MS → Nat → Int32 → Int32 → Prop) (post : Int32 → MS → Prop) : Nat → MS → Nat → Int32 → Int32 → Int32 → Prop
  | 0 => fun _ _ _ _ _ => False
  | f + 1 => fun S l0 l1 l2 l3 => ((l2 ≤ l3 → kT S l0 = 7 ∧ kT S (sR S l0 22) = 9 ∧ vp_in l2 (kL S (sR S l0 22)) ∧ ∀ v4 : Int32, v4 = (if l1 < (sI S (sR S l0 22) (ix l2)) then (sI S (sR S l0 22) (ix l2)) else l1) → ∀ v5 : Int32, v5 = l2 + 1 → KH9 S l0 v4 v5) ∧ (¬ l2 ≤ l3 → kT S l0 = 7 ∧ kT S (sR S l0 22) = 9 ∧ vp_in l3 (kL S (sR S l0 22)) ∧ vp_in l2 (kL S (sR S l0 22)) ∧ ((((sI S (sR S l0 22) (ix l3)) + 1) ≤ (sI S (sR S l0 22) (ix l2)) → b_X6_longestChain_71 KH9 (b_X6_longestChain_26 KH9 post f) post S l0 l1 l2 l3) ∧ (¬ ((sI S (sR S l0 22) (ix l3)) + 1) ≤ (sI S (sR S l0 22) (ix l2)) → w_X6_dependencyOf S l0 l3 l2 (fun r11 S10 => ((r11 = 0 → b_X6_longestChain_71 KH9 (b_X6_longestChain_26 KH9 post f) post S10 l0 l1 l2 l3) ∧ (¬ r11 = 0 → kT S10 l0 = 7 ∧ kT S10 (sR S10 l0 22) = 9 ∧ vp_in l3 (kL S10 (sR S10 l0 22)) ∧ vp_in l2 (kL S10 (sR S10 l0 22)) ∧ ∀ S16 : MS, S16 = pI S10 (sR S10 l0 22) (ix l2) ((sI S10 (sR S10 l0 22) (ix l3)) + 1) → b_X6_longestChain_71 KH9 (b_X6_longestChain_26 KH9 post f) post S16 l0 l1 l2 l3)))))))
def b_X6_longestChain_9 (post : Int32 → MS → Prop) : Nat → MS → Nat → Int32 → Int32 → Prop
  | 0 => fun _ _ _ _ => False
  | f + 1 => fun S l0 l1 l2 => kT S l0 = 7 ∧ (((sI S l0 14) < l2 → post l1 S) ∧ (¬ (sI S l0 14) < l2 → kT S (sR S l0 22) = 9 ∧ vp_in l2 (kL S (sR S l0 22)) ∧ ∀ S4 : MS, S4 = pI S (sR S l0 22) (ix l2) 1 → ∃ f26, b_X6_longestChain_26 (b_X6_longestChain_9 post f) post f26 S4 l0 l1 l2 1))
def w_X6_longestChain (S : MS) (a0 : Nat) (post : Int32 → MS → Prop) : Prop := kT S a0 = 7 ∧ ∀ S2 : MS, S2 = pI S a0 0 0 → ∃ f9, b_X6_longestChain_9 post f9 S2 a0 0 1
set_option maxHeartbeats 4000000 in
set_option maxRecDepth 100000 in
theorem ct_X6_longestChain (l : Launch) (G : GP) (S : MS) (a0 : Nat) (post : Int32 → MS → Prop) (h : w_X6_longestChain S a0 post) : MetM l yX6_longestChain cX6_longestChain 4 (some .int) rm_X6_longestChain [rf a0] G S (pI_ post) := by
  refine met_of (by decide) (cat1_r cat1_n) (Nat.le_of_ble_eq_true rfl) ?_
  intro p e s m args below meth c X hr hlk hin
  revert h
  have g71 : ∀ (KH9 : MS → Nat → Int32 → Int32 → Prop) (hKH9 : ∀ (S : MS) (l0 : Nat) (l1 : Int32) (l2 : Int32), KH9 S l0 l1 l2 → Gd p l e rm_X6_longestChain s m args below meth c 4 G (MQ below (QcM G (pI_ post)) args s rm_X6_longestChain.cells rm_X6_longestChain.slots (Ab G)) 0 0 S 9 [(0, rf l0), (1, .int l1), (2, .int l2)] []) (KH26 : MS → Nat → Int32 → Int32 → Int32 → Prop) (hKH26 : ∀ (S : MS) (l0 : Nat) (l1 : Int32) (l2 : Int32) (l3 : Int32), KH26 S l0 l1 l2 l3 → Gd p l e rm_X6_longestChain s m args below meth c 4 G (MQ below (QcM G (pI_ post)) args s rm_X6_longestChain.cells rm_X6_longestChain.slots (Ab G)) 0 0 S 26 [(0, rf l0), (1, .int l1), (2, .int l2), (3, .int l3)] []) (S : MS) (l0 : Nat) (l1 : Int32) (l2 : Int32) (l3 : Int32), b_X6_longestChain_71 KH9 KH26 post S l0 l1 l2 l3 → Gd p l e rm_X6_longestChain s m args below meth c 4 G (MQ below (QcM G (pI_ post)) args s rm_X6_longestChain.cells rm_X6_longestChain.slots (Ab G)) 0 0 S 71 [(0, rf l0), (1, .int l1), (2, .int l2), (3, .int l3)] [] := by
    intro KH9 hKH9 KH26 hKH26 S l0 l1 l2 l3 h
    obtain ⟨v1, hv1⟩ : ∃ z : Int32, z = l3 + 1 := ⟨_, rfl⟩
    have h := h v1 hv1
    refine gd_iinc (pc := 71) (v := v1) X 3 dX6_longestChain_71 rfl (by rw [hv1]; rfl) (by decide) (E2 := [(3, .int v1), (0, rf l0), (1, .int l1), (2, .int l2)]) rfl ?_
    refine gd_goto (pc := 74) X 26 dX6_longestChain_74 (by decide) ?_
    refine gd_sub [1, 2, 3, 0] rfl ?_
    exact hKH26 _ _ _ _ _ h
  have g26 : ∀ (KH9 : MS → Nat → Int32 → Int32 → Prop) (hKH9 : ∀ (S : MS) (l0 : Nat) (l1 : Int32) (l2 : Int32), KH9 S l0 l1 l2 → Gd p l e rm_X6_longestChain s m args below meth c 4 G (MQ below (QcM G (pI_ post)) args s rm_X6_longestChain.cells rm_X6_longestChain.slots (Ab G)) 0 0 S 9 [(0, rf l0), (1, .int l1), (2, .int l2)] []) (f : Nat) (S : MS) (l0 : Nat) (l1 : Int32) (l2 : Int32) (l3 : Int32), b_X6_longestChain_26 KH9 post f S l0 l1 l2 l3 → Gd p l e rm_X6_longestChain s m args below meth c 4 G (MQ below (QcM G (pI_ post)) args s rm_X6_longestChain.cells rm_X6_longestChain.slots (Ab G)) 0 0 S 26 [(0, rf l0), (1, .int l1), (2, .int l2), (3, .int l3)] [] := by
    intro KH9 hKH9
    intro f
    induction f with
    | zero => intro S l0 l1 l2 l3 h; exact h.elim
    | succ f ih =>
      intro S l0 l1 l2 l3 h
      refine gd_iload_n (pc := 26) X 3 dX6_longestChain_26 rfl ?_
      refine gd_iload_n (pc := 27) X 2 dX6_longestChain_27 rfl ?_
      refine gd_icmp_ge (pc := 28) X 77 dX6_longestChain_28 (by decide) (fun hc21 => ?_) (fun hc21 => ?_)
      · have h := h.1 hc21
        refine gd_iload_n (pc := 77) X 1 dX6_longestChain_77 rfl ?_
        refine gd_aload_n (pc := 78) X 0 dX6_longestChain_78 rfl ?_
        obtain ⟨hk1, h⟩ := h
        refine gd_getR (pc := 79) (kf := 22) X ci6 (by decide) rfl tw_1005 dX6_longestChain_79 hk1 ?_
        refine gd_iload_n (pc := 82) X 2 dX6_longestChain_82 rfl ?_
        obtain ⟨hk2, h⟩ := h
        obtain ⟨hi3, h⟩ := h
        refine gd_iald (pc := 83) X dX6_longestChain_83 hk2 hi3 ?_
        refine gd_max (pc := 84) X tw_1331 mx_1 mx_2 mx_3 dX6_longestChain_84 ⟨(Nat.le_of_ble_eq_true rfl), (Nat.le_of_ble_eq_true rfl), (Nat.le_of_ble_eq_true rfl), (Nat.le_of_ble_eq_true rfl)⟩ (Nat.le_of_ble_eq_true rfl) ?_
        refine gd_topI (fun v4 hv4 => ?_)
        have h := h v4 hv4
        refine gd_istore_n (pc := 87) X dX6_longestChain_87 (by decide) (E2 := [(1, .int v4), (0, rf l0), (2, .int l2), (3, .int l3)]) (by simp [rf_cat, lv1, int_cat] <;> decide) ?_
        obtain ⟨v5, hv5⟩ : ∃ z : Int32, z = l2 + 1 := ⟨_, rfl⟩
        have h := h v5 hv5
        refine gd_iinc (pc := 88) (v := v5) X 2 dX6_longestChain_88 rfl (by rw [hv5]; rfl) (by decide) (E2 := [(2, .int v5), (1, .int v4), (0, rf l0), (3, .int l3)]) rfl ?_
        refine gd_goto (pc := 91) X 9 dX6_longestChain_91 (by decide) ?_
        refine gd_sub [2, 1, 0] rfl ?_
        exact hKH9 _ _ _ _ h
      · have h := h.2 hc21
        refine gd_aload_n (pc := 31) X 0 dX6_longestChain_31 rfl ?_
        obtain ⟨hk6, h⟩ := h
        refine gd_getR (pc := 32) (kf := 22) X ci6 (by decide) rfl tw_1005 dX6_longestChain_32 hk6 ?_
        refine gd_iload_n (pc := 35) X 3 dX6_longestChain_35 rfl ?_
        obtain ⟨hk7, h⟩ := h
        obtain ⟨hi8, h⟩ := h
        refine gd_iald (pc := 36) X dX6_longestChain_36 hk7 hi8 ?_
        refine gd_iconst (pc := 37) X (1) dX6_longestChain_37 (by decide) ?_
        refine gd_iadd (pc := 38) X dX6_longestChain_38 ?_
        refine gd_aload_n (pc := 39) X 0 dX6_longestChain_39 rfl ?_
        refine gd_getR (pc := 40) (kf := 22) X ci6 (by decide) rfl tw_1005 dX6_longestChain_40 hk6 ?_
        refine gd_iload_n (pc := 43) X 2 dX6_longestChain_43 rfl ?_
        obtain ⟨hi9, h⟩ := h
        refine gd_iald (pc := 44) X dX6_longestChain_44 hk7 hi9 ?_
        refine gd_icmp_le (pc := 45) X 71 dX6_longestChain_45 (by decide) (fun hc20 => ?_) (fun hc20 => ?_)
        · have h := h.1 hc20
          exact g71 _ hKH9 _ ih _ _ _ _ _ h
        · have h := h.2 hc20
          refine gd_aload_n (pc := 48) X 0 dX6_longestChain_48 rfl ?_
          refine gd_iload_n (pc := 49) X 3 dX6_longestChain_49 rfl ?_
          refine gd_iload_n (pc := 50) X 2 dX6_longestChain_50 rfl ?_
          refine gd_callV (pc := 51) (As := [.int l3, .int l2]) (rest := []) X (ct_X6_dependencyOf l G S l0 l3 l2 _ h) mw_X6_dependencyOf tw_1323 ci6 rfl hk6 ⟨(Nat.le_of_ble_eq_true rfl), (Nat.le_of_ble_eq_true rfl)⟩ rfl rfl (Nat.le_of_ble_eq_true rfl) dX6_longestChain_51 ⟨Nat.le_of_ble_eq_true rfl, Nat.le_of_ble_eq_true rfl⟩ (kI (fun r11 S10 h => ?_))
          refine gd_wide (k2 := 0) (j2 := 0) (Nat.le_of_ble_eq_true rfl) (Nat.le_of_ble_eq_true rfl) ?_
          refine gd_if_eq (pc := 54) X 71 dX6_longestChain_54 (by decide) (fun hc19 => ?_) (fun hc19 => ?_)
          · have h := h.1 hc19
            exact g71 _ hKH9 _ ih _ _ _ _ _ h
          · have h := h.2 hc19
            refine gd_aload_n (pc := 57) X 0 dX6_longestChain_57 rfl ?_
            obtain ⟨hk12, h⟩ := h
            refine gd_getR (pc := 58) (kf := 22) X ci6 (by decide) rfl tw_1005 dX6_longestChain_58 hk12 ?_
            refine gd_iload_n (pc := 61) X 2 dX6_longestChain_61 rfl ?_
            refine gd_aload_n (pc := 62) X 0 dX6_longestChain_62 rfl ?_
            refine gd_getR (pc := 63) (kf := 22) X ci6 (by decide) rfl tw_1005 dX6_longestChain_63 hk12 ?_
            refine gd_iload_n (pc := 66) X 3 dX6_longestChain_66 rfl ?_
            obtain ⟨hk13, h⟩ := h
            obtain ⟨hi14, h⟩ := h
            refine gd_iald (pc := 67) X dX6_longestChain_67 hk13 hi14 ?_
            refine gd_iconst (pc := 68) X (1) dX6_longestChain_68 (by decide) ?_
            refine gd_iadd (pc := 69) X dX6_longestChain_69 ?_
            obtain ⟨hi15, h⟩ := h
            refine gd_iast (pc := 70) X dX6_longestChain_70 hk13 hi15 ?_
            refine gd_topS (fun S16 hS16 => ?_)
            have h := h S16 hS16
            have hk17 : kT S16 l0 = 7 := by rw [hS16]; exact hk12
            have hk18 : kT S16 (sR S10 l0 22) = 9 := by rw [hS16]; exact hk13
            exact g71 _ hKH9 _ ih _ _ _ _ _ h
  have g9 : ∀ (f : Nat) (S : MS) (l0 : Nat) (l1 : Int32) (l2 : Int32), b_X6_longestChain_9 post f S l0 l1 l2 → Gd p l e rm_X6_longestChain s m args below meth c 4 G (MQ below (QcM G (pI_ post)) args s rm_X6_longestChain.cells rm_X6_longestChain.slots (Ab G)) 0 0 S 9 [(0, rf l0), (1, .int l1), (2, .int l2)] [] := by
    intro f
    induction f with
    | zero => intro S l0 l1 l2 h; exact h.elim
    | succ f ih =>
      intro S l0 l1 l2 h
      refine gd_iload_n (pc := 9) X 2 dX6_longestChain_9 rfl ?_
      refine gd_aload_n (pc := 10) X 0 dX6_longestChain_10 rfl ?_
      obtain ⟨hk1, h⟩ := h
      refine gd_getI (pc := 11) (kf := 14) X ci6 (by decide) rfl tw_997 dX6_longestChain_11 hk1 ?_
      refine gd_icmp_gt (pc := 14) X 94 dX6_longestChain_14 (by decide) (fun hc7 => ?_) (fun hc7 => ?_)
      · have h := h.1 hc7
        refine gd_iload_n (pc := 94) X 1 dX6_longestChain_94 rfl ?_
        exact (gd_ret_i (pc := 95) X hr hlk rfl (by decide) (by decide) dX6_longestChain_95 ⟨_, rfl, h⟩)
      · have h := h.2 hc7
        refine gd_aload_n (pc := 17) X 0 dX6_longestChain_17 rfl ?_
        refine gd_getR (pc := 18) (kf := 22) X ci6 (by decide) rfl tw_1005 dX6_longestChain_18 hk1 ?_
        refine gd_iload_n (pc := 21) X 2 dX6_longestChain_21 rfl ?_
        refine gd_iconst (pc := 22) X (1) dX6_longestChain_22 (by decide) ?_
        obtain ⟨hk2, h⟩ := h
        obtain ⟨hi3, h⟩ := h
        refine gd_iast (pc := 23) X dX6_longestChain_23 hk2 hi3 ?_
        refine gd_topS (fun S4 hS4 => ?_)
        have h := h S4 hS4
        have hk5 : kT S4 l0 = 7 := by rw [hS4]; exact hk1
        have hk6 : kT S4 (sR S l0 22) = 9 := by rw [hS4]; exact hk2
        refine gd_iconst (pc := 24) X (1) dX6_longestChain_24 (by decide) ?_
        refine gd_istore_n (pc := 25) X dX6_longestChain_25 (by decide) (E2 := [(3, .int 1), (0, rf l0), (1, .int l1), (2, .int l2)]) rfl ?_
        refine gd_sub [1, 2, 3, 0] rfl ?_
        obtain ⟨f26, h⟩ := h
        exact g26 _ ih f26 _ _ _ _ _ h
  intro h
  refine gd_aload_n (pc := 0) X 0 dX6_longestChain_0 rfl ?_
  refine gd_iconst (pc := 1) X (0) dX6_longestChain_1 (by decide) ?_
  obtain ⟨hk1, h⟩ := h
  refine gd_putI (pc := 2) (kf := 0) X ci6 (by decide) rfl rfl tw_983 rfl rfl dX6_longestChain_2 hk1 ?_
  refine gd_topS (fun S2 hS2 => ?_)
  have h := h S2 hS2
  have hk3 : kT S2 a0 = 7 := by rw [hS2]; exact hk1
  refine gd_iconst (pc := 5) X (0) dX6_longestChain_5 (by decide) ?_
  refine gd_istore_n (pc := 6) X dX6_longestChain_6 (by decide) (E2 := [(1, .int 0), (0, rf a0)]) (by simp [rf_cat, lv1, int_cat] <;> decide) ?_
  refine gd_iconst (pc := 7) X (1) dX6_longestChain_7 (by decide) ?_
  refine gd_istore_n (pc := 8) X dX6_longestChain_8 (by decide) (E2 := [(2, .int 1), (1, .int 0), (0, rf a0)]) rfl ?_
  refine gd_sub [2, 1, 0] rfl ?_
  obtain ⟨f9, h⟩ := h
  exact g9 f9 _ _ _ _ h
abbrev rm_X6_again : Room := { frames := 1, cells := 0, slots := 0, locals := 22 }
def b_X6_again_148 (KH116 : MS → Nat → Int32 → Int32 → Int32 → Int32 → Int32 → Prop) (post : Int32 → MS → Prop) (S : MS) (l0 : Nat) (l1 : Int32) (l2 : Int32) (l3 : Int32) (l4 : Int32) (l5 : Int32) (s0 : Int32) (s1 : Int32) : Prop := ∀ v1 : Int32, v1 = s1 + s0 → ∀ v2 : Int32, v2 = l5 + 1 → KH116 S l0 l1 l2 l3 v1 v2
def b_X6_again_116 (post : Int32 → MS → Prop) : Nat → MS → Nat → Int32 → Int32 → Int32 → Int32 → Int32 → Prop
  | 0 => fun _ _ _ _ _ _ _ => False
  | f + 1 => fun S l0 l1 l2 l3 l4 l5 => ((l3 < l5 → post l4 S) ∧ (¬ l3 < l5 → kT S l0 = 7 ∧ kT S (sR S l0 23) = 9 ∧ vp_in l5 (kL S (sR S l0 23)) ∧ ((¬ (sI S (sR S l0 23) (ix l5)) = ((-1000)) → vp_in l5 (kL S (sR S l0 23)) ∧ b_X6_again_148 (b_X6_again_116 post f) post S l0 l1 l2 l3 l4 l5 (sI S (sR S l0 23) (ix l5)) l4) ∧ ((sI S (sR S l0 23) (ix l5)) = ((-1000)) → b_X6_again_148 (b_X6_again_116 post f) post S l0 l1 l2 l3 l4 l5 0 l4))))
def b_X6_again_101 (KH70 : MS → Nat → Int32 → Int32 → Int32 → Int32 → Int32 → Prop) (post : Int32 → MS → Prop) (S : MS) (l0 : Nat) (l1 : Int32) (l2 : Int32) (l3 : Int32) (l4 : Int32) (l5 : Int32) (s0 : Int32) (s1 : Int32) : Prop := ∀ v1 : Int32, v1 = s1 + s0 → ∀ v2 : Int32, v2 = l5 + 1 → KH70 S l0 l1 l2 l3 v1 v2
def b_X6_again_70 (post : Int32 → MS → Prop) : Nat → MS → Nat → Int32 → Int32 → Int32 → Int32 → Int32 → Prop
  | 0 => fun _ _ _ _ _ _ _ => False
  | f + 1 => fun S l0 l1 l2 l3 l4 l5 => ((l3 < l5 → post l4 S) ∧ (¬ l3 < l5 → kT S l0 = 7 ∧ kT S (sR S l0 23) = 9 ∧ vp_in l5 (kL S (sR S l0 23)) ∧ kT S (sR S l0 8) = 9 ∧ vp_in (l1 + 3) (kL S (sR S l0 8)) ∧ (((sI S (sR S l0 23) (ix l5)) < (sI S (sR S l0 8) (ix (l1 + 3))) → b_X6_again_101 (b_X6_again_70 post f) post S l0 l1 l2 l3 l4 l5 0 l4) ∧ (¬ (sI S (sR S l0 23) (ix l5)) < (sI S (sR S l0 8) (ix (l1 + 3))) → b_X6_again_101 (b_X6_again_70 post f) post S l0 l1 l2 l3 l4 l5 1 l4))))
def w_X6_again (S : MS) (a0 : Nat) (a1 : Int32) (post : Int32 → MS → Prop) : Prop := kT S a0 = 7 ∧ kT S (sR S a0 8) = 9 ∧ vp_in (a1 + 1) (kL S (sR S a0 8)) ∧ ∀ v4 : Int32, v4 = sI S (sR S a0 8) (ix (a1 + 1)) → vp_in (a1 + 2) (kL S (sR S a0 8)) ∧ ∀ v6 : Int32, v6 = sI S (sR S a0 8) (ix (a1 + 2)) → vp_in a1 (kL S (sR S a0 8)) ∧ (((sI S (sR S a0 8) (ix a1)).toInt = 0 → kT S (sR S a0 23) = 9 ∧ vp_in v4 (kL S (sR S a0 23)) ∧ post (sI S (sR S a0 23) (ix v4)) S) ∧ ((sI S (sR S a0 8) (ix a1)).toInt = 1 → ∃ f70, b_X6_again_70 post f70 S a0 a1 v4 v6 0 v4) ∧ ((sI S (sR S a0 8) (ix a1)).toInt = 2 → ∃ f116, b_X6_again_116 post f116 S a0 a1 v4 v6 0 v4) ∧ ((sI S (sR S a0 8) (ix a1)).toInt = 3 → kT S (sR S a0 23) = 9 ∧ vp_in v4 (kL S (sR S a0 23)) ∧ ∀ S12 : MS, S12 = pI S (sR S a0 23) (ix v4) v6 → post 0 S12) ∧ ((sI S (sR S a0 8) (ix a1)).toInt = 4 → kT S (sR S a0 23) = 9 ∧ vp_in v4 (kL S (sR S a0 23)) ∧ ∀ S18 : MS, S18 = pI S (sR S a0 23) (ix v4) ((-1000)) → post 0 S18) ∧ ((sI S (sR S a0 8) (ix a1)).toInt < 0 ∨ 4 < (sI S (sR S a0 8) (ix a1)).toInt → kT S (sR S a0 23) = 9 ∧ vp_in v4 (kL S (sR S a0 23)) ∧ w_X6_addedTo S a0 (sI S (sR S a0 23) (ix v4)) v6 (fun r25 S24 => kT S24 (sR S a0 23) = 9 ∧ vp_in v4 (kL S24 (sR S a0 23)) ∧ ∀ S28 : MS, S28 = pI S24 (sR S a0 23) (ix v4) r25 → kT S28 a0 = 7 ∧ kT S28 (sR S28 a0 23) = 9 ∧ vp_in v4 (kL S28 (sR S28 a0 23)) ∧ post (sI S28 (sR S28 a0 23) (ix v4)) S28)))
set_option maxHeartbeats 4000000 in
set_option maxRecDepth 100000 in
theorem ct_X6_again (l : Launch) (G : GP) (S : MS) (a0 : Nat) (a1 : Int32) (post : Int32 → MS → Prop) (h : w_X6_again S a0 a1 post) : MetM l yX6_again cX6_again 6 (some .int) rm_X6_again [rf a0, .int a1] G S (pI_ post) := by
  refine met_of (by decide) (cat1_r (cat1_i cat1_n)) (Nat.le_of_ble_eq_true rfl) ?_
  intro p e s m args below meth c X hr hlk hin
  revert h
  have g148 : ∀ (KH116 : MS → Nat → Int32 → Int32 → Int32 → Int32 → Int32 → Prop) (hKH116 : ∀ (S : MS) (l0 : Nat) (l1 : Int32) (l2 : Int32) (l3 : Int32) (l4 : Int32) (l5 : Int32), KH116 S l0 l1 l2 l3 l4 l5 → Gd p l e rm_X6_again s m args below meth c 6 G (MQ below (QcM G (pI_ post)) args s rm_X6_again.cells rm_X6_again.slots (Ab G)) 0 0 S 116 [(0, rf l0), (1, .int l1), (2, .int l2), (3, .int l3), (4, .int l4), (5, .int l5)] []) (S : MS) (l0 : Nat) (l1 : Int32) (l2 : Int32) (l3 : Int32) (l4 : Int32) (l5 : Int32) (s0 : Int32) (s1 : Int32), b_X6_again_148 KH116 post S l0 l1 l2 l3 l4 l5 s0 s1 → Gd p l e rm_X6_again s m args below meth c 6 G (MQ below (QcM G (pI_ post)) args s rm_X6_again.cells rm_X6_again.slots (Ab G)) 0 0 S 148 [(0, rf l0), (1, .int l1), (2, .int l2), (3, .int l3), (4, .int l4), (5, .int l5)] [.int s0, .int s1] := by
    intro KH116 hKH116 S l0 l1 l2 l3 l4 l5 s0 s1 h
    refine gd_iadd (pc := 148) X dX6_again_148 ?_
    refine gd_topI (fun v1 hv1 => ?_)
    have h := h v1 hv1
    refine gd_istore (pc := 149) X dX6_again_149 (by decide) (E2 := [(4, .int v1), (0, rf l0), (1, .int l1), (2, .int l2), (3, .int l3), (5, .int l5)]) rfl ?_
    obtain ⟨v2, hv2⟩ : ∃ z : Int32, z = l5 + 1 := ⟨_, rfl⟩
    have h := h v2 hv2
    refine gd_iinc (pc := 151) (v := v2) X 5 dX6_again_151 rfl (by rw [hv2]; rfl) (by decide) (E2 := [(5, .int v2), (4, .int v1), (0, rf l0), (1, .int l1), (2, .int l2), (3, .int l3)]) rfl ?_
    refine gd_goto (pc := 154) X 116 dX6_again_154 (by decide) ?_
    refine gd_sub [2, 3, 4, 5, 1, 0] rfl ?_
    exact hKH116 _ _ _ _ _ _ _ h
  have g116 : ∀ (f : Nat) (S : MS) (l0 : Nat) (l1 : Int32) (l2 : Int32) (l3 : Int32) (l4 : Int32) (l5 : Int32), b_X6_again_116 post f S l0 l1 l2 l3 l4 l5 → Gd p l e rm_X6_again s m args below meth c 6 G (MQ below (QcM G (pI_ post)) args s rm_X6_again.cells rm_X6_again.slots (Ab G)) 0 0 S 116 [(0, rf l0), (1, .int l1), (2, .int l2), (3, .int l3), (4, .int l4), (5, .int l5)] [] := by
    intro f
    induction f with
    | zero => intro S l0 l1 l2 l3 l4 l5 h; exact h.elim
    | succ f ih =>
      intro S l0 l1 l2 l3 l4 l5 h
      refine gd_iload (pc := 116) X 5 dX6_again_116 rfl ?_
      refine gd_iload_n (pc := 118) X 3 dX6_again_118 rfl ?_
      refine gd_icmp_gt (pc := 119) X 157 dX6_again_119 (by decide) (fun hc6 => ?_) (fun hc6 => ?_)
      · have h := h.1 hc6
        refine gd_iload (pc := 157) X 4 dX6_again_157 rfl ?_
        exact (gd_ret_i (pc := 159) X hr hlk rfl (by decide) (by decide) dX6_again_159 ⟨_, rfl, h⟩)
      · have h := h.2 hc6
        refine gd_iload (pc := 122) X 4 dX6_again_122 rfl ?_
        refine gd_aload_n (pc := 124) X 0 dX6_again_124 rfl ?_
        obtain ⟨hk1, h⟩ := h
        refine gd_getR (pc := 125) (kf := 23) X ci6 (by decide) rfl tw_1006 dX6_again_125 hk1 ?_
        refine gd_iload (pc := 128) X 5 dX6_again_128 rfl ?_
        obtain ⟨hk2, h⟩ := h
        obtain ⟨hi3, h⟩ := h
        refine gd_iald (pc := 130) X dX6_again_130 hk2 hi3 ?_
        refine gd_sipush (pc := 131) X (-1000) dX6_again_131 (by decide) ?_
        refine gd_icmp_ne (pc := 134) X 141 dX6_again_134 (by decide) (fun hc5 => ?_) (fun hc5 => ?_)
        · have h := h.1 hc5
          refine gd_aload_n (pc := 141) X 0 dX6_again_141 rfl ?_
          refine gd_getR (pc := 142) (kf := 23) X ci6 (by decide) rfl tw_1006 dX6_again_142 hk1 ?_
          refine gd_iload (pc := 145) X 5 dX6_again_145 rfl ?_
          obtain ⟨hi4, h⟩ := h
          refine gd_iald (pc := 147) X dX6_again_147 hk2 hi4 ?_
          exact g148 _ ih _ _ _ _ _ _ _ _ _ h
        · have h := h.2 hc5
          refine gd_iconst (pc := 137) X (0) dX6_again_137 (by decide) ?_
          refine gd_goto (pc := 138) X 148 dX6_again_138 (by decide) ?_
          exact g148 _ ih _ _ _ _ _ _ _ _ _ h
  have g101 : ∀ (KH70 : MS → Nat → Int32 → Int32 → Int32 → Int32 → Int32 → Prop) (hKH70 : ∀ (S : MS) (l0 : Nat) (l1 : Int32) (l2 : Int32) (l3 : Int32) (l4 : Int32) (l5 : Int32), KH70 S l0 l1 l2 l3 l4 l5 → Gd p l e rm_X6_again s m args below meth c 6 G (MQ below (QcM G (pI_ post)) args s rm_X6_again.cells rm_X6_again.slots (Ab G)) 0 0 S 70 [(0, rf l0), (1, .int l1), (2, .int l2), (3, .int l3), (4, .int l4), (5, .int l5)] []) (S : MS) (l0 : Nat) (l1 : Int32) (l2 : Int32) (l3 : Int32) (l4 : Int32) (l5 : Int32) (s0 : Int32) (s1 : Int32), b_X6_again_101 KH70 post S l0 l1 l2 l3 l4 l5 s0 s1 → Gd p l e rm_X6_again s m args below meth c 6 G (MQ below (QcM G (pI_ post)) args s rm_X6_again.cells rm_X6_again.slots (Ab G)) 0 0 S 101 [(0, rf l0), (1, .int l1), (2, .int l2), (3, .int l3), (4, .int l4), (5, .int l5)] [.int s0, .int s1] := by
    intro KH70 hKH70 S l0 l1 l2 l3 l4 l5 s0 s1 h
    refine gd_iadd (pc := 101) X dX6_again_101 ?_
    refine gd_topI (fun v1 hv1 => ?_)
    have h := h v1 hv1
    refine gd_istore (pc := 102) X dX6_again_102 (by decide) (E2 := [(4, .int v1), (0, rf l0), (1, .int l1), (2, .int l2), (3, .int l3), (5, .int l5)]) rfl ?_
    obtain ⟨v2, hv2⟩ : ∃ z : Int32, z = l5 + 1 := ⟨_, rfl⟩
    have h := h v2 hv2
    refine gd_iinc (pc := 104) (v := v2) X 5 dX6_again_104 rfl (by rw [hv2]; rfl) (by decide) (E2 := [(5, .int v2), (4, .int v1), (0, rf l0), (1, .int l1), (2, .int l2), (3, .int l3)]) rfl ?_
    refine gd_goto (pc := 107) X 70 dX6_again_107 (by decide) ?_
    refine gd_sub [2, 3, 4, 5, 1, 0] rfl ?_
    exact hKH70 _ _ _ _ _ _ _ h
  have g70 : ∀ (f : Nat) (S : MS) (l0 : Nat) (l1 : Int32) (l2 : Int32) (l3 : Int32) (l4 : Int32) (l5 : Int32), b_X6_again_70 post f S l0 l1 l2 l3 l4 l5 → Gd p l e rm_X6_again s m args below meth c 6 G (MQ below (QcM G (pI_ post)) args s rm_X6_again.cells rm_X6_again.slots (Ab G)) 0 0 S 70 [(0, rf l0), (1, .int l1), (2, .int l2), (3, .int l3), (4, .int l4), (5, .int l5)] [] := by
    intro f
    induction f with
    | zero => intro S l0 l1 l2 l3 l4 l5 h; exact h.elim
    | succ f ih =>
      intro S l0 l1 l2 l3 l4 l5 h
      refine gd_iload (pc := 70) X 5 dX6_again_70 rfl ?_
      refine gd_iload_n (pc := 72) X 3 dX6_again_72 rfl ?_
      refine gd_icmp_gt (pc := 73) X 110 dX6_again_73 (by decide) (fun hc7 => ?_) (fun hc7 => ?_)
      · have h := h.1 hc7
        refine gd_iload (pc := 110) X 4 dX6_again_110 rfl ?_
        exact (gd_ret_i (pc := 112) X hr hlk rfl (by decide) (by decide) dX6_again_112 ⟨_, rfl, h⟩)
      · have h := h.2 hc7
        refine gd_iload (pc := 76) X 4 dX6_again_76 rfl ?_
        refine gd_aload_n (pc := 78) X 0 dX6_again_78 rfl ?_
        obtain ⟨hk1, h⟩ := h
        refine gd_getR (pc := 79) (kf := 23) X ci6 (by decide) rfl tw_1006 dX6_again_79 hk1 ?_
        refine gd_iload (pc := 82) X 5 dX6_again_82 rfl ?_
        obtain ⟨hk2, h⟩ := h
        obtain ⟨hi3, h⟩ := h
        refine gd_iald (pc := 84) X dX6_again_84 hk2 hi3 ?_
        refine gd_aload_n (pc := 85) X 0 dX6_again_85 rfl ?_
        refine gd_getR (pc := 86) (kf := 8) X ci6 (by decide) rfl tw_991 dX6_again_86 hk1 ?_
        refine gd_iload_n (pc := 89) X 1 dX6_again_89 rfl ?_
        refine gd_iconst (pc := 90) X (3) dX6_again_90 (by decide) ?_
        refine gd_iadd (pc := 91) X dX6_again_91 ?_
        obtain ⟨hk4, h⟩ := h
        obtain ⟨hi5, h⟩ := h
        refine gd_iald (pc := 92) X dX6_again_92 hk4 hi5 ?_
        refine gd_icmp_lt (pc := 93) X 100 dX6_again_93 (by decide) (fun hc6 => ?_) (fun hc6 => ?_)
        · have h := h.1 hc6
          refine gd_iconst (pc := 100) X (0) dX6_again_100 (by decide) ?_
          exact g101 _ ih _ _ _ _ _ _ _ _ _ h
        · have h := h.2 hc6
          refine gd_iconst (pc := 96) X (1) dX6_again_96 (by decide) ?_
          refine gd_goto (pc := 97) X 101 dX6_again_97 (by decide) ?_
          exact g101 _ ih _ _ _ _ _ _ _ _ _ h
  intro h
  refine gd_aload_n (pc := 0) X 0 dX6_again_0 rfl ?_
  obtain ⟨hk1, h⟩ := h
  refine gd_getR (pc := 1) (kf := 8) X ci6 (by decide) rfl tw_991 dX6_again_1 hk1 ?_
  refine gd_iload_n (pc := 4) X 1 dX6_again_4 rfl ?_
  refine gd_iconst (pc := 5) X (1) dX6_again_5 (by decide) ?_
  refine gd_iadd (pc := 6) X dX6_again_6 ?_
  obtain ⟨hk2, h⟩ := h
  obtain ⟨hi3, h⟩ := h
  refine gd_iald (pc := 7) X dX6_again_7 hk2 hi3 ?_
  refine gd_topI (fun v4 hv4 => ?_)
  have h := h v4 hv4
  refine gd_istore_n (pc := 8) X dX6_again_8 (by decide) (E2 := [(2, .int v4), (0, rf a0), (1, .int a1)]) rfl ?_
  refine gd_aload_n (pc := 9) X 1 dX6_again_9 rfl ?_
  refine gd_getR (pc := 10) (kf := 8) X ci6 (by decide) rfl tw_991 dX6_again_10 hk1 ?_
  refine gd_iload_n (pc := 13) X 2 dX6_again_13 rfl ?_
  refine gd_iconst (pc := 14) X (2) dX6_again_14 (by decide) ?_
  refine gd_iadd (pc := 15) X dX6_again_15 ?_
  obtain ⟨hi5, h⟩ := h
  refine gd_iald (pc := 16) X dX6_again_16 hk2 hi5 ?_
  refine gd_topI (fun v6 hv6 => ?_)
  have h := h v6 hv6
  refine gd_istore_n (pc := 17) X dX6_again_17 (by decide) (E2 := [(3, .int v6), (2, .int v4), (0, rf a0), (1, .int a1)]) rfl ?_
  refine gd_iconst (pc := 18) X (0) dX6_again_18 (by decide) ?_
  refine gd_istore (pc := 19) X dX6_again_19 (by decide) (E2 := [(4, .int 0), (3, .int v6), (2, .int v4), (0, rf a0), (1, .int a1)]) rfl ?_
  refine gd_aload_n (pc := 21) X 3 dX6_again_21 rfl ?_
  refine gd_getR (pc := 22) (kf := 8) X ci6 (by decide) rfl tw_991 dX6_again_22 hk1 ?_
  refine gd_iload_n (pc := 25) X 4 dX6_again_25 rfl ?_
  obtain ⟨hi7, h⟩ := h
  refine gd_iald (pc := 26) X dX6_again_26 hk2 hi7 ?_
  by_cases hout : (sI S (sR S a0 8) (ix a1)).toInt < 0 ∨ 4 < (sI S (sR S a0 8) (ix a1)).toInt
  · have h := h.2.2.2.2.2 hout
    refine gd_tableOut (pc := 27) X 180 dX6_again_27 hout (by decide) ?_
    refine gd_aload_n (pc := 180) X 3 dX6_again_180 rfl ?_
    refine gd_getR (pc := 181) (kf := 23) X ci6 (by decide) rfl tw_1006 dX6_again_181 hk1 ?_
    refine gd_iload_n (pc := 184) X 2 dX6_again_184 rfl ?_
    refine gd_aload_n (pc := 185) X 3 dX6_again_185 rfl ?_
    refine gd_aload_n (pc := 186) X 3 dX6_again_186 rfl ?_
    refine gd_getR (pc := 187) (kf := 23) X ci6 (by decide) rfl tw_1006 dX6_again_187 hk1 ?_
    refine gd_iload_n (pc := 190) X 2 dX6_again_190 rfl ?_
    obtain ⟨hk22, h⟩ := h
    obtain ⟨hi23, h⟩ := h
    refine gd_iald (pc := 191) X dX6_again_191 hk22 hi23 ?_
    refine gd_iload_n (pc := 192) X 1 dX6_again_192 rfl ?_
    refine gd_callV (pc := 193) (As := [.int (sI S (sR S a0 23) (ix v4)), .int v6]) (rest := [.int v4, rf (sR S a0 23)]) X (ct_X6_addedTo l G S a0 (sI S (sR S a0 23) (ix v4)) v6 _ h) mw_X6_addedTo tw_1175 ci6 rfl hk1 ⟨(Nat.le_of_ble_eq_true rfl), (Nat.le_of_ble_eq_true rfl)⟩ rfl rfl (Nat.le_of_ble_eq_true rfl) dX6_again_193 ⟨Nat.le_of_ble_eq_true rfl, Nat.le_of_ble_eq_true rfl⟩ (kI (fun r25 S24 h => ?_))
    refine gd_wide (k2 := 0) (j2 := 0) (Nat.le_of_ble_eq_true rfl) (Nat.le_of_ble_eq_true rfl) ?_
    obtain ⟨hk26, h⟩ := h
    obtain ⟨hi27, h⟩ := h
    refine gd_iast (pc := 196) X dX6_again_196 hk26 hi27 ?_
    refine gd_topS (fun S28 hS28 => ?_)
    have h := h S28 hS28
    have hk29 : kT S28 (sR S a0 23) = 9 := by rw [hS28]; exact hk26
    refine gd_aload_n (pc := 197) X 3 dX6_again_197 rfl ?_
    obtain ⟨hk30, h⟩ := h
    refine gd_getR (pc := 198) (kf := 23) X ci6 (by decide) rfl tw_1006 dX6_again_198 hk30 ?_
    refine gd_iload_n (pc := 201) X 2 dX6_again_201 rfl ?_
    obtain ⟨hk31, h⟩ := h
    obtain ⟨hi32, h⟩ := h
    refine gd_iald (pc := 202) X dX6_again_202 hk31 hi32 ?_
    exact (gd_ret_i (pc := 203) X hr hlk rfl (by decide) (by decide) dX6_again_203 ⟨_, rfl, h⟩)
  · rcases (show (sI S (sR S a0 8) (ix a1)).toInt = 0 ∨ (sI S (sR S a0 8) (ix a1)).toInt = 1 ∨ (sI S (sR S a0 8) (ix a1)).toInt = 2 ∨ (sI S (sR S a0 8) (ix a1)).toInt = 3 ∨ (sI S (sR S a0 8) (ix a1)).toInt = 4 by omega) with hx | hx | hx | hx | hx
    · have h := h.1 hx
      refine gd_tableIn (pc := 27) X 60 dX6_again_27 (by omega) (by omega) (by rw [hx]; rfl) (by decide) ?_
      refine gd_aload_n (pc := 60) X 3 dX6_again_60 rfl ?_
      refine gd_getR (pc := 61) (kf := 23) X ci6 (by decide) rfl tw_1006 dX6_again_61 hk1 ?_
      refine gd_iload_n (pc := 64) X 2 dX6_again_64 rfl ?_
      obtain ⟨hk8, h⟩ := h
      obtain ⟨hi9, h⟩ := h
      refine gd_iald (pc := 65) X dX6_again_65 hk8 hi9 ?_
      exact (gd_ret_i (pc := 66) X hr hlk rfl (by decide) (by decide) dX6_again_66 ⟨_, rfl, h⟩)
    · have h := h.2.1 hx
      refine gd_tableIn (pc := 27) X 67 dX6_again_27 (by omega) (by omega) (by rw [hx]; rfl) (by decide) ?_
      refine gd_iload_n (pc := 67) X 2 dX6_again_67 rfl ?_
      refine gd_istore (pc := 68) X dX6_again_68 (by decide) (E2 := [(5, .int v4), (4, .int 0), (3, .int v6), (2, .int v4), (0, rf a0), (1, .int a1)]) rfl ?_
      refine gd_sub [4, 5, 3, 2, 1, 0] rfl ?_
      obtain ⟨f70, h⟩ := h
      exact g70 f70 _ _ _ _ _ _ _ h
    · have h := h.2.2.1 hx
      refine gd_tableIn (pc := 27) X 113 dX6_again_27 (by omega) (by omega) (by rw [hx]; rfl) (by decide) ?_
      refine gd_iload_n (pc := 113) X 2 dX6_again_113 rfl ?_
      refine gd_istore (pc := 114) X dX6_again_114 (by decide) (E2 := [(5, .int v4), (4, .int 0), (3, .int v6), (2, .int v4), (0, rf a0), (1, .int a1)]) rfl ?_
      refine gd_sub [4, 5, 3, 2, 1, 0] rfl ?_
      obtain ⟨f116, h⟩ := h
      exact g116 f116 _ _ _ _ _ _ _ h
    · have h := h.2.2.2.1 hx
      refine gd_tableIn (pc := 27) X 160 dX6_again_27 (by omega) (by omega) (by rw [hx]; rfl) (by decide) ?_
      refine gd_aload_n (pc := 160) X 3 dX6_again_160 rfl ?_
      refine gd_getR (pc := 161) (kf := 23) X ci6 (by decide) rfl tw_1006 dX6_again_161 hk1 ?_
      refine gd_iload_n (pc := 164) X 2 dX6_again_164 rfl ?_
      refine gd_iload_n (pc := 165) X 1 dX6_again_165 rfl ?_
      obtain ⟨hk10, h⟩ := h
      obtain ⟨hi11, h⟩ := h
      refine gd_iast (pc := 166) X dX6_again_166 hk10 hi11 ?_
      refine gd_topS (fun S12 hS12 => ?_)
      have h := h S12 hS12
      have hk13 : kT S12 a0 = 7 := by rw [hS12]; exact hk1
      have hk14 : kT S12 (sR S a0 8) = 9 := by rw [hS12]; exact hk2
      have hk15 : kT S12 (sR S a0 23) = 9 := by rw [hS12]; exact hk10
      refine gd_iconst (pc := 167) X (0) dX6_again_167 (by decide) ?_
      exact (gd_ret_i (pc := 168) X hr hlk rfl (by decide) (by decide) dX6_again_168 ⟨_, rfl, h⟩)
    · have h := h.2.2.2.2.1 hx
      refine gd_tableIn (pc := 27) X 169 dX6_again_27 (by omega) (by omega) (by rw [hx]; rfl) (by decide) ?_
      refine gd_aload_n (pc := 169) X 3 dX6_again_169 rfl ?_
      refine gd_getR (pc := 170) (kf := 23) X ci6 (by decide) rfl tw_1006 dX6_again_170 hk1 ?_
      refine gd_iload_n (pc := 173) X 2 dX6_again_173 rfl ?_
      refine gd_sipush (pc := 174) X (-1000) dX6_again_174 (by decide) ?_
      obtain ⟨hk16, h⟩ := h
      obtain ⟨hi17, h⟩ := h
      refine gd_iast (pc := 177) X dX6_again_177 hk16 hi17 ?_
      refine gd_topS (fun S18 hS18 => ?_)
      have h := h S18 hS18
      have hk19 : kT S18 a0 = 7 := by rw [hS18]; exact hk1
      have hk20 : kT S18 (sR S a0 8) = 9 := by rw [hS18]; exact hk2
      have hk21 : kT S18 (sR S a0 23) = 9 := by rw [hS18]; exact hk16
      refine gd_iconst (pc := 178) X (0) dX6_again_178 (by decide) ?_
      exact (gd_ret_i (pc := 179) X hr hlk rfl (by decide) (by decide) dX6_again_179 ⟨_, rfl, h⟩)
