abbrev rm_X6_conflicts : Room := { frames := 3, cells := 0, slots := 0, locals := 74 }
def b_X6_conflicts_83 (KH5 : MS → Nat → Int32 → Int32 → Int32 → Int32 → Prop) (post : Int32 → MS → Prop) (S : MS) (l0 : Nat) (l1 : Int32) (l2 : Int32) (l3 : Int32) (l4 : Int32) (l5 : Int32) (s0 : Int32) : Prop := ∀ v1 : Int32, v1 = l4 + 1 → KH5 S l0 l1 l2 s0 v1
def b_X6_conflicts_82 (KH5 : MS → Nat → Int32 → Int32 → Int32 → Int32 → Prop) (post : Int32 → MS → Prop) (S : MS) (l0 : Nat) (l1 : Int32) (l2 : Int32) (l3 : Int32) (l4 : Int32) (l5 : Int32) : Prop := b_X6_conflicts_83 KH5 post S l0 l1 l2 l3 l4 l5 0
def b_X6_conflicts_78 (KH5 : MS → Nat → Int32 → Int32 → Int32 → Int32 → Prop) (post : Int32 → MS → Prop) (S : MS) (l0 : Nat) (l1 : Int32) (l2 : Int32) (l3 : Int32) (l4 : Int32) (l5 : Int32) : Prop := b_X6_conflicts_83 KH5 post S l0 l1 l2 l3 l4 l5 1
def b_X6_conflicts_5 (post : Int32 → MS → Prop) : Nat → MS → Nat → Int32 → Int32 → Int32 → Int32 → Prop
  | 0 => fun _ _ _ _ _ _ => False
  | f + 1 => fun S l0 l1 l2 l3 l4 => ((32 ≤ l4 → narrow .boolean (.int l3) = .int l3 ∧ post l3 S) ∧ (¬ 32 ≤ l4 → kT S l0 = 7 ∧ kT S (sR S l0 10) = 9 ∧ vp_in ((32 * l1) + l4) (kL S (sR S l0 10)) ∧ ∀ v4 : Int32, v4 = sI S (sR S l0 10) (ix ((32 * l1) + l4)) → ((¬ l3 = 0 → b_X6_conflicts_78 (b_X6_conflicts_5 post f) post S l0 l1 l2 l3 l4 v4) ∧ (l3 = 0 → ((v4 = ((-5000)) → b_X6_conflicts_82 (b_X6_conflicts_5 post f) post S l0 l1 l2 l3 l4 v4) ∧ (¬ v4 = ((-5000)) → kT S (sR S l0 9) = 9 ∧ vp_in ((32 * l2) + l4) (kL S (sR S l0 9)) ∧ ((¬ (sI S (sR S l0 9) (ix ((32 * l2) + l4))) = ((-1)) → b_X6_conflicts_78 (b_X6_conflicts_5 post f) post S l0 l1 l2 l3 l4 v4) ∧ ((sI S (sR S l0 9) (ix ((32 * l2) + l4))) = ((-1)) → w_X6_stored S l0 (sI S l0 14) l4 (fun r8 S7 => kT S7 l0 = 7 ∧ w_X6_touchesAny S7 l0 l2 61 l4 r8 v4 (fun r11 S10 => ((r11 = 0 → b_X6_conflicts_82 (b_X6_conflicts_5 post f) post S10 l0 l1 l2 l3 l4 v4) ∧ (¬ r11 = 0 → b_X6_conflicts_78 (b_X6_conflicts_5 post f) post S10 l0 l1 l2 l3 l4 v4))))))))))))
def w_X6_conflicts (S : MS) (a0 : Nat) (a1 : Int32) (a2 : Int32) (post : Int32 → MS → Prop) : Prop := ∃ f5, b_X6_conflicts_5 post f5 S a0 a1 a2 0 0
set_option maxHeartbeats 4000000 in
set_option maxRecDepth 100000 in
theorem ct_X6_conflicts (l : Launch) (G : GP) (S : MS) (a0 : Nat) (a1 : Int32) (a2 : Int32) (post : Int32 → MS → Prop) (h : w_X6_conflicts S a0 a1 a2 post) : MetM l yX6_conflicts cX6_conflicts 6 (some .boolean) rm_X6_conflicts [rf a0, .int a1, .int a2] G S (pI_ post) := by
  refine met_of (by decide) (cat1_r (cat1_i (cat1_i cat1_n))) (Nat.le_of_ble_eq_true rfl) ?_
  intro p e s m args below meth c X hr hlk hin
  revert h
  have g83 : ∀ (KH5 : MS → Nat → Int32 → Int32 → Int32 → Int32 → Prop) (hKH5 : ∀ (S : MS) (l0 : Nat) (l1 : Int32) (l2 : Int32) (l3 : Int32) (l4 : Int32), KH5 S l0 l1 l2 l3 l4 → Gd p l e rm_X6_conflicts s m args below meth c 6 G (MQ below (QcM G (pI_ post)) args s rm_X6_conflicts.cells rm_X6_conflicts.slots (Ab G)) 0 0 S 5 [(0, rf l0), (1, .int l1), (2, .int l2), (3, .int l3), (4, .int l4)] []) (S : MS) (l0 : Nat) (l1 : Int32) (l2 : Int32) (l3 : Int32) (l4 : Int32) (l5 : Int32) (s0 : Int32), b_X6_conflicts_83 KH5 post S l0 l1 l2 l3 l4 l5 s0 → Gd p l e rm_X6_conflicts s m args below meth c 6 G (MQ below (QcM G (pI_ post)) args s rm_X6_conflicts.cells rm_X6_conflicts.slots (Ab G)) 0 0 S 83 [(0, rf l0), (1, .int l1), (2, .int l2), (3, .int l3), (4, .int l4), (5, .int l5)] [.int s0] := by
    intro KH5 hKH5 S l0 l1 l2 l3 l4 l5 s0 h
    refine gd_istore_n (pc := 83) X dX6_conflicts_83 (by decide) (E2 := [(3, .int s0), (0, rf l0), (1, .int l1), (2, .int l2), (4, .int l4), (5, .int l5)]) rfl ?_
    obtain ⟨v1, hv1⟩ : ∃ z : Int32, z = l4 + 1 := ⟨_, rfl⟩
    have h := h v1 hv1
    refine gd_iinc (pc := 84) (v := v1) X 4 dX6_conflicts_84 rfl (by rw [hv1]; rfl) (by decide) (E2 := [(4, .int v1), (3, .int s0), (0, rf l0), (1, .int l1), (2, .int l2), (5, .int l5)]) rfl ?_
    refine gd_goto (pc := 87) X 5 dX6_conflicts_87 (by decide) ?_
    refine gd_sub [2, 3, 4, 1, 0] rfl ?_
    exact hKH5 _ _ _ _ _ _ h
  have g82 : ∀ (KH5 : MS → Nat → Int32 → Int32 → Int32 → Int32 → Prop) (hKH5 : ∀ (S : MS) (l0 : Nat) (l1 : Int32) (l2 : Int32) (l3 : Int32) (l4 : Int32), KH5 S l0 l1 l2 l3 l4 → Gd p l e rm_X6_conflicts s m args below meth c 6 G (MQ below (QcM G (pI_ post)) args s rm_X6_conflicts.cells rm_X6_conflicts.slots (Ab G)) 0 0 S 5 [(0, rf l0), (1, .int l1), (2, .int l2), (3, .int l3), (4, .int l4)] []) (S : MS) (l0 : Nat) (l1 : Int32) (l2 : Int32) (l3 : Int32) (l4 : Int32) (l5 : Int32), b_X6_conflicts_82 KH5 post S l0 l1 l2 l3 l4 l5 → Gd p l e rm_X6_conflicts s m args below meth c 6 G (MQ below (QcM G (pI_ post)) args s rm_X6_conflicts.cells rm_X6_conflicts.slots (Ab G)) 0 0 S 82 [(0, rf l0), (1, .int l1), (2, .int l2), (3, .int l3), (4, .int l4), (5, .int l5)] [] := by
    intro KH5 hKH5 S l0 l1 l2 l3 l4 l5 h
    refine gd_iconst (pc := 82) X (0) dX6_conflicts_82 (by decide) ?_
    exact g83 _ hKH5 _ _ _ _ _ _ _ _ h
  have g78 : ∀ (KH5 : MS → Nat → Int32 → Int32 → Int32 → Int32 → Prop) (hKH5 : ∀ (S : MS) (l0 : Nat) (l1 : Int32) (l2 : Int32) (l3 : Int32) (l4 : Int32), KH5 S l0 l1 l2 l3 l4 → Gd p l e rm_X6_conflicts s m args below meth c 6 G (MQ below (QcM G (pI_ post)) args s rm_X6_conflicts.cells rm_X6_conflicts.slots (Ab G)) 0 0 S 5 [(0, rf l0), (1, .int l1), (2, .int l2), (3, .int l3), (4, .int l4)] []) (S : MS) (l0 : Nat) (l1 : Int32) (l2 : Int32) (l3 : Int32) (l4 : Int32) (l5 : Int32), b_X6_conflicts_78 KH5 post S l0 l1 l2 l3 l4 l5 → Gd p l e rm_X6_conflicts s m args below meth c 6 G (MQ below (QcM G (pI_ post)) args s rm_X6_conflicts.cells rm_X6_conflicts.slots (Ab G)) 0 0 S 78 [(0, rf l0), (1, .int l1), (2, .int l2), (3, .int l3), (4, .int l4), (5, .int l5)] [] := by
    intro KH5 hKH5 S l0 l1 l2 l3 l4 l5 h
    refine gd_iconst (pc := 78) X (1) dX6_conflicts_78 (by decide) ?_
    refine gd_goto (pc := 79) X 83 dX6_conflicts_79 (by decide) ?_
    exact g83 _ hKH5 _ _ _ _ _ _ _ _ h
  have g5 : ∀ (f : Nat) (S : MS) (l0 : Nat) (l1 : Int32) (l2 : Int32) (l3 : Int32) (l4 : Int32), b_X6_conflicts_5 post f S l0 l1 l2 l3 l4 → Gd p l e rm_X6_conflicts s m args below meth c 6 G (MQ below (QcM G (pI_ post)) args s rm_X6_conflicts.cells rm_X6_conflicts.slots (Ab G)) 0 0 S 5 [(0, rf l0), (1, .int l1), (2, .int l2), (3, .int l3), (4, .int l4)] [] := by
    intro f
    induction f with
    | zero => intro S l0 l1 l2 l3 l4 h; exact h.elim
    | succ f ih =>
      intro S l0 l1 l2 l3 l4 h
      refine gd_iload (pc := 5) X 4 dX6_conflicts_5 rfl ?_
      refine gd_bipush (pc := 7) X (32) dX6_conflicts_7 (by decide) ?_
      refine gd_icmp_ge (pc := 9) X 90 dX6_conflicts_9 (by decide) (fun hc16 => ?_) (fun hc16 => ?_)
      · have h := h.1 hc16
        refine gd_iload_n (pc := 90) X 3 dX6_conflicts_90 rfl ?_
        obtain ⟨hnz, h⟩ := h
        exact (gd_ret_i (pc := 91) X hr hlk hnz (by decide) (by decide) dX6_conflicts_91 ⟨_, rfl, h⟩)
      · have h := h.2 hc16
        refine gd_aload_n (pc := 12) X 0 dX6_conflicts_12 rfl ?_
        obtain ⟨hk1, h⟩ := h
        refine gd_getR (pc := 13) (kf := 10) X ci6 (by decide) rfl tw_993 dX6_conflicts_13 hk1 ?_
        refine gd_bipush (pc := 16) X (32) dX6_conflicts_16 (by decide) ?_
        refine gd_iload_n (pc := 18) X 1 dX6_conflicts_18 rfl ?_
        refine gd_imul (pc := 19) X dX6_conflicts_19 ?_
        refine gd_iload (pc := 20) X 4 dX6_conflicts_20 rfl ?_
        refine gd_iadd (pc := 22) X dX6_conflicts_22 ?_
        obtain ⟨hk2, h⟩ := h
        obtain ⟨hi3, h⟩ := h
        refine gd_iald (pc := 23) X dX6_conflicts_23 hk2 hi3 ?_
        refine gd_topI (fun v4 hv4 => ?_)
        have h := h v4 hv4
        refine gd_istore (pc := 24) X dX6_conflicts_24 (by decide) (E2 := [(5, .int v4), (0, rf l0), (1, .int l1), (2, .int l2), (3, .int l3), (4, .int l4)]) rfl ?_
        refine gd_iload_n (pc := 26) X 4 dX6_conflicts_26 rfl ?_
        refine gd_if_ne (pc := 27) X 78 dX6_conflicts_27 (by decide) (fun hc15 => ?_) (fun hc15 => ?_)
        · have h := h.1 hc15
          refine gd_sub [1, 2, 3, 4, 5, 0] rfl ?_
          exact g78 _ ih _ _ _ _ _ _ _ h
        · have h := h.2 hc15
          refine gd_iload (pc := 30) X 0 dX6_conflicts_30 rfl ?_
          refine gd_sipush (pc := 32) X (-5000) dX6_conflicts_32 (by decide) ?_
          refine gd_icmp_eq (pc := 35) X 82 dX6_conflicts_35 (by decide) (fun hc14 => ?_) (fun hc14 => ?_)
          · have h := h.1 hc14
            refine gd_sub [1, 2, 3, 4, 5, 0] rfl ?_
            exact g82 _ ih _ _ _ _ _ _ _ h
          · have h := h.2 hc14
            refine gd_aload_n (pc := 38) X 1 dX6_conflicts_38 rfl ?_
            refine gd_getR (pc := 39) (kf := 9) X ci6 (by decide) rfl tw_992 dX6_conflicts_39 hk1 ?_
            refine gd_bipush (pc := 42) X (32) dX6_conflicts_42 (by decide) ?_
            refine gd_iload_n (pc := 44) X 3 dX6_conflicts_44 rfl ?_
            refine gd_imul (pc := 45) X dX6_conflicts_45 ?_
            refine gd_iload (pc := 46) X 5 dX6_conflicts_46 rfl ?_
            refine gd_iadd (pc := 48) X dX6_conflicts_48 ?_
            obtain ⟨hk5, h⟩ := h
            obtain ⟨hi6, h⟩ := h
            refine gd_iald (pc := 49) X dX6_conflicts_49 hk5 hi6 ?_
            refine gd_iconst (pc := 50) X (-1) dX6_conflicts_50 (by decide) ?_
            refine gd_icmp_ne (pc := 51) X 78 dX6_conflicts_51 (by decide) (fun hc13 => ?_) (fun hc13 => ?_)
            · have h := h.1 hc13
              refine gd_sub [1, 2, 3, 4, 5, 0] rfl ?_
              exact g78 _ ih _ _ _ _ _ _ _ h
            · have h := h.2 hc13
              refine gd_aload_n (pc := 54) X 1 dX6_conflicts_54 rfl ?_
              refine gd_iload_n (pc := 55) X 3 dX6_conflicts_55 rfl ?_
              refine gd_bipush (pc := 56) X (61) dX6_conflicts_56 (by decide) ?_
              refine gd_iload (pc := 58) X 5 dX6_conflicts_58 rfl ?_
              refine gd_aload_n (pc := 60) X 1 dX6_conflicts_60 rfl ?_
              refine gd_aload_n (pc := 61) X 1 dX6_conflicts_61 rfl ?_
              refine gd_getI (pc := 62) (kf := 14) X ci6 (by decide) rfl tw_997 dX6_conflicts_62 hk1 ?_
              refine gd_iload (pc := 65) X 5 dX6_conflicts_65 rfl ?_
              refine gd_callV (pc := 67) (As := [.int (sI S l0 14), .int l4]) (rest := [.int l4, .int 61, .int l2, rf l0]) X (ct_X6_stored l G S l0 (sI S l0 14) l4 _ h) mw_X6_stored tw_1132 ci6 rfl hk1 ⟨(Nat.le_of_ble_eq_true rfl), (Nat.le_of_ble_eq_true rfl)⟩ rfl rfl (Nat.le_of_ble_eq_true rfl) dX6_conflicts_67 ⟨Nat.le_of_ble_eq_true rfl, Nat.le_of_ble_eq_true rfl⟩ (kI (fun r8 S7 h => ?_))
              refine gd_wide (k2 := 0) (j2 := 0) (Nat.le_of_ble_eq_true rfl) (Nat.le_of_ble_eq_true rfl) ?_
              refine gd_iload (pc := 70) X 0 dX6_conflicts_70 rfl ?_
              obtain ⟨hk9, h⟩ := h
              refine gd_callV (pc := 72) (As := [.int l2, .int 61, .int l4, .int r8, .int v4]) (rest := []) X (ct_X6_touchesAny l G S7 l0 l2 61 l4 r8 v4 _ h) mw_X6_touchesAny tw_1195 ci6 rfl hk9 ⟨(Nat.le_of_ble_eq_true rfl), (Nat.le_of_ble_eq_true rfl)⟩ rfl rfl (Nat.le_of_ble_eq_true rfl) dX6_conflicts_72 ⟨Nat.le_of_ble_eq_true rfl, Nat.le_of_ble_eq_true rfl⟩ (kI (fun r11 S10 h => ?_))
              refine gd_wide (k2 := 0) (j2 := 0) (Nat.le_of_ble_eq_true rfl) (Nat.le_of_ble_eq_true rfl) ?_
              refine gd_if_eq (pc := 75) X 82 dX6_conflicts_75 (by decide) (fun hc12 => ?_) (fun hc12 => ?_)
              · have h := h.1 hc12
                refine gd_sub [1, 2, 3, 4, 5, 0] rfl ?_
                exact g82 _ ih _ _ _ _ _ _ _ h
              · have h := h.2 hc12
                refine gd_sub [1, 2, 3, 4, 5, 0] rfl ?_
                exact g78 _ ih _ _ _ _ _ _ _ h
  intro h
  refine gd_iconst (pc := 0) X (0) dX6_conflicts_0 (by decide) ?_
  refine gd_istore_n (pc := 1) X dX6_conflicts_1 (by decide) (E2 := [(3, .int 0), (0, rf a0), (1, .int a1), (2, .int a2)]) rfl ?_
  refine gd_iconst (pc := 2) X (0) dX6_conflicts_2 (by decide) ?_
  refine gd_istore (pc := 3) X dX6_conflicts_3 (by decide) (E2 := [(4, .int 0), (3, .int 0), (0, rf a0), (1, .int a1), (2, .int a2)]) rfl ?_
  refine gd_sub [2, 3, 4, 1, 0] rfl ?_
  obtain ⟨f5, h⟩ := h
  exact g5 f5 _ _ _ _ _ _ h
abbrev rm_X6_isRival : Room := { frames := 4, cells := 0, slots := 0, locals := 99 }
def b_X6_isRival_28 (post : Int32 → MS → Prop) (S : MS) (l0 : Nat) (l1 : Int32) (l2 : Int32) (s0 : Int32) : Prop := narrow .boolean (.int s0) = .int s0 ∧ post s0 S
def b_X6_isRival_27 (post : Int32 → MS → Prop) (S : MS) (l0 : Nat) (l1 : Int32) (l2 : Int32) : Prop := b_X6_isRival_28 post S l0 l1 l2 0
def w_X6_isRival (S : MS) (a0 : Nat) (a1 : Int32) (a2 : Int32) (post : Int32 → MS → Prop) : Prop := ((a2 = a1 → b_X6_isRival_27 post S a0 a1 a2) ∧ (¬ a2 = a1 → kT S a0 = 7 ∧ kT S (sR S a0 2) = 9 ∧ vp_in a2 (kL S (sR S a0 2)) ∧ ((¬ (sI S (sR S a0 2) (ix a2)) = 0 → b_X6_isRival_27 post S a0 a1 a2) ∧ ((sI S (sR S a0 2) (ix a2)) = 0 → w_X6_conflicts S a0 a1 a2 (fun r5 S4 => ((r5 = 0 → b_X6_isRival_27 post S4 a0 a1 a2) ∧ (¬ r5 = 0 → b_X6_isRival_28 post S4 a0 a1 a2 1)))))))
set_option maxHeartbeats 4000000 in
set_option maxRecDepth 100000 in
theorem ct_X6_isRival (l : Launch) (G : GP) (S : MS) (a0 : Nat) (a1 : Int32) (a2 : Int32) (post : Int32 → MS → Prop) (h : w_X6_isRival S a0 a1 a2 post) : MetM l yX6_isRival cX6_isRival 3 (some .boolean) rm_X6_isRival [rf a0, .int a1, .int a2] G S (pI_ post) := by
  refine met_of (by decide) (cat1_r (cat1_i (cat1_i cat1_n))) (Nat.le_of_ble_eq_true rfl) ?_
  intro p e s m args below meth c X hr hlk hin
  revert h
  have g28 : ∀ (S : MS) (l0 : Nat) (l1 : Int32) (l2 : Int32) (s0 : Int32), b_X6_isRival_28 post S l0 l1 l2 s0 → Gd p l e rm_X6_isRival s m args below meth c 3 G (MQ below (QcM G (pI_ post)) args s rm_X6_isRival.cells rm_X6_isRival.slots (Ab G)) 0 0 S 28 [(0, rf l0), (1, .int l1), (2, .int l2)] [.int s0] := by
    intro S l0 l1 l2 s0 h
    obtain ⟨hnz, h⟩ := h
    exact (gd_ret_i (pc := 28) X hr hlk hnz (by decide) (by decide) dX6_isRival_28 ⟨_, rfl, h⟩)
  have g27 : ∀ (S : MS) (l0 : Nat) (l1 : Int32) (l2 : Int32), b_X6_isRival_27 post S l0 l1 l2 → Gd p l e rm_X6_isRival s m args below meth c 3 G (MQ below (QcM G (pI_ post)) args s rm_X6_isRival.cells rm_X6_isRival.slots (Ab G)) 0 0 S 27 [(0, rf l0), (1, .int l1), (2, .int l2)] [] := by
    intro S l0 l1 l2 h
    refine gd_iconst (pc := 27) X (0) dX6_isRival_27 (by decide) ?_
    exact g28 _ _ _ _ _ h
  intro h
  refine gd_iload_n (pc := 0) X 2 dX6_isRival_0 rfl ?_
  refine gd_iload_n (pc := 1) X 1 dX6_isRival_1 rfl ?_
  refine gd_icmp_eq (pc := 2) X 27 dX6_isRival_2 (by decide) (fun hc8 => ?_) (fun hc8 => ?_)
  · have h := h.1 hc8
    exact g27 _ _ _ _ h
  · have h := h.2 hc8
    refine gd_aload_n (pc := 5) X 0 dX6_isRival_5 rfl ?_
    obtain ⟨hk1, h⟩ := h
    refine gd_getR (pc := 6) (kf := 2) X ci6 (by decide) rfl tw_985 dX6_isRival_6 hk1 ?_
    refine gd_iload_n (pc := 9) X 2 dX6_isRival_9 rfl ?_
    obtain ⟨hk2, h⟩ := h
    obtain ⟨hi3, h⟩ := h
    refine gd_iald (pc := 10) X dX6_isRival_10 hk2 hi3 ?_
    refine gd_if_ne (pc := 11) X 27 dX6_isRival_11 (by decide) (fun hc7 => ?_) (fun hc7 => ?_)
    · have h := h.1 hc7
      exact g27 _ _ _ _ h
    · have h := h.2 hc7
      refine gd_aload_n (pc := 14) X 0 dX6_isRival_14 rfl ?_
      refine gd_iload_n (pc := 15) X 1 dX6_isRival_15 rfl ?_
      refine gd_iload_n (pc := 16) X 2 dX6_isRival_16 rfl ?_
      refine gd_callV (pc := 17) (As := [.int a1, .int a2]) (rest := []) X (ct_X6_conflicts l G S a0 a1 a2 _ h) mw_X6_conflicts tw_1215 ci6 rfl hk1 ⟨(Nat.le_of_ble_eq_true rfl), (Nat.le_of_ble_eq_true rfl)⟩ rfl rfl (Nat.le_of_ble_eq_true rfl) dX6_isRival_17 ⟨Nat.le_of_ble_eq_true rfl, Nat.le_of_ble_eq_true rfl⟩ (kI (fun r5 S4 h => ?_))
      refine gd_wide (k2 := 0) (j2 := 0) (Nat.le_of_ble_eq_true rfl) (Nat.le_of_ble_eq_true rfl) ?_
      refine gd_if_eq (pc := 20) X 27 dX6_isRival_20 (by decide) (fun hc6 => ?_) (fun hc6 => ?_)
      · have h := h.1 hc6
        exact g27 _ _ _ _ h
      · have h := h.2 hc6
        refine gd_iconst (pc := 23) X (1) dX6_isRival_23 (by decide) ?_
        refine gd_goto (pc := 24) X 28 dX6_isRival_24 (by decide) ?_
        exact g28 _ _ _ _ _ h
abbrev rm_X6_countRivals : Room := { frames := 5, cells := 0, slots := 0, locals := 121 }
def b_X6_countRivals_27 (KH4 : MS → Nat → Int32 → Int32 → Int32 → Prop) (post : Int32 → MS → Prop) (S : MS) (l0 : Nat) (l1 : Int32) (l2 : Int32) (l3 : Int32) (s0 : Int32) (s1 : Int32) : Prop := ∀ v1 : Int32, v1 = s1 + s0 → ∀ v2 : Int32, v2 = l3 + 1 → KH4 S l0 l1 v1 v2
def b_X6_countRivals_4 (post : Int32 → MS → Prop) : Nat → MS → Nat → Int32 → Int32 → Int32 → Prop
  | 0 => fun _ _ _ _ _ => False
  | f + 1 => fun S l0 l1 l2 l3 => kT S l0 = 7 ∧ (((sI S l0 1) ≤ l3 → post l2 S) ∧ (¬ (sI S l0 1) ≤ l3 → w_X6_isRival S l0 l1 l3 (fun r3 S2 => ((r3 = 0 → b_X6_countRivals_27 (b_X6_countRivals_4 post f) post S2 l0 l1 l2 l3 0 l2) ∧ (¬ r3 = 0 → b_X6_countRivals_27 (b_X6_countRivals_4 post f) post S2 l0 l1 l2 l3 1 l2)))))
def w_X6_countRivals (S : MS) (a0 : Nat) (a1 : Int32) (post : Int32 → MS → Prop) : Prop := ∃ f4, b_X6_countRivals_4 post f4 S a0 a1 0 0
set_option maxHeartbeats 4000000 in
set_option maxRecDepth 100000 in
theorem ct_X6_countRivals (l : Launch) (G : GP) (S : MS) (a0 : Nat) (a1 : Int32) (post : Int32 → MS → Prop) (h : w_X6_countRivals S a0 a1 post) : MetM l yX6_countRivals cX6_countRivals 4 (some .int) rm_X6_countRivals [rf a0, .int a1] G S (pI_ post) := by
  refine met_of (by decide) (cat1_r (cat1_i cat1_n)) (Nat.le_of_ble_eq_true rfl) ?_
  intro p e s m args below meth c X hr hlk hin
  revert h
  have g27 : ∀ (KH4 : MS → Nat → Int32 → Int32 → Int32 → Prop) (hKH4 : ∀ (S : MS) (l0 : Nat) (l1 : Int32) (l2 : Int32) (l3 : Int32), KH4 S l0 l1 l2 l3 → Gd p l e rm_X6_countRivals s m args below meth c 4 G (MQ below (QcM G (pI_ post)) args s rm_X6_countRivals.cells rm_X6_countRivals.slots (Ab G)) 0 0 S 4 [(0, rf l0), (1, .int l1), (2, .int l2), (3, .int l3)] []) (S : MS) (l0 : Nat) (l1 : Int32) (l2 : Int32) (l3 : Int32) (s0 : Int32) (s1 : Int32), b_X6_countRivals_27 KH4 post S l0 l1 l2 l3 s0 s1 → Gd p l e rm_X6_countRivals s m args below meth c 4 G (MQ below (QcM G (pI_ post)) args s rm_X6_countRivals.cells rm_X6_countRivals.slots (Ab G)) 0 0 S 27 [(0, rf l0), (1, .int l1), (2, .int l2), (3, .int l3)] [.int s0, .int s1] := by
    intro KH4 hKH4 S l0 l1 l2 l3 s0 s1 h
    refine gd_iadd (pc := 27) X dX6_countRivals_27 ?_
    refine gd_topI (fun v1 hv1 => ?_)
    have h := h v1 hv1
    refine gd_istore_n (pc := 28) X dX6_countRivals_28 (by decide) (E2 := [(2, .int v1), (0, rf l0), (1, .int l1), (3, .int l3)]) rfl ?_
    obtain ⟨v2, hv2⟩ : ∃ z : Int32, z = l3 + 1 := ⟨_, rfl⟩
    have h := h v2 hv2
    refine gd_iinc (pc := 29) (v := v2) X 3 dX6_countRivals_29 rfl (by rw [hv2]; rfl) (by decide) (E2 := [(3, .int v2), (2, .int v1), (0, rf l0), (1, .int l1)]) rfl ?_
    refine gd_goto (pc := 32) X 4 dX6_countRivals_32 (by decide) ?_
    refine gd_sub [2, 3, 1, 0] rfl ?_
    exact hKH4 _ _ _ _ _ h
  have g4 : ∀ (f : Nat) (S : MS) (l0 : Nat) (l1 : Int32) (l2 : Int32) (l3 : Int32), b_X6_countRivals_4 post f S l0 l1 l2 l3 → Gd p l e rm_X6_countRivals s m args below meth c 4 G (MQ below (QcM G (pI_ post)) args s rm_X6_countRivals.cells rm_X6_countRivals.slots (Ab G)) 0 0 S 4 [(0, rf l0), (1, .int l1), (2, .int l2), (3, .int l3)] [] := by
    intro f
    induction f with
    | zero => intro S l0 l1 l2 l3 h; exact h.elim
    | succ f ih =>
      intro S l0 l1 l2 l3 h
      refine gd_iload_n (pc := 4) X 3 dX6_countRivals_4 rfl ?_
      refine gd_aload_n (pc := 5) X 0 dX6_countRivals_5 rfl ?_
      obtain ⟨hk1, h⟩ := h
      refine gd_getI (pc := 6) (kf := 1) X ci6 (by decide) rfl tw_984 dX6_countRivals_6 hk1 ?_
      refine gd_icmp_ge (pc := 9) X 35 dX6_countRivals_9 (by decide) (fun hc5 => ?_) (fun hc5 => ?_)
      · have h := h.1 hc5
        refine gd_iload_n (pc := 35) X 2 dX6_countRivals_35 rfl ?_
        exact (gd_ret_i (pc := 36) X hr hlk rfl (by decide) (by decide) dX6_countRivals_36 ⟨_, rfl, h⟩)
      · have h := h.2 hc5
        refine gd_iload_n (pc := 12) X 2 dX6_countRivals_12 rfl ?_
        refine gd_aload_n (pc := 13) X 0 dX6_countRivals_13 rfl ?_
        refine gd_iload_n (pc := 14) X 1 dX6_countRivals_14 rfl ?_
        refine gd_iload_n (pc := 15) X 3 dX6_countRivals_15 rfl ?_
        refine gd_callV (pc := 16) (As := [.int l1, .int l3]) (rest := [.int l2]) X (ct_X6_isRival l G S l0 l1 l3 _ h) mw_X6_isRival tw_1211 ci6 rfl hk1 ⟨(Nat.le_of_ble_eq_true rfl), (Nat.le_of_ble_eq_true rfl)⟩ rfl rfl (Nat.le_of_ble_eq_true rfl) dX6_countRivals_16 ⟨Nat.le_of_ble_eq_true rfl, Nat.le_of_ble_eq_true rfl⟩ (kI (fun r3 S2 h => ?_))
        refine gd_wide (k2 := 0) (j2 := 0) (Nat.le_of_ble_eq_true rfl) (Nat.le_of_ble_eq_true rfl) ?_
        refine gd_if_eq (pc := 19) X 26 dX6_countRivals_19 (by decide) (fun hc4 => ?_) (fun hc4 => ?_)
        · have h := h.1 hc4
          refine gd_iconst (pc := 26) X (0) dX6_countRivals_26 (by decide) ?_
          exact g27 _ ih _ _ _ _ _ _ _ h
        · have h := h.2 hc4
          refine gd_iconst (pc := 22) X (1) dX6_countRivals_22 (by decide) ?_
          refine gd_goto (pc := 23) X 27 dX6_countRivals_23 (by decide) ?_
          exact g27 _ ih _ _ _ _ _ _ _ h
  intro h
  refine gd_iconst (pc := 0) X (0) dX6_countRivals_0 (by decide) ?_
  refine gd_istore_n (pc := 1) X dX6_countRivals_1 (by decide) (E2 := [(2, .int 0), (0, rf a0), (1, .int a1)]) rfl ?_
  refine gd_iconst (pc := 2) X (0) dX6_countRivals_2 (by decide) ?_
  refine gd_istore_n (pc := 3) X dX6_countRivals_3 (by decide) (E2 := [(3, .int 0), (2, .int 0), (0, rf a0), (1, .int a1)]) rfl ?_
  refine gd_sub [2, 3, 1, 0] rfl ?_
  obtain ⟨f4, h⟩ := h
  exact g4 f4 _ _ _ _ _ h
abbrev rm_X6_hasWritten : Room := { frames := 0, cells := 0, slots := 0, locals := 0 }
def b_X6_hasWritten_27 (post : Int32 → MS → Prop) (S : MS) (l0 : Nat) (l1 : Int32) (l2 : Int32) (s0 : Int32) : Prop := narrow .boolean (.int s0) = .int s0 ∧ post s0 S
def w_X6_hasWritten (S : MS) (a0 : Nat) (a1 : Int32) (a2 : Int32) (post : Int32 → MS → Prop) : Prop := kT S a0 = 7 ∧ kT S (sR S a0 16) = 9 ∧ vp_in a1 (kL S (sR S a0 16)) ∧ kT S (sR S a0 10) = 9 ∧ vp_in ((32 * (sI S (sR S a0 16) (ix a1))) + a2) (kL S (sR S a0 10)) ∧ (((sI S (sR S a0 10) (ix ((32 * (sI S (sR S a0 16) (ix a1))) + a2))) = ((-5000)) → b_X6_hasWritten_27 post S a0 a1 a2 0) ∧ (¬ (sI S (sR S a0 10) (ix ((32 * (sI S (sR S a0 16) (ix a1))) + a2))) = ((-5000)) → b_X6_hasWritten_27 post S a0 a1 a2 1))
set_option maxHeartbeats 4000000 in
set_option maxRecDepth 100000 in
theorem ct_X6_hasWritten (l : Launch) (G : GP) (S : MS) (a0 : Nat) (a1 : Int32) (a2 : Int32) (post : Int32 → MS → Prop) (h : w_X6_hasWritten S a0 a1 a2 post) : MetM l yX6_hasWritten cX6_hasWritten 3 (some .boolean) rm_X6_hasWritten [rf a0, .int a1, .int a2] G S (pI_ post) := by
  refine met_of (by decide) (cat1_r (cat1_i (cat1_i cat1_n))) (Nat.le_of_ble_eq_true rfl) ?_
  intro p e s m args below meth c X hr hlk hin
  revert h
  have g27 : ∀ (S : MS) (l0 : Nat) (l1 : Int32) (l2 : Int32) (s0 : Int32), b_X6_hasWritten_27 post S l0 l1 l2 s0 → Gd p l e rm_X6_hasWritten s m args below meth c 3 G (MQ below (QcM G (pI_ post)) args s rm_X6_hasWritten.cells rm_X6_hasWritten.slots (Ab G)) 0 0 S 27 [(0, rf l0), (1, .int l1), (2, .int l2)] [.int s0] := by
    intro S l0 l1 l2 s0 h
    obtain ⟨hnz, h⟩ := h
    exact (gd_ret_i (pc := 27) X hr hlk hnz (by decide) (by decide) dX6_hasWritten_27 ⟨_, rfl, h⟩)
  intro h
  refine gd_aload_n (pc := 0) X 0 dX6_hasWritten_0 rfl ?_
  obtain ⟨hk1, h⟩ := h
  refine gd_getR (pc := 1) (kf := 10) X ci6 (by decide) rfl tw_993 dX6_hasWritten_1 hk1 ?_
  refine gd_bipush (pc := 4) X (32) dX6_hasWritten_4 (by decide) ?_
  refine gd_aload_n (pc := 6) X 0 dX6_hasWritten_6 rfl ?_
  refine gd_getR (pc := 7) (kf := 16) X ci6 (by decide) rfl tw_999 dX6_hasWritten_7 hk1 ?_
  refine gd_iload_n (pc := 10) X 1 dX6_hasWritten_10 rfl ?_
  obtain ⟨hk2, h⟩ := h
  obtain ⟨hi3, h⟩ := h
  refine gd_iald (pc := 11) X dX6_hasWritten_11 hk2 hi3 ?_
  refine gd_imul (pc := 12) X dX6_hasWritten_12 ?_
  refine gd_iload_n (pc := 13) X 2 dX6_hasWritten_13 rfl ?_
  refine gd_iadd (pc := 14) X dX6_hasWritten_14 ?_
  obtain ⟨hk4, h⟩ := h
  obtain ⟨hi5, h⟩ := h
  refine gd_iald (pc := 15) X dX6_hasWritten_15 hk4 hi5 ?_
  refine gd_sipush (pc := 16) X (-5000) dX6_hasWritten_16 (by decide) ?_
  refine gd_icmp_eq (pc := 19) X 26 dX6_hasWritten_19 (by decide) (fun hc6 => ?_) (fun hc6 => ?_)
  · have h := h.1 hc6
    refine gd_iconst (pc := 26) X (0) dX6_hasWritten_26 (by decide) ?_
    exact g27 _ _ _ _ _ h
  · have h := h.2 hc6
    refine gd_iconst (pc := 22) X (1) dX6_hasWritten_22 (by decide) ?_
    refine gd_goto (pc := 23) X 27 dX6_hasWritten_23 (by decide) ?_
    exact g27 _ _ _ _ _ h
abbrev rm_X6_staleness : Room := { frames := 3, cells := 0, slots := 0, locals := 74 }
def b_X6_staleness_152 (post : Int32 → MS → Prop) (S : MS) (l0 : Nat) (l1 : Int32) (l2 : Int32) (l3 : Int32) (l4 : Int32) (s0 : Int32) : Prop := post s0 S
def b_X6_staleness_122 (KH7 : MS → Nat → Int32 → Int32 → Int32 → Int32 → Prop) (KH19 : MS → Nat → Int32 → Int32 → Int32 → Int32 → Int32 → Prop) (post : Int32 → MS → Prop) (S : MS) (l0 : Nat) (l1 : Int32) (l2 : Int32) (l3 : Int32) (l4 : Int32) (l5 : Int32) (l6 : Int32) (l7 : Int32) (s0 : Int32) : Prop := ∀ v1 : Int32, v1 = l5 + 1 → KH19 S l0 l1 s0 l3 l4 v1
def b_X6_staleness_121 (KH7 : MS → Nat → Int32 → Int32 → Int32 → Int32 → Prop) (KH19 : MS → Nat → Int32 → Int32 → Int32 → Int32 → Int32 → Prop) (post : Int32 → MS → Prop) (S : MS) (l0 : Nat) (l1 : Int32) (l2 : Int32) (l3 : Int32) (l4 : Int32) (l5 : Int32) (l6 : Int32) (l7 : Int32) : Prop := b_X6_staleness_122 KH7 KH19 post S l0 l1 l2 l3 l4 l5 l6 l7 0
def b_X6_staleness_117 (KH7 : MS → Nat → Int32 → Int32 → Int32 → Int32 → Prop) (KH19 : MS → Nat → Int32 → Int32 → Int32 → Int32 → Int32 → Prop) (post : Int32 → MS → Prop) (S : MS) (l0 : Nat) (l1 : Int32) (l2 : Int32) (l3 : Int32) (l4 : Int32) (l5 : Int32) (l6 : Int32) (l7 : Int32) : Prop := b_X6_staleness_122 KH7 KH19 post S l0 l1 l2 l3 l4 l5 l6 l7 1
def b_X6_staleness_77 (KH7 : MS → Nat → Int32 → Int32 → Int32 → Int32 → Prop) (KH19 : MS → Nat → Int32 → Int32 → Int32 → Int32 → Int32 → Prop) (post : Int32 → MS → Prop) (S : MS) (l0 : Nat) (l1 : Int32) (l2 : Int32) (l3 : Int32) (l4 : Int32) (l5 : Int32) (l6 : Int32) (l7 : Int32) (s0 : Int32) : Prop := ((¬ l2 = 0 → b_X6_staleness_117 KH7 KH19 post S l0 l1 l2 s0 l4 l5 l6 l7) ∧ (l2 = 0 → ((l7 = 0 → b_X6_staleness_121 KH7 KH19 post S l0 l1 l2 s0 l4 l5 l6 l7) ∧ (¬ l7 = 0 → kT S l0 = 7 ∧ w_X6_stored S l0 (l4 - 1) l5 (fun r3 S2 => kT S2 l0 = 7 ∧ w_X6_stored S2 l0 l4 l5 (fun r6 S5 => kT S5 l0 = 7 ∧ w_X6_touchesAny S5 l0 l1 l4 l5 r3 r6 (fun r9 S8 => ((r9 = 0 → b_X6_staleness_121 KH7 KH19 post S8 l0 l1 l2 s0 l4 l5 l6 l7) ∧ (¬ r9 = 0 → b_X6_staleness_117 KH7 KH19 post S8 l0 l1 l2 s0 l4 l5 l6 l7)))))))))
def b_X6_staleness_76 (KH7 : MS → Nat → Int32 → Int32 → Int32 → Int32 → Prop) (KH19 : MS → Nat → Int32 → Int32 → Int32 → Int32 → Int32 → Prop) (post : Int32 → MS → Prop) (S : MS) (l0 : Nat) (l1 : Int32) (l2 : Int32) (l3 : Int32) (l4 : Int32) (l5 : Int32) (l6 : Int32) (l7 : Int32) : Prop := b_X6_staleness_77 KH7 KH19 post S l0 l1 l2 l3 l4 l5 l6 l7 0
def b_X6_staleness_72 (KH7 : MS → Nat → Int32 → Int32 → Int32 → Int32 → Prop) (KH19 : MS → Nat → Int32 → Int32 → Int32 → Int32 → Int32 → Prop) (post : Int32 → MS → Prop) (S : MS) (l0 : Nat) (l1 : Int32) (l2 : Int32) (l3 : Int32) (l4 : Int32) (l5 : Int32) (l6 : Int32) (l7 : Int32) : Prop := b_X6_staleness_77 KH7 KH19 post S l0 l1 l2 l3 l4 l5 l6 l7 1
def b_X6_staleness_19 (KH7 : MS → Nat → Int32 → Int32 → Int32 → Int32 → Prop) (post : Int32 → MS → Prop) : Nat → MS → Nat → Int32 → Int32 → Int32 → Int32 → Int32 → Prop
  | 0 => fun _ _ _ _ _ _ _ => False
  | f + 1 => fun S l0 l1 l2 l3 l4 l5 => ((32 ≤ l5 → ∀ v1 : Int32, v1 = l4 + 1 → KH7 S l0 l1 l2 l3 v1) ∧ (¬ 32 ≤ l5 → kT S l0 = 7 ∧ kT S (sR S l0 9) = 9 ∧ vp_in ((32 * l1) + l5) (kL S (sR S l0 9)) ∧ ∀ v5 : Int32, v5 = sI S (sR S l0 9) (ix ((32 * l1) + l5)) → w_X6_hasWritten S l0 l4 l5 (fun r7 S6 => ((¬ l3 = 0 → b_X6_staleness_72 KH7 (b_X6_staleness_19 KH7 post f) post S6 l0 l1 l2 l3 l4 l5 v5 r7) ∧ (l3 = 0 → ((r7 = 0 → b_X6_staleness_76 KH7 (b_X6_staleness_19 KH7 post f) post S6 l0 l1 l2 l3 l4 l5 v5 r7) ∧ (¬ r7 = 0 → ((v5 = ((-1)) → b_X6_staleness_76 KH7 (b_X6_staleness_19 KH7 post f) post S6 l0 l1 l2 l3 l4 l5 v5 r7) ∧ (¬ v5 = ((-1)) → ((l4 ≤ v5 → b_X6_staleness_76 KH7 (b_X6_staleness_19 KH7 post f) post S6 l0 l1 l2 l3 l4 l5 v5 r7) ∧ (¬ l4 ≤ v5 → b_X6_staleness_72 KH7 (b_X6_staleness_19 KH7 post f) post S6 l0 l1 l2 l3 l4 l5 v5 r7)))))))))))
def b_X6_staleness_7 (post : Int32 → MS → Prop) : Nat → MS → Nat → Int32 → Int32 → Int32 → Int32 → Prop
  | 0 => fun _ _ _ _ _ _ => False
  | f + 1 => fun S l0 l1 l2 l3 l4 => kT S l0 = 7 ∧ (((sI S l0 14) < l4 → ((l3 = 0 → ((l2 = 0 → b_X6_staleness_152 post S l0 l1 l2 l3 l4 0) ∧ (¬ l2 = 0 → b_X6_staleness_152 post S l0 l1 l2 l3 l4 2))) ∧ (¬ l3 = 0 → b_X6_staleness_152 post S l0 l1 l2 l3 l4 1))) ∧ (¬ (sI S l0 14) < l4 → ∃ f19, b_X6_staleness_19 (b_X6_staleness_7 post f) post f19 S l0 l1 l2 l3 l4 0))
def w_X6_staleness (S : MS) (a0 : Nat) (a1 : Int32) (post : Int32 → MS → Prop) : Prop := ∃ f7, b_X6_staleness_7 post f7 S a0 a1 0 0 1
set_option maxHeartbeats 4000000 in
set_option maxRecDepth 100000 in
theorem ct_X6_staleness (l : Launch) (G : GP) (S : MS) (a0 : Nat) (a1 : Int32) (post : Int32 → MS → Prop) (h : w_X6_staleness S a0 a1 post) : MetM l yX6_staleness cX6_staleness 8 (some .int) rm_X6_staleness [rf a0, .int a1] G S (pI_ post) := by
  refine met_of (by decide) (cat1_r (cat1_i cat1_n)) (Nat.le_of_ble_eq_true rfl) ?_
  intro p e s m args below meth c X hr hlk hin
  revert h
  have g152 : ∀ (S : MS) (l0 : Nat) (l1 : Int32) (l2 : Int32) (l3 : Int32) (l4 : Int32) (s0 : Int32), b_X6_staleness_152 post S l0 l1 l2 l3 l4 s0 → Gd p l e rm_X6_staleness s m args below meth c 8 G (MQ below (QcM G (pI_ post)) args s rm_X6_staleness.cells rm_X6_staleness.slots (Ab G)) 0 0 S 152 [(0, rf l0), (1, .int l1), (2, .int l2), (3, .int l3), (4, .int l4)] [.int s0] := by
    intro S l0 l1 l2 l3 l4 s0 h
    exact (gd_ret_i (pc := 152) X hr hlk rfl (by decide) (by decide) dX6_staleness_152 ⟨_, rfl, h⟩)
  have g122 : ∀ (KH7 : MS → Nat → Int32 → Int32 → Int32 → Int32 → Prop) (hKH7 : ∀ (S : MS) (l0 : Nat) (l1 : Int32) (l2 : Int32) (l3 : Int32) (l4 : Int32), KH7 S l0 l1 l2 l3 l4 → Gd p l e rm_X6_staleness s m args below meth c 8 G (MQ below (QcM G (pI_ post)) args s rm_X6_staleness.cells rm_X6_staleness.slots (Ab G)) 0 0 S 7 [(0, rf l0), (1, .int l1), (2, .int l2), (3, .int l3), (4, .int l4)] []) (KH19 : MS → Nat → Int32 → Int32 → Int32 → Int32 → Int32 → Prop) (hKH19 : ∀ (S : MS) (l0 : Nat) (l1 : Int32) (l2 : Int32) (l3 : Int32) (l4 : Int32) (l5 : Int32), KH19 S l0 l1 l2 l3 l4 l5 → Gd p l e rm_X6_staleness s m args below meth c 8 G (MQ below (QcM G (pI_ post)) args s rm_X6_staleness.cells rm_X6_staleness.slots (Ab G)) 0 0 S 19 [(0, rf l0), (1, .int l1), (2, .int l2), (3, .int l3), (4, .int l4), (5, .int l5)] []) (S : MS) (l0 : Nat) (l1 : Int32) (l2 : Int32) (l3 : Int32) (l4 : Int32) (l5 : Int32) (l6 : Int32) (l7 : Int32) (s0 : Int32), b_X6_staleness_122 KH7 KH19 post S l0 l1 l2 l3 l4 l5 l6 l7 s0 → Gd p l e rm_X6_staleness s m args below meth c 8 G (MQ below (QcM G (pI_ post)) args s rm_X6_staleness.cells rm_X6_staleness.slots (Ab G)) 0 0 S 122 [(0, rf l0), (1, .int l1), (2, .int l2), (3, .int l3), (4, .int l4), (5, .int l5), (6, .int l6), (7, .int l7)] [.int s0] := by
    intro KH7 hKH7 KH19 hKH19 S l0 l1 l2 l3 l4 l5 l6 l7 s0 h
    refine gd_istore_n (pc := 122) X dX6_staleness_122 (by decide) (E2 := [(2, .int s0), (0, rf l0), (1, .int l1), (3, .int l3), (4, .int l4), (5, .int l5), (6, .int l6), (7, .int l7)]) rfl ?_
    obtain ⟨v1, hv1⟩ : ∃ z : Int32, z = l5 + 1 := ⟨_, rfl⟩
    have h := h v1 hv1
    refine gd_iinc (pc := 123) (v := v1) X 5 dX6_staleness_123 rfl (by rw [hv1]; rfl) (by decide) (E2 := [(5, .int v1), (2, .int s0), (0, rf l0), (1, .int l1), (3, .int l3), (4, .int l4), (6, .int l6), (7, .int l7)]) rfl ?_
    refine gd_goto (pc := 126) X 19 dX6_staleness_126 (by decide) ?_
    refine gd_sub [2, 3, 1, 4, 5, 0] rfl ?_
    exact hKH19 _ _ _ _ _ _ _ h
  have g121 : ∀ (KH7 : MS → Nat → Int32 → Int32 → Int32 → Int32 → Prop) (hKH7 : ∀ (S : MS) (l0 : Nat) (l1 : Int32) (l2 : Int32) (l3 : Int32) (l4 : Int32), KH7 S l0 l1 l2 l3 l4 → Gd p l e rm_X6_staleness s m args below meth c 8 G (MQ below (QcM G (pI_ post)) args s rm_X6_staleness.cells rm_X6_staleness.slots (Ab G)) 0 0 S 7 [(0, rf l0), (1, .int l1), (2, .int l2), (3, .int l3), (4, .int l4)] []) (KH19 : MS → Nat → Int32 → Int32 → Int32 → Int32 → Int32 → Prop) (hKH19 : ∀ (S : MS) (l0 : Nat) (l1 : Int32) (l2 : Int32) (l3 : Int32) (l4 : Int32) (l5 : Int32), KH19 S l0 l1 l2 l3 l4 l5 → Gd p l e rm_X6_staleness s m args below meth c 8 G (MQ below (QcM G (pI_ post)) args s rm_X6_staleness.cells rm_X6_staleness.slots (Ab G)) 0 0 S 19 [(0, rf l0), (1, .int l1), (2, .int l2), (3, .int l3), (4, .int l4), (5, .int l5)] []) (S : MS) (l0 : Nat) (l1 : Int32) (l2 : Int32) (l3 : Int32) (l4 : Int32) (l5 : Int32) (l6 : Int32) (l7 : Int32), b_X6_staleness_121 KH7 KH19 post S l0 l1 l2 l3 l4 l5 l6 l7 → Gd p l e rm_X6_staleness s m args below meth c 8 G (MQ below (QcM G (pI_ post)) args s rm_X6_staleness.cells rm_X6_staleness.slots (Ab G)) 0 0 S 121 [(0, rf l0), (1, .int l1), (2, .int l2), (3, .int l3), (4, .int l4), (5, .int l5), (6, .int l6), (7, .int l7)] [] := by
    intro KH7 hKH7 KH19 hKH19 S l0 l1 l2 l3 l4 l5 l6 l7 h
    refine gd_iconst (pc := 121) X (0) dX6_staleness_121 (by decide) ?_
    exact g122 _ hKH7 _ hKH19 _ _ _ _ _ _ _ _ _ _ h
  have g117 : ∀ (KH7 : MS → Nat → Int32 → Int32 → Int32 → Int32 → Prop) (hKH7 : ∀ (S : MS) (l0 : Nat) (l1 : Int32) (l2 : Int32) (l3 : Int32) (l4 : Int32), KH7 S l0 l1 l2 l3 l4 → Gd p l e rm_X6_staleness s m args below meth c 8 G (MQ below (QcM G (pI_ post)) args s rm_X6_staleness.cells rm_X6_staleness.slots (Ab G)) 0 0 S 7 [(0, rf l0), (1, .int l1), (2, .int l2), (3, .int l3), (4, .int l4)] []) (KH19 : MS → Nat → Int32 → Int32 → Int32 → Int32 → Int32 → Prop) (hKH19 : ∀ (S : MS) (l0 : Nat) (l1 : Int32) (l2 : Int32) (l3 : Int32) (l4 : Int32) (l5 : Int32), KH19 S l0 l1 l2 l3 l4 l5 → Gd p l e rm_X6_staleness s m args below meth c 8 G (MQ below (QcM G (pI_ post)) args s rm_X6_staleness.cells rm_X6_staleness.slots (Ab G)) 0 0 S 19 [(0, rf l0), (1, .int l1), (2, .int l2), (3, .int l3), (4, .int l4), (5, .int l5)] []) (S : MS) (l0 : Nat) (l1 : Int32) (l2 : Int32) (l3 : Int32) (l4 : Int32) (l5 : Int32) (l6 : Int32) (l7 : Int32), b_X6_staleness_117 KH7 KH19 post S l0 l1 l2 l3 l4 l5 l6 l7 → Gd p l e rm_X6_staleness s m args below meth c 8 G (MQ below (QcM G (pI_ post)) args s rm_X6_staleness.cells rm_X6_staleness.slots (Ab G)) 0 0 S 117 [(0, rf l0), (1, .int l1), (2, .int l2), (3, .int l3), (4, .int l4), (5, .int l5), (6, .int l6), (7, .int l7)] [] := by
    intro KH7 hKH7 KH19 hKH19 S l0 l1 l2 l3 l4 l5 l6 l7 h
    refine gd_iconst (pc := 117) X (1) dX6_staleness_117 (by decide) ?_
    refine gd_goto (pc := 118) X 122 dX6_staleness_118 (by decide) ?_
    exact g122 _ hKH7 _ hKH19 _ _ _ _ _ _ _ _ _ _ h
  have g77 : ∀ (KH7 : MS → Nat → Int32 → Int32 → Int32 → Int32 → Prop) (hKH7 : ∀ (S : MS) (l0 : Nat) (l1 : Int32) (l2 : Int32) (l3 : Int32) (l4 : Int32), KH7 S l0 l1 l2 l3 l4 → Gd p l e rm_X6_staleness s m args below meth c 8 G (MQ below (QcM G (pI_ post)) args s rm_X6_staleness.cells rm_X6_staleness.slots (Ab G)) 0 0 S 7 [(0, rf l0), (1, .int l1), (2, .int l2), (3, .int l3), (4, .int l4)] []) (KH19 : MS → Nat → Int32 → Int32 → Int32 → Int32 → Int32 → Prop) (hKH19 : ∀ (S : MS) (l0 : Nat) (l1 : Int32) (l2 : Int32) (l3 : Int32) (l4 : Int32) (l5 : Int32), KH19 S l0 l1 l2 l3 l4 l5 → Gd p l e rm_X6_staleness s m args below meth c 8 G (MQ below (QcM G (pI_ post)) args s rm_X6_staleness.cells rm_X6_staleness.slots (Ab G)) 0 0 S 19 [(0, rf l0), (1, .int l1), (2, .int l2), (3, .int l3), (4, .int l4), (5, .int l5)] []) (S : MS) (l0 : Nat) (l1 : Int32) (l2 : Int32) (l3 : Int32) (l4 : Int32) (l5 : Int32) (l6 : Int32) (l7 : Int32) (s0 : Int32), b_X6_staleness_77 KH7 KH19 post S l0 l1 l2 l3 l4 l5 l6 l7 s0 → Gd p l e rm_X6_staleness s m args below meth c 8 G (MQ below (QcM G (pI_ post)) args s rm_X6_staleness.cells rm_X6_staleness.slots (Ab G)) 0 0 S 77 [(0, rf l0), (1, .int l1), (2, .int l2), (3, .int l3), (4, .int l4), (5, .int l5), (6, .int l6), (7, .int l7)] [.int s0] := by
    intro KH7 hKH7 KH19 hKH19 S l0 l1 l2 l3 l4 l5 l6 l7 s0 h
    refine gd_istore_n (pc := 77) X dX6_staleness_77 (by decide) (E2 := [(3, .int s0), (0, rf l0), (1, .int l1), (2, .int l2), (4, .int l4), (5, .int l5), (6, .int l6), (7, .int l7)]) rfl ?_
    refine gd_iload_n (pc := 78) X 3 dX6_staleness_78 rfl ?_
    refine gd_if_ne (pc := 79) X 117 dX6_staleness_79 (by decide) (fun hc12 => ?_) (fun hc12 => ?_)
    · have h := h.1 hc12
      refine gd_sub [1, 2, 3, 0, 4, 5, 6, 7] rfl ?_
      exact g117 _ hKH7 _ hKH19 _ _ _ _ _ _ _ _ _ h
    · have h := h.2 hc12
      refine gd_iload (pc := 82) X 7 dX6_staleness_82 rfl ?_
      refine gd_if_eq (pc := 84) X 121 dX6_staleness_84 (by decide) (fun hc11 => ?_) (fun hc11 => ?_)
      · have h := h.1 hc11
        refine gd_sub [1, 2, 3, 0, 4, 5, 6, 7] rfl ?_
        exact g121 _ hKH7 _ hKH19 _ _ _ _ _ _ _ _ _ h
      · have h := h.2 hc11
        refine gd_aload_n (pc := 87) X 1 dX6_staleness_87 rfl ?_
        refine gd_iload_n (pc := 88) X 2 dX6_staleness_88 rfl ?_
        refine gd_iload (pc := 89) X 4 dX6_staleness_89 rfl ?_
        refine gd_iload (pc := 91) X 5 dX6_staleness_91 rfl ?_
        refine gd_aload_n (pc := 93) X 1 dX6_staleness_93 rfl ?_
        refine gd_iload (pc := 94) X 4 dX6_staleness_94 rfl ?_
        refine gd_iconst (pc := 96) X (1) dX6_staleness_96 (by decide) ?_
        refine gd_isub (pc := 97) X dX6_staleness_97 ?_
        refine gd_iload (pc := 98) X 5 dX6_staleness_98 rfl ?_
        obtain ⟨hk1, h⟩ := h
        refine gd_callV (pc := 100) (As := [.int (l4 - 1), .int l5]) (rest := [.int l5, .int l4, .int l1, rf l0]) X (ct_X6_stored l G S l0 (l4 - 1) l5 _ h) mw_X6_stored tw_1132 ci6 rfl hk1 ⟨(Nat.le_of_ble_eq_true rfl), (Nat.le_of_ble_eq_true rfl)⟩ rfl rfl (Nat.le_of_ble_eq_true rfl) dX6_staleness_100 ⟨Nat.le_of_ble_eq_true rfl, Nat.le_of_ble_eq_true rfl⟩ (kI (fun r3 S2 h => ?_))
        refine gd_wide (k2 := 0) (j2 := 0) (Nat.le_of_ble_eq_true rfl) (Nat.le_of_ble_eq_true rfl) ?_
        refine gd_aload_n (pc := 103) X 1 dX6_staleness_103 rfl ?_
        refine gd_iload (pc := 104) X 4 dX6_staleness_104 rfl ?_
        refine gd_iload (pc := 106) X 5 dX6_staleness_106 rfl ?_
        obtain ⟨hk4, h⟩ := h
        refine gd_callV5 (pc := 108) (As := [.int l4, .int l5]) (rest := [.int r3, .int l5, .int l4, .int l1, rf l0]) X (ct_X6_stored l G S2 l0 l4 l5 _ h) mw_X6_stored tw_1132 ci6 rfl hk4 ⟨(Nat.le_of_ble_eq_true rfl), (Nat.le_of_ble_eq_true rfl)⟩ rfl rfl (Nat.le_of_ble_eq_true rfl) (cat1_i (cat1_i (cat1_i (cat1_i (cat1_r cat1_n))))) dX6_staleness_108 ⟨Nat.le_of_ble_eq_true rfl, Nat.le_of_ble_eq_true rfl⟩ (kI (fun r6 S5 h => ?_))
        refine gd_wide (k2 := 0) (j2 := 0) (Nat.le_of_ble_eq_true rfl) (Nat.le_of_ble_eq_true rfl) ?_
        obtain ⟨hk7, h⟩ := h
        refine gd_callV (pc := 111) (As := [.int l1, .int l4, .int l5, .int r3, .int r6]) (rest := []) X (ct_X6_touchesAny l G S5 l0 l1 l4 l5 r3 r6 _ h) mw_X6_touchesAny tw_1195 ci6 rfl hk7 ⟨(Nat.le_of_ble_eq_true rfl), (Nat.le_of_ble_eq_true rfl)⟩ rfl rfl (Nat.le_of_ble_eq_true rfl) dX6_staleness_111 ⟨Nat.le_of_ble_eq_true rfl, Nat.le_of_ble_eq_true rfl⟩ (kI (fun r9 S8 h => ?_))
        refine gd_wide (k2 := 0) (j2 := 0) (Nat.le_of_ble_eq_true rfl) (Nat.le_of_ble_eq_true rfl) ?_
        refine gd_if_eq (pc := 114) X 121 dX6_staleness_114 (by decide) (fun hc10 => ?_) (fun hc10 => ?_)
        · have h := h.1 hc10
          refine gd_sub [1, 2, 3, 0, 4, 5, 6, 7] rfl ?_
          exact g121 _ hKH7 _ hKH19 _ _ _ _ _ _ _ _ _ h
        · have h := h.2 hc10
          refine gd_sub [1, 2, 3, 0, 4, 5, 6, 7] rfl ?_
          exact g117 _ hKH7 _ hKH19 _ _ _ _ _ _ _ _ _ h
  have g76 : ∀ (KH7 : MS → Nat → Int32 → Int32 → Int32 → Int32 → Prop) (hKH7 : ∀ (S : MS) (l0 : Nat) (l1 : Int32) (l2 : Int32) (l3 : Int32) (l4 : Int32), KH7 S l0 l1 l2 l3 l4 → Gd p l e rm_X6_staleness s m args below meth c 8 G (MQ below (QcM G (pI_ post)) args s rm_X6_staleness.cells rm_X6_staleness.slots (Ab G)) 0 0 S 7 [(0, rf l0), (1, .int l1), (2, .int l2), (3, .int l3), (4, .int l4)] []) (KH19 : MS → Nat → Int32 → Int32 → Int32 → Int32 → Int32 → Prop) (hKH19 : ∀ (S : MS) (l0 : Nat) (l1 : Int32) (l2 : Int32) (l3 : Int32) (l4 : Int32) (l5 : Int32), KH19 S l0 l1 l2 l3 l4 l5 → Gd p l e rm_X6_staleness s m args below meth c 8 G (MQ below (QcM G (pI_ post)) args s rm_X6_staleness.cells rm_X6_staleness.slots (Ab G)) 0 0 S 19 [(0, rf l0), (1, .int l1), (2, .int l2), (3, .int l3), (4, .int l4), (5, .int l5)] []) (S : MS) (l0 : Nat) (l1 : Int32) (l2 : Int32) (l3 : Int32) (l4 : Int32) (l5 : Int32) (l6 : Int32) (l7 : Int32), b_X6_staleness_76 KH7 KH19 post S l0 l1 l2 l3 l4 l5 l6 l7 → Gd p l e rm_X6_staleness s m args below meth c 8 G (MQ below (QcM G (pI_ post)) args s rm_X6_staleness.cells rm_X6_staleness.slots (Ab G)) 0 0 S 76 [(0, rf l0), (1, .int l1), (2, .int l2), (3, .int l3), (4, .int l4), (5, .int l5), (6, .int l6), (7, .int l7)] [] := by
    intro KH7 hKH7 KH19 hKH19 S l0 l1 l2 l3 l4 l5 l6 l7 h
    refine gd_iconst (pc := 76) X (0) dX6_staleness_76 (by decide) ?_
    exact g77 _ hKH7 _ hKH19 _ _ _ _ _ _ _ _ _ _ h
  have g72 : ∀ (KH7 : MS → Nat → Int32 → Int32 → Int32 → Int32 → Prop) (hKH7 : ∀ (S : MS) (l0 : Nat) (l1 : Int32) (l2 : Int32) (l3 : Int32) (l4 : Int32), KH7 S l0 l1 l2 l3 l4 → Gd p l e rm_X6_staleness s m args below meth c 8 G (MQ below (QcM G (pI_ post)) args s rm_X6_staleness.cells rm_X6_staleness.slots (Ab G)) 0 0 S 7 [(0, rf l0), (1, .int l1), (2, .int l2), (3, .int l3), (4, .int l4)] []) (KH19 : MS → Nat → Int32 → Int32 → Int32 → Int32 → Int32 → Prop) (hKH19 : ∀ (S : MS) (l0 : Nat) (l1 : Int32) (l2 : Int32) (l3 : Int32) (l4 : Int32) (l5 : Int32), KH19 S l0 l1 l2 l3 l4 l5 → Gd p l e rm_X6_staleness s m args below meth c 8 G (MQ below (QcM G (pI_ post)) args s rm_X6_staleness.cells rm_X6_staleness.slots (Ab G)) 0 0 S 19 [(0, rf l0), (1, .int l1), (2, .int l2), (3, .int l3), (4, .int l4), (5, .int l5)] []) (S : MS) (l0 : Nat) (l1 : Int32) (l2 : Int32) (l3 : Int32) (l4 : Int32) (l5 : Int32) (l6 : Int32) (l7 : Int32), b_X6_staleness_72 KH7 KH19 post S l0 l1 l2 l3 l4 l5 l6 l7 → Gd p l e rm_X6_staleness s m args below meth c 8 G (MQ below (QcM G (pI_ post)) args s rm_X6_staleness.cells rm_X6_staleness.slots (Ab G)) 0 0 S 72 [(0, rf l0), (1, .int l1), (2, .int l2), (3, .int l3), (4, .int l4), (5, .int l5), (6, .int l6), (7, .int l7)] [] := by
    intro KH7 hKH7 KH19 hKH19 S l0 l1 l2 l3 l4 l5 l6 l7 h
    refine gd_iconst (pc := 72) X (1) dX6_staleness_72 (by decide) ?_
    refine gd_goto (pc := 73) X 77 dX6_staleness_73 (by decide) ?_
    exact g77 _ hKH7 _ hKH19 _ _ _ _ _ _ _ _ _ _ h
  have g19 : ∀ (KH7 : MS → Nat → Int32 → Int32 → Int32 → Int32 → Prop) (hKH7 : ∀ (S : MS) (l0 : Nat) (l1 : Int32) (l2 : Int32) (l3 : Int32) (l4 : Int32), KH7 S l0 l1 l2 l3 l4 → Gd p l e rm_X6_staleness s m args below meth c 8 G (MQ below (QcM G (pI_ post)) args s rm_X6_staleness.cells rm_X6_staleness.slots (Ab G)) 0 0 S 7 [(0, rf l0), (1, .int l1), (2, .int l2), (3, .int l3), (4, .int l4)] []) (f : Nat) (S : MS) (l0 : Nat) (l1 : Int32) (l2 : Int32) (l3 : Int32) (l4 : Int32) (l5 : Int32), b_X6_staleness_19 KH7 post f S l0 l1 l2 l3 l4 l5 → Gd p l e rm_X6_staleness s m args below meth c 8 G (MQ below (QcM G (pI_ post)) args s rm_X6_staleness.cells rm_X6_staleness.slots (Ab G)) 0 0 S 19 [(0, rf l0), (1, .int l1), (2, .int l2), (3, .int l3), (4, .int l4), (5, .int l5)] [] := by
    intro KH7 hKH7
    intro f
    induction f with
    | zero => intro S l0 l1 l2 l3 l4 l5 h; exact h.elim
    | succ f ih =>
      intro S l0 l1 l2 l3 l4 l5 h
      refine gd_iload (pc := 19) X 5 dX6_staleness_19 rfl ?_
      refine gd_bipush (pc := 21) X (32) dX6_staleness_21 (by decide) ?_
      refine gd_icmp_ge (pc := 23) X 129 dX6_staleness_23 (by decide) (fun hc12 => ?_) (fun hc12 => ?_)
      · have h := h.1 hc12
        obtain ⟨v1, hv1⟩ : ∃ z : Int32, z = l4 + 1 := ⟨_, rfl⟩
        have h := h v1 hv1
        refine gd_iinc (pc := 129) (v := v1) X 4 dX6_staleness_129 rfl (by rw [hv1]; rfl) (by decide) (E2 := [(4, .int v1), (0, rf l0), (1, .int l1), (2, .int l2), (3, .int l3), (5, .int l5)]) rfl ?_
        refine gd_goto (pc := 132) X 7 dX6_staleness_132 (by decide) ?_
        refine gd_sub [1, 2, 3, 4, 0] rfl ?_
        exact hKH7 _ _ _ _ _ _ h
      · have h := h.2 hc12
        refine gd_aload_n (pc := 26) X 0 dX6_staleness_26 rfl ?_
        obtain ⟨hk2, h⟩ := h
        refine gd_getR (pc := 27) (kf := 9) X ci6 (by decide) rfl tw_992 dX6_staleness_27 hk2 ?_
        refine gd_bipush (pc := 30) X (32) dX6_staleness_30 (by decide) ?_
        refine gd_iload_n (pc := 32) X 1 dX6_staleness_32 rfl ?_
        refine gd_imul (pc := 33) X dX6_staleness_33 ?_
        refine gd_iload (pc := 34) X 5 dX6_staleness_34 rfl ?_
        refine gd_iadd (pc := 36) X dX6_staleness_36 ?_
        obtain ⟨hk3, h⟩ := h
        obtain ⟨hi4, h⟩ := h
        refine gd_iald (pc := 37) X dX6_staleness_37 hk3 hi4 ?_
        refine gd_topI (fun v5 hv5 => ?_)
        have h := h v5 hv5
        refine gd_istore (pc := 38) X dX6_staleness_38 (by decide) (E2 := [(6, .int v5), (0, rf l0), (1, .int l1), (2, .int l2), (3, .int l3), (4, .int l4), (5, .int l5)]) rfl ?_
        refine gd_aload_n (pc := 40) X 1 dX6_staleness_40 rfl ?_
        refine gd_iload (pc := 41) X 5 dX6_staleness_41 rfl ?_
        refine gd_iload (pc := 43) X 6 dX6_staleness_43 rfl ?_
        refine gd_callV (pc := 45) (As := [.int l4, .int l5]) (rest := []) X (ct_X6_hasWritten l G S l0 l4 l5 _ h) mw_X6_hasWritten tw_1191 ci6 rfl hk2 ⟨(Nat.le_of_ble_eq_true rfl), (Nat.le_of_ble_eq_true rfl)⟩ rfl rfl (Nat.le_of_ble_eq_true rfl) dX6_staleness_45 ⟨Nat.le_of_ble_eq_true rfl, Nat.le_of_ble_eq_true rfl⟩ (kI (fun r7 S6 h => ?_))
        refine gd_wide (k2 := 0) (j2 := 0) (Nat.le_of_ble_eq_true rfl) (Nat.le_of_ble_eq_true rfl) ?_
        refine gd_istore (pc := 48) X dX6_staleness_48 (by decide) (E2 := [(7, .int r7), (6, .int v5), (0, rf l0), (1, .int l1), (2, .int l2), (3, .int l3), (4, .int l4), (5, .int l5)]) rfl ?_
        refine gd_iload_n (pc := 50) X 5 dX6_staleness_50 rfl ?_
        refine gd_if_ne (pc := 51) X 72 dX6_staleness_51 (by decide) (fun hc11 => ?_) (fun hc11 => ?_)
        · have h := h.1 hc11
          refine gd_sub [2, 3, 4, 5, 6, 7, 1, 0] rfl ?_
          exact g72 _ hKH7 _ ih _ _ _ _ _ _ _ _ _ h
        · have h := h.2 hc11
          refine gd_iload (pc := 54) X 0 dX6_staleness_54 rfl ?_
          refine gd_if_eq (pc := 56) X 76 dX6_staleness_56 (by decide) (fun hc10 => ?_) (fun hc10 => ?_)
          · have h := h.1 hc10
            refine gd_sub [2, 3, 4, 5, 6, 7, 1, 0] rfl ?_
            exact g76 _ hKH7 _ ih _ _ _ _ _ _ _ _ _ h
          · have h := h.2 hc10
            refine gd_iload (pc := 59) X 1 dX6_staleness_59 rfl ?_
            refine gd_iconst (pc := 61) X (-1) dX6_staleness_61 (by decide) ?_
            refine gd_icmp_eq (pc := 62) X 76 dX6_staleness_62 (by decide) (fun hc9 => ?_) (fun hc9 => ?_)
            · have h := h.1 hc9
              refine gd_sub [2, 3, 4, 5, 6, 7, 1, 0] rfl ?_
              exact g76 _ hKH7 _ ih _ _ _ _ _ _ _ _ _ h
            · have h := h.2 hc9
              refine gd_iload (pc := 65) X 1 dX6_staleness_65 rfl ?_
              refine gd_iload (pc := 67) X 6 dX6_staleness_67 rfl ?_
              refine gd_icmp_ge (pc := 69) X 76 dX6_staleness_69 (by decide) (fun hc8 => ?_) (fun hc8 => ?_)
              · have h := h.1 hc8
                refine gd_sub [2, 3, 4, 5, 6, 7, 1, 0] rfl ?_
                exact g76 _ hKH7 _ ih _ _ _ _ _ _ _ _ _ h
              · have h := h.2 hc8
                refine gd_sub [2, 3, 4, 5, 6, 7, 1, 0] rfl ?_
                exact g72 _ hKH7 _ ih _ _ _ _ _ _ _ _ _ h
  have g7 : ∀ (f : Nat) (S : MS) (l0 : Nat) (l1 : Int32) (l2 : Int32) (l3 : Int32) (l4 : Int32), b_X6_staleness_7 post f S l0 l1 l2 l3 l4 → Gd p l e rm_X6_staleness s m args below meth c 8 G (MQ below (QcM G (pI_ post)) args s rm_X6_staleness.cells rm_X6_staleness.slots (Ab G)) 0 0 S 7 [(0, rf l0), (1, .int l1), (2, .int l2), (3, .int l3), (4, .int l4)] [] := by
    intro f
    induction f with
    | zero => intro S l0 l1 l2 l3 l4 h; exact h.elim
    | succ f ih =>
      intro S l0 l1 l2 l3 l4 h
      refine gd_iload (pc := 7) X 4 dX6_staleness_7 rfl ?_
      refine gd_aload_n (pc := 9) X 0 dX6_staleness_9 rfl ?_
      obtain ⟨hk1, h⟩ := h
      refine gd_getI (pc := 10) (kf := 14) X ci6 (by decide) rfl tw_997 dX6_staleness_10 hk1 ?_
      refine gd_icmp_gt (pc := 13) X 135 dX6_staleness_13 (by decide) (fun hc4 => ?_) (fun hc4 => ?_)
      · have h := h.1 hc4
        refine gd_iload_n (pc := 135) X 3 dX6_staleness_135 rfl ?_
        refine gd_if_eq (pc := 136) X 143 dX6_staleness_136 (by decide) (fun hc3 => ?_) (fun hc3 => ?_)
        · have h := h.1 hc3
          refine gd_iload_n (pc := 143) X 2 dX6_staleness_143 rfl ?_
          refine gd_if_eq (pc := 144) X 151 dX6_staleness_144 (by decide) (fun hc2 => ?_) (fun hc2 => ?_)
          · have h := h.1 hc2
            refine gd_iconst (pc := 151) X (0) dX6_staleness_151 (by decide) ?_
            exact g152 _ _ _ _ _ _ _ h
          · have h := h.2 hc2
            refine gd_iconst (pc := 147) X (2) dX6_staleness_147 (by decide) ?_
            refine gd_goto (pc := 148) X 152 dX6_staleness_148 (by decide) ?_
            exact g152 _ _ _ _ _ _ _ h
        · have h := h.2 hc3
          refine gd_iconst (pc := 139) X (1) dX6_staleness_139 (by decide) ?_
          refine gd_goto (pc := 140) X 152 dX6_staleness_140 (by decide) ?_
          exact g152 _ _ _ _ _ _ _ h
      · have h := h.2 hc4
        refine gd_iconst (pc := 16) X (0) dX6_staleness_16 (by decide) ?_
        refine gd_istore (pc := 17) X dX6_staleness_17 (by decide) (E2 := [(5, .int 0), (0, rf l0), (1, .int l1), (2, .int l2), (3, .int l3), (4, .int l4)]) rfl ?_
        refine gd_sub [1, 2, 3, 4, 5, 0] rfl ?_
        obtain ⟨f19, h⟩ := h
        exact g19 _ ih f19 _ _ _ _ _ _ _ h
  intro h
  refine gd_iconst (pc := 0) X (0) dX6_staleness_0 (by decide) ?_
  refine gd_istore_n (pc := 1) X dX6_staleness_1 (by decide) (E2 := [(2, .int 0), (0, rf a0), (1, .int a1)]) rfl ?_
  refine gd_iconst (pc := 2) X (0) dX6_staleness_2 (by decide) ?_
  refine gd_istore_n (pc := 3) X dX6_staleness_3 (by decide) (E2 := [(3, .int 0), (2, .int 0), (0, rf a0), (1, .int a1)]) rfl ?_
  refine gd_iconst (pc := 4) X (1) dX6_staleness_4 (by decide) ?_
  refine gd_istore (pc := 5) X dX6_staleness_5 (by decide) (E2 := [(4, .int 1), (3, .int 0), (2, .int 0), (0, rf a0), (1, .int a1)]) rfl ?_
  refine gd_sub [3, 4, 2, 1, 0] rfl ?_
  obtain ⟨f7, h⟩ := h
  exact g7 f7 _ _ _ _ _ _ h
abbrev rm_X6_activeProblem : Room := { frames := 2, cells := 0, slots := 0, locals := 43 }
def b_X6_activeProblem_26 (post : Int32 → MS → Prop) (S : MS) (l0 : Nat) (l1 : Int32) (s0 : Int32) : Prop := post s0 S
def w_X6_activeProblem (S : MS) (a0 : Nat) (a1 : Int32) (post : Int32 → MS → Prop) : Prop := kT S a0 = 7 ∧ w_X6_isTransaction S a0 a1 (fun r3 S2 => ((¬ r3 = 0 → kT S2 a0 = 7 ∧ kT S2 (sR S2 a0 2) = 9 ∧ vp_in a1 (kL S2 (sR S2 a0 2)) ∧ (((sI S2 (sR S2 a0 2) (ix a1)) = 0 → b_X6_activeProblem_26 post S2 a0 a1 0) ∧ (¬ (sI S2 (sR S2 a0 2) (ix a1)) = 0 → b_X6_activeProblem_26 post S2 a0 a1 2))) ∧ (r3 = 0 → b_X6_activeProblem_26 post S2 a0 a1 1)))
set_option maxHeartbeats 4000000 in
set_option maxRecDepth 100000 in
theorem ct_X6_activeProblem (l : Launch) (G : GP) (S : MS) (a0 : Nat) (a1 : Int32) (post : Int32 → MS → Prop) (h : w_X6_activeProblem S a0 a1 post) : MetM l yX6_activeProblem cX6_activeProblem 2 (some .int) rm_X6_activeProblem [rf a0, .int a1] G S (pI_ post) := by
  refine met_of (by decide) (cat1_r (cat1_i cat1_n)) (Nat.le_of_ble_eq_true rfl) ?_
  intro p e s m args below meth c X hr hlk hin
  revert h
  have g26 : ∀ (S : MS) (l0 : Nat) (l1 : Int32) (s0 : Int32), b_X6_activeProblem_26 post S l0 l1 s0 → Gd p l e rm_X6_activeProblem s m args below meth c 2 G (MQ below (QcM G (pI_ post)) args s rm_X6_activeProblem.cells rm_X6_activeProblem.slots (Ab G)) 0 0 S 26 [(0, rf l0), (1, .int l1)] [.int s0] := by
    intro S l0 l1 s0 h
    exact (gd_ret_i (pc := 26) X hr hlk rfl (by decide) (by decide) dX6_activeProblem_26 ⟨_, rfl, h⟩)
  intro h
  refine gd_aload_n (pc := 0) X 0 dX6_activeProblem_0 rfl ?_
  refine gd_iload_n (pc := 1) X 1 dX6_activeProblem_1 rfl ?_
  obtain ⟨hk1, h⟩ := h
  refine gd_callV (pc := 2) (As := [.int a1]) (rest := []) X (ct_X6_isTransaction l G S a0 a1 _ h) mw_X6_isTransaction tw_1109 ci6 rfl hk1 ⟨(Nat.le_of_ble_eq_true rfl), (Nat.le_of_ble_eq_true rfl)⟩ rfl rfl (Nat.le_of_ble_eq_true rfl) dX6_activeProblem_2 ⟨Nat.le_of_ble_eq_true rfl, Nat.le_of_ble_eq_true rfl⟩ (kI (fun r3 S2 h => ?_))
  refine gd_wide (k2 := 0) (j2 := 0) (Nat.le_of_ble_eq_true rfl) (Nat.le_of_ble_eq_true rfl) ?_
  refine gd_if_ne (pc := 5) X 12 dX6_activeProblem_5 (by decide) (fun hc8 => ?_) (fun hc8 => ?_)
  · have h := h.1 hc8
    refine gd_aload_n (pc := 12) X 0 dX6_activeProblem_12 rfl ?_
    obtain ⟨hk4, h⟩ := h
    refine gd_getR (pc := 13) (kf := 2) X ci6 (by decide) rfl tw_985 dX6_activeProblem_13 hk4 ?_
    refine gd_iload_n (pc := 16) X 1 dX6_activeProblem_16 rfl ?_
    obtain ⟨hk5, h⟩ := h
    obtain ⟨hi6, h⟩ := h
    refine gd_iald (pc := 17) X dX6_activeProblem_17 hk5 hi6 ?_
    refine gd_if_eq (pc := 18) X 25 dX6_activeProblem_18 (by decide) (fun hc7 => ?_) (fun hc7 => ?_)
    · have h := h.1 hc7
      refine gd_iconst (pc := 25) X (0) dX6_activeProblem_25 (by decide) ?_
      exact g26 _ _ _ _ h
    · have h := h.2 hc7
      refine gd_iconst (pc := 21) X (2) dX6_activeProblem_21 (by decide) ?_
      refine gd_goto (pc := 22) X 26 dX6_activeProblem_22 (by decide) ?_
      exact g26 _ _ _ _ h
  · have h := h.2 hc8
    refine gd_iconst (pc := 8) X (1) dX6_activeProblem_8 (by decide) ?_
    refine gd_goto (pc := 9) X 26 dX6_activeProblem_9 (by decide) ?_
    exact g26 _ _ _ _ h
abbrev rm_X6_isStale : Room := { frames := 4, cells := 0, slots := 0, locals := 101 }
def b_X6_isStale_29 (post : Int32 → MS → Prop) (S : MS) (l0 : Nat) (l1 : Int32) (s0 : Int32) : Prop := narrow .boolean (.int s0) = .int s0 ∧ post s0 S
def b_X6_isStale_28 (post : Int32 → MS → Prop) (S : MS) (l0 : Nat) (l1 : Int32) : Prop := b_X6_isStale_29 post S l0 l1 0
def w_X6_isStale (S : MS) (a0 : Nat) (a1 : Int32) (post : Int32 → MS → Prop) : Prop := kT S a0 = 7 ∧ w_X6_activeProblem S a0 a1 (fun r3 S2 => kT S2 a0 = 7 ∧ ∀ S5 : MS, S5 = pI S2 a0 0 r3 → ((¬ (sI S5 a0 0) = 0 → b_X6_isStale_28 post S5 a0 a1) ∧ ((sI S5 a0 0) = 0 → w_X6_staleness S5 a0 a1 (fun r8 S7 => ((r8 ≤ 0 → b_X6_isStale_28 post S7 a0 a1) ∧ (¬ r8 ≤ 0 → b_X6_isStale_29 post S7 a0 a1 1))))))
set_option maxHeartbeats 4000000 in
set_option maxRecDepth 100000 in
theorem ct_X6_isStale (l : Launch) (G : GP) (S : MS) (a0 : Nat) (a1 : Int32) (post : Int32 → MS → Prop) (h : w_X6_isStale S a0 a1 post) : MetM l yX6_isStale cX6_isStale 2 (some .boolean) rm_X6_isStale [rf a0, .int a1] G S (pI_ post) := by
  refine met_of (by decide) (cat1_r (cat1_i cat1_n)) (Nat.le_of_ble_eq_true rfl) ?_
  intro p e s m args below meth c X hr hlk hin
  revert h
  have g29 : ∀ (S : MS) (l0 : Nat) (l1 : Int32) (s0 : Int32), b_X6_isStale_29 post S l0 l1 s0 → Gd p l e rm_X6_isStale s m args below meth c 2 G (MQ below (QcM G (pI_ post)) args s rm_X6_isStale.cells rm_X6_isStale.slots (Ab G)) 0 0 S 29 [(0, rf l0), (1, .int l1)] [.int s0] := by
    intro S l0 l1 s0 h
    obtain ⟨hnz, h⟩ := h
    exact (gd_ret_i (pc := 29) X hr hlk hnz (by decide) (by decide) dX6_isStale_29 ⟨_, rfl, h⟩)
  have g28 : ∀ (S : MS) (l0 : Nat) (l1 : Int32), b_X6_isStale_28 post S l0 l1 → Gd p l e rm_X6_isStale s m args below meth c 2 G (MQ below (QcM G (pI_ post)) args s rm_X6_isStale.cells rm_X6_isStale.slots (Ab G)) 0 0 S 28 [(0, rf l0), (1, .int l1)] [] := by
    intro S l0 l1 h
    refine gd_iconst (pc := 28) X (0) dX6_isStale_28 (by decide) ?_
    exact g29 _ _ _ _ h
  intro h
  refine gd_aload_n (pc := 0) X 0 dX6_isStale_0 rfl ?_
  refine gd_aload_n (pc := 1) X 0 dX6_isStale_1 rfl ?_
  refine gd_iload_n (pc := 2) X 1 dX6_isStale_2 rfl ?_
  obtain ⟨hk1, h⟩ := h
  refine gd_callV (pc := 3) (As := [.int a1]) (rest := [rf a0]) X (ct_X6_activeProblem l G S a0 a1 _ h) mw_X6_activeProblem tw_1183 ci6 rfl hk1 ⟨(Nat.le_of_ble_eq_true rfl), (Nat.le_of_ble_eq_true rfl)⟩ rfl rfl (Nat.le_of_ble_eq_true rfl) dX6_isStale_3 ⟨Nat.le_of_ble_eq_true rfl, Nat.le_of_ble_eq_true rfl⟩ (kI (fun r3 S2 h => ?_))
  refine gd_wide (k2 := 0) (j2 := 0) (Nat.le_of_ble_eq_true rfl) (Nat.le_of_ble_eq_true rfl) ?_
  obtain ⟨hk4, h⟩ := h
  refine gd_putI (pc := 6) (kf := 0) X ci6 (by decide) rfl rfl tw_983 rfl rfl dX6_isStale_6 hk4 ?_
  refine gd_topS (fun S5 hS5 => ?_)
  have h := h S5 hS5
  have hk6 : kT S5 a0 = 7 := by rw [hS5]; exact hk4
  refine gd_aload_n (pc := 9) X 0 dX6_isStale_9 rfl ?_
  refine gd_getI (pc := 10) (kf := 0) X ci6 (by decide) rfl tw_983 dX6_isStale_10 hk6 ?_
  refine gd_if_ne (pc := 13) X 28 dX6_isStale_13 (by decide) (fun hc10 => ?_) (fun hc10 => ?_)
  · have h := h.1 hc10
    exact g28 _ _ _ h
  · have h := h.2 hc10
    refine gd_aload_n (pc := 16) X 0 dX6_isStale_16 rfl ?_
    refine gd_iload_n (pc := 17) X 1 dX6_isStale_17 rfl ?_
    refine gd_callV (pc := 18) (As := [.int a1]) (rest := []) X (ct_X6_staleness l G S5 a0 a1 _ h) mw_X6_staleness tw_1187 ci6 rfl hk6 ⟨(Nat.le_of_ble_eq_true rfl), (Nat.le_of_ble_eq_true rfl)⟩ rfl rfl (Nat.le_of_ble_eq_true rfl) dX6_isStale_18 ⟨Nat.le_of_ble_eq_true rfl, Nat.le_of_ble_eq_true rfl⟩ (kI (fun r8 S7 h => ?_))
    refine gd_wide (k2 := 0) (j2 := 0) (Nat.le_of_ble_eq_true rfl) (Nat.le_of_ble_eq_true rfl) ?_
    refine gd_if_le (pc := 21) X 28 dX6_isStale_21 (by decide) (fun hc9 => ?_) (fun hc9 => ?_)
    · have h := h.1 hc9
      exact g28 _ _ _ h
    · have h := h.2 hc9
      refine gd_iconst (pc := 24) X (1) dX6_isStale_24 (by decide) ?_
      refine gd_goto (pc := 25) X 29 dX6_isStale_25 (by decide) ?_
      exact g29 _ _ _ _ h
abbrev rm_X6_rivals : Room := { frames := 6, cells := 0, slots := 0, locals := 144 }
def b_X6_rivals_25 (post : Int32 → MS → Prop) (S : MS) (l0 : Nat) (l1 : Int32) (s0 : Int32) : Prop := post s0 S
def w_X6_rivals (S : MS) (a0 : Nat) (a1 : Int32) (post : Int32 → MS → Prop) : Prop := kT S a0 = 7 ∧ w_X6_activeProblem S a0 a1 (fun r3 S2 => kT S2 a0 = 7 ∧ ∀ S5 : MS, S5 = pI S2 a0 0 r3 → ((¬ (sI S5 a0 0) = 0 → b_X6_rivals_25 post S5 a0 a1 0) ∧ ((sI S5 a0 0) = 0 → w_X6_countRivals S5 a0 a1 (fun r8 S7 => b_X6_rivals_25 post S7 a0 a1 r8))))
set_option maxHeartbeats 4000000 in
set_option maxRecDepth 100000 in
theorem ct_X6_rivals (l : Launch) (G : GP) (S : MS) (a0 : Nat) (a1 : Int32) (post : Int32 → MS → Prop) (h : w_X6_rivals S a0 a1 post) : MetM l yX6_rivals cX6_rivals 2 (some .int) rm_X6_rivals [rf a0, .int a1] G S (pI_ post) := by
  refine met_of (by decide) (cat1_r (cat1_i cat1_n)) (Nat.le_of_ble_eq_true rfl) ?_
  intro p e s m args below meth c X hr hlk hin
  revert h
  have g25 : ∀ (S : MS) (l0 : Nat) (l1 : Int32) (s0 : Int32), b_X6_rivals_25 post S l0 l1 s0 → Gd p l e rm_X6_rivals s m args below meth c 2 G (MQ below (QcM G (pI_ post)) args s rm_X6_rivals.cells rm_X6_rivals.slots (Ab G)) 0 0 S 25 [(0, rf l0), (1, .int l1)] [.int s0] := by
    intro S l0 l1 s0 h
    exact (gd_ret_i (pc := 25) X hr hlk rfl (by decide) (by decide) dX6_rivals_25 ⟨_, rfl, h⟩)
  intro h
  refine gd_aload_n (pc := 0) X 0 dX6_rivals_0 rfl ?_
  refine gd_aload_n (pc := 1) X 0 dX6_rivals_1 rfl ?_
  refine gd_iload_n (pc := 2) X 1 dX6_rivals_2 rfl ?_
  obtain ⟨hk1, h⟩ := h
  refine gd_callV (pc := 3) (As := [.int a1]) (rest := [rf a0]) X (ct_X6_activeProblem l G S a0 a1 _ h) mw_X6_activeProblem tw_1183 ci6 rfl hk1 ⟨(Nat.le_of_ble_eq_true rfl), (Nat.le_of_ble_eq_true rfl)⟩ rfl rfl (Nat.le_of_ble_eq_true rfl) dX6_rivals_3 ⟨Nat.le_of_ble_eq_true rfl, Nat.le_of_ble_eq_true rfl⟩ (kI (fun r3 S2 h => ?_))
  refine gd_wide (k2 := 0) (j2 := 0) (Nat.le_of_ble_eq_true rfl) (Nat.le_of_ble_eq_true rfl) ?_
  obtain ⟨hk4, h⟩ := h
  refine gd_putI (pc := 6) (kf := 0) X ci6 (by decide) rfl rfl tw_983 rfl rfl dX6_rivals_6 hk4 ?_
  refine gd_topS (fun S5 hS5 => ?_)
  have h := h S5 hS5
  have hk6 : kT S5 a0 = 7 := by rw [hS5]; exact hk4
  refine gd_aload_n (pc := 9) X 0 dX6_rivals_9 rfl ?_
  refine gd_getI (pc := 10) (kf := 0) X ci6 (by decide) rfl tw_983 dX6_rivals_10 hk6 ?_
  refine gd_if_ne (pc := 13) X 24 dX6_rivals_13 (by decide) (fun hc9 => ?_) (fun hc9 => ?_)
  · have h := h.1 hc9
    refine gd_iconst (pc := 24) X (0) dX6_rivals_24 (by decide) ?_
    exact g25 _ _ _ _ h
  · have h := h.2 hc9
    refine gd_aload_n (pc := 16) X 0 dX6_rivals_16 rfl ?_
    refine gd_iload_n (pc := 17) X 1 dX6_rivals_17 rfl ?_
    refine gd_callV (pc := 18) (As := [.int a1]) (rest := []) X (ct_X6_countRivals l G S5 a0 a1 _ h) mw_X6_countRivals tw_1207 ci6 rfl hk6 ⟨(Nat.le_of_ble_eq_true rfl), (Nat.le_of_ble_eq_true rfl)⟩ rfl rfl (Nat.le_of_ble_eq_true rfl) dX6_rivals_18 ⟨Nat.le_of_ble_eq_true rfl, Nat.le_of_ble_eq_true rfl⟩ (kI (fun r8 S7 h => ?_))
    refine gd_wide (k2 := 0) (j2 := 0) (Nat.le_of_ble_eq_true rfl) (Nat.le_of_ble_eq_true rfl) ?_
    refine gd_goto (pc := 21) X 25 dX6_rivals_21 (by decide) ?_
    exact g25 _ _ _ _ h
abbrev rm_X6_endWith : Room := { frames := 0, cells := 0, slots := 0, locals := 0 }
def b_X6_endWith_31 (post : MS → Prop) (S : MS) (l0 : Nat) (l1 : Int32) (l2 : Int32) (s0 : Int32) (s1 : Nat) : Prop := kT S s1 = 7 ∧ ∀ S2 : MS, S2 = pI S s1 13 s0 → post S2
def w_X6_endWith (S : MS) (a0 : Nat) (a1 : Int32) (a2 : Int32) (post : MS → Prop) : Prop := kT S a0 = 7 ∧ kT S (sR S a0 2) = 9 ∧ vp_in a1 (kL S (sR S a0 2)) ∧ ∀ S4 : MS, S4 = pI S (sR S a0 2) (ix a1) 2 → kT S4 (sR S4 a0 4) = 9 ∧ vp_in a1 (kL S4 (sR S4 a0 4)) ∧ ∀ S9 : MS, S9 = pI S4 (sR S4 a0 4) (ix a1) a2 → ((¬ (sI S9 a0 13) = a1 → b_X6_endWith_31 post S9 a0 a1 a2 (sI S9 a0 13) a0) ∧ ((sI S9 a0 13) = a1 → b_X6_endWith_31 post S9 a0 a1 a2 ((-1)) a0))
set_option maxHeartbeats 4000000 in
set_option maxRecDepth 100000 in
theorem ct_X6_endWith (l : Launch) (G : GP) (S : MS) (a0 : Nat) (a1 : Int32) (a2 : Int32) (post : MS → Prop) (h : w_X6_endWith S a0 a1 a2 post) : MetM l yX6_endWith cX6_endWith 3 none rm_X6_endWith [rf a0, .int a1, .int a2] G S (pV_ post) := by
  refine met_of (by decide) (cat1_r (cat1_i (cat1_i cat1_n))) (Nat.le_of_ble_eq_true rfl) ?_
  intro p e s m args below meth c X hr hlk hin
  revert h
  have g31 : ∀ (S : MS) (l0 : Nat) (l1 : Int32) (l2 : Int32) (s0 : Int32) (s1 : Nat), b_X6_endWith_31 post S l0 l1 l2 s0 s1 → Gd p l e rm_X6_endWith s m args below meth c 3 G (MQ below (QcM G (pV_ post)) args s rm_X6_endWith.cells rm_X6_endWith.slots (Ab G)) 0 0 S 31 [(0, rf l0), (1, .int l1), (2, .int l2)] [.int s0, rf s1] := by
    intro S l0 l1 l2 s0 s1 h
    obtain ⟨hk1, h⟩ := h
    refine gd_putI (pc := 31) (kf := 13) X ci6 (by decide) rfl rfl tw_996 rfl rfl dX6_endWith_31 hk1 ?_
    refine gd_topS (fun S2 hS2 => ?_)
    have h := h S2 hS2
    have hk3 : kT S2 s1 = 7 := by rw [hS2]; exact hk1
    exact (gd_ret_v (pc := 34) X hr hlk (by decide) (by decide) dX6_endWith_34 ⟨rfl, h⟩)
  intro h
  refine gd_aload_n (pc := 0) X 0 dX6_endWith_0 rfl ?_
  obtain ⟨hk1, h⟩ := h
  refine gd_getR (pc := 1) (kf := 2) X ci6 (by decide) rfl tw_985 dX6_endWith_1 hk1 ?_
  refine gd_iload_n (pc := 4) X 1 dX6_endWith_4 rfl ?_
  refine gd_iconst (pc := 5) X (2) dX6_endWith_5 (by decide) ?_
  obtain ⟨hk2, h⟩ := h
  obtain ⟨hi3, h⟩ := h
  refine gd_iast (pc := 6) X dX6_endWith_6 hk2 hi3 ?_
  refine gd_topS (fun S4 hS4 => ?_)
  have h := h S4 hS4
  have hk5 : kT S4 a0 = 7 := by rw [hS4]; exact hk1
  have hk6 : kT S4 (sR S a0 2) = 9 := by rw [hS4]; exact hk2
  refine gd_aload_n (pc := 7) X 0 dX6_endWith_7 rfl ?_
  refine gd_getR (pc := 8) (kf := 4) X ci6 (by decide) rfl tw_987 dX6_endWith_8 hk5 ?_
  refine gd_iload_n (pc := 11) X 1 dX6_endWith_11 rfl ?_
  refine gd_iload_n (pc := 12) X 2 dX6_endWith_12 rfl ?_
  obtain ⟨hk7, h⟩ := h
  obtain ⟨hi8, h⟩ := h
  refine gd_iast (pc := 13) X dX6_endWith_13 hk7 hi8 ?_
  refine gd_topS (fun S9 hS9 => ?_)
  have h := h S9 hS9
  have hk10 : kT S9 a0 = 7 := by rw [hS9]; exact hk5
  have hk11 : kT S9 (sR S a0 2) = 9 := by rw [hS9]; exact hk6
  have hk12 : kT S9 (sR S4 a0 4) = 9 := by rw [hS9]; exact hk7
  refine gd_aload_n (pc := 14) X 0 dX6_endWith_14 rfl ?_
  refine gd_aload_n (pc := 15) X 0 dX6_endWith_15 rfl ?_
  refine gd_getI (pc := 16) (kf := 13) X ci6 (by decide) rfl tw_996 dX6_endWith_16 hk10 ?_
  refine gd_iload_n (pc := 19) X 1 dX6_endWith_19 rfl ?_
  refine gd_icmp_ne (pc := 20) X 27 dX6_endWith_20 (by decide) (fun hc13 => ?_) (fun hc13 => ?_)
  · have h := h.1 hc13
    refine gd_aload_n (pc := 27) X 0 dX6_endWith_27 rfl ?_
    refine gd_getI (pc := 28) (kf := 13) X ci6 (by decide) rfl tw_996 dX6_endWith_28 hk10 ?_
    exact g31 _ _ _ _ _ _ h
  · have h := h.2 hc13
    refine gd_iconst (pc := 23) X (-1) dX6_endWith_23 (by decide) ?_
    refine gd_goto (pc := 24) X 31 dX6_endWith_24 (by decide) ?_
    exact g31 _ _ _ _ _ _ h
abbrev rm_X6_loses : Room := { frames := 5, cells := 0, slots := 0, locals := 121 }
def b_X6_loses_64 (KH15 : MS → Nat → Int32 → Int32 → Int32 → Prop) (post : Int32 → MS → Prop) (S : MS) (l0 : Nat) (l1 : Int32) (l2 : Int32) (l3 : Int32) (s0 : Int32) : Prop := ∀ v1 : Int32, v1 = l3 + 1 → KH15 S l0 l1 s0 v1
def b_X6_loses_63 (KH15 : MS → Nat → Int32 → Int32 → Int32 → Prop) (post : Int32 → MS → Prop) (S : MS) (l0 : Nat) (l1 : Int32) (l2 : Int32) (l3 : Int32) : Prop := b_X6_loses_64 KH15 post S l0 l1 l2 l3 0
def b_X6_loses_59 (KH15 : MS → Nat → Int32 → Int32 → Int32 → Prop) (post : Int32 → MS → Prop) (S : MS) (l0 : Nat) (l1 : Int32) (l2 : Int32) (l3 : Int32) : Prop := b_X6_loses_64 KH15 post S l0 l1 l2 l3 1
def b_X6_loses_15 (post : Int32 → MS → Prop) : Nat → MS → Nat → Int32 → Int32 → Int32 → Prop
  | 0 => fun _ _ _ _ _ => False
  | f + 1 => fun S l0 l1 l2 l3 => kT S l0 = 7 ∧ (((sI S l0 1) ≤ l3 → narrow .boolean (.int l2) = .int l2 ∧ post l2 S) ∧ (¬ (sI S l0 1) ≤ l3 → ((¬ l2 = 0 → b_X6_loses_59 (b_X6_loses_15 post f) post S l0 l1 l2 l3) ∧ (l2 = 0 → ((¬ (sI S l0 18) = 2 → b_X6_loses_63 (b_X6_loses_15 post f) post S l0 l1 l2 l3) ∧ ((sI S l0 18) = 2 → w_X6_isRival S l0 l1 l3 (fun r3 S2 => ((r3 = 0 → b_X6_loses_63 (b_X6_loses_15 post f) post S2 l0 l1 l2 l3) ∧ (¬ r3 = 0 → kT S2 l0 = 7 ∧ kT S2 (sR S2 l0 7) = 9 ∧ vp_in l3 (kL S2 (sR S2 l0 7)) ∧ vp_in l1 (kL S2 (sR S2 l0 7)) ∧ (((sI S2 (sR S2 l0 7) (ix l3)) ≤ (sI S2 (sR S2 l0 7) (ix l1)) → b_X6_loses_63 (b_X6_loses_15 post f) post S2 l0 l1 l2 l3) ∧ (¬ (sI S2 (sR S2 l0 7) (ix l3)) ≤ (sI S2 (sR S2 l0 7) (ix l1)) → b_X6_loses_59 (b_X6_loses_15 post f) post S2 l0 l1 l2 l3)))))))))))
def b_X6_loses_12 (post : Int32 → MS → Prop) (S : MS) (l0 : Nat) (l1 : Int32) (s0 : Int32) : Prop := ∃ f15, b_X6_loses_15 post f15 S l0 l1 s0 0
def w_X6_loses (S : MS) (a0 : Nat) (a1 : Int32) (post : Int32 → MS → Prop) : Prop := kT S a0 = 7 ∧ ((¬ (sI S a0 18) = 0 → b_X6_loses_12 post S a0 a1 0) ∧ ((sI S a0 18) = 0 → b_X6_loses_12 post S a0 a1 1))
set_option maxHeartbeats 4000000 in
set_option maxRecDepth 100000 in
theorem ct_X6_loses (l : Launch) (G : GP) (S : MS) (a0 : Nat) (a1 : Int32) (post : Int32 → MS → Prop) (h : w_X6_loses S a0 a1 post) : MetM l yX6_loses cX6_loses 4 (some .boolean) rm_X6_loses [rf a0, .int a1] G S (pI_ post) := by
  refine met_of (by decide) (cat1_r (cat1_i cat1_n)) (Nat.le_of_ble_eq_true rfl) ?_
  intro p e s m args below meth c X hr hlk hin
  revert h
  have g64 : ∀ (KH15 : MS → Nat → Int32 → Int32 → Int32 → Prop) (hKH15 : ∀ (S : MS) (l0 : Nat) (l1 : Int32) (l2 : Int32) (l3 : Int32), KH15 S l0 l1 l2 l3 → Gd p l e rm_X6_loses s m args below meth c 4 G (MQ below (QcM G (pI_ post)) args s rm_X6_loses.cells rm_X6_loses.slots (Ab G)) 0 0 S 15 [(0, rf l0), (1, .int l1), (2, .int l2), (3, .int l3)] []) (S : MS) (l0 : Nat) (l1 : Int32) (l2 : Int32) (l3 : Int32) (s0 : Int32), b_X6_loses_64 KH15 post S l0 l1 l2 l3 s0 → Gd p l e rm_X6_loses s m args below meth c 4 G (MQ below (QcM G (pI_ post)) args s rm_X6_loses.cells rm_X6_loses.slots (Ab G)) 0 0 S 64 [(0, rf l0), (1, .int l1), (2, .int l2), (3, .int l3)] [.int s0] := by
    intro KH15 hKH15 S l0 l1 l2 l3 s0 h
    refine gd_istore_n (pc := 64) X dX6_loses_64 (by decide) (E2 := [(2, .int s0), (0, rf l0), (1, .int l1), (3, .int l3)]) rfl ?_
    obtain ⟨v1, hv1⟩ : ∃ z : Int32, z = l3 + 1 := ⟨_, rfl⟩
    have h := h v1 hv1
    refine gd_iinc (pc := 65) (v := v1) X 3 dX6_loses_65 rfl (by rw [hv1]; rfl) (by decide) (E2 := [(3, .int v1), (2, .int s0), (0, rf l0), (1, .int l1)]) rfl ?_
    refine gd_goto (pc := 68) X 15 dX6_loses_68 (by decide) ?_
    refine gd_sub [2, 3, 1, 0] rfl ?_
    exact hKH15 _ _ _ _ _ h
  have g63 : ∀ (KH15 : MS → Nat → Int32 → Int32 → Int32 → Prop) (hKH15 : ∀ (S : MS) (l0 : Nat) (l1 : Int32) (l2 : Int32) (l3 : Int32), KH15 S l0 l1 l2 l3 → Gd p l e rm_X6_loses s m args below meth c 4 G (MQ below (QcM G (pI_ post)) args s rm_X6_loses.cells rm_X6_loses.slots (Ab G)) 0 0 S 15 [(0, rf l0), (1, .int l1), (2, .int l2), (3, .int l3)] []) (S : MS) (l0 : Nat) (l1 : Int32) (l2 : Int32) (l3 : Int32), b_X6_loses_63 KH15 post S l0 l1 l2 l3 → Gd p l e rm_X6_loses s m args below meth c 4 G (MQ below (QcM G (pI_ post)) args s rm_X6_loses.cells rm_X6_loses.slots (Ab G)) 0 0 S 63 [(0, rf l0), (1, .int l1), (2, .int l2), (3, .int l3)] [] := by
    intro KH15 hKH15 S l0 l1 l2 l3 h
    refine gd_iconst (pc := 63) X (0) dX6_loses_63 (by decide) ?_
    exact g64 _ hKH15 _ _ _ _ _ _ h
  have g59 : ∀ (KH15 : MS → Nat → Int32 → Int32 → Int32 → Prop) (hKH15 : ∀ (S : MS) (l0 : Nat) (l1 : Int32) (l2 : Int32) (l3 : Int32), KH15 S l0 l1 l2 l3 → Gd p l e rm_X6_loses s m args below meth c 4 G (MQ below (QcM G (pI_ post)) args s rm_X6_loses.cells rm_X6_loses.slots (Ab G)) 0 0 S 15 [(0, rf l0), (1, .int l1), (2, .int l2), (3, .int l3)] []) (S : MS) (l0 : Nat) (l1 : Int32) (l2 : Int32) (l3 : Int32), b_X6_loses_59 KH15 post S l0 l1 l2 l3 → Gd p l e rm_X6_loses s m args below meth c 4 G (MQ below (QcM G (pI_ post)) args s rm_X6_loses.cells rm_X6_loses.slots (Ab G)) 0 0 S 59 [(0, rf l0), (1, .int l1), (2, .int l2), (3, .int l3)] [] := by
    intro KH15 hKH15 S l0 l1 l2 l3 h
    refine gd_iconst (pc := 59) X (1) dX6_loses_59 (by decide) ?_
    refine gd_goto (pc := 60) X 64 dX6_loses_60 (by decide) ?_
    exact g64 _ hKH15 _ _ _ _ _ _ h
  have g15 : ∀ (f : Nat) (S : MS) (l0 : Nat) (l1 : Int32) (l2 : Int32) (l3 : Int32), b_X6_loses_15 post f S l0 l1 l2 l3 → Gd p l e rm_X6_loses s m args below meth c 4 G (MQ below (QcM G (pI_ post)) args s rm_X6_loses.cells rm_X6_loses.slots (Ab G)) 0 0 S 15 [(0, rf l0), (1, .int l1), (2, .int l2), (3, .int l3)] [] := by
    intro f
    induction f with
    | zero => intro S l0 l1 l2 l3 h; exact h.elim
    | succ f ih =>
      intro S l0 l1 l2 l3 h
      refine gd_iload_n (pc := 15) X 3 dX6_loses_15 rfl ?_
      refine gd_aload_n (pc := 16) X 0 dX6_loses_16 rfl ?_
      obtain ⟨hk1, h⟩ := h
      refine gd_getI (pc := 17) (kf := 1) X ci6 (by decide) rfl tw_984 dX6_loses_17 hk1 ?_
      refine gd_icmp_ge (pc := 20) X 71 dX6_loses_20 (by decide) (fun hc12 => ?_) (fun hc12 => ?_)
      · have h := h.1 hc12
        refine gd_iload_n (pc := 71) X 2 dX6_loses_71 rfl ?_
        obtain ⟨hnz, h⟩ := h
        exact (gd_ret_i (pc := 72) X hr hlk hnz (by decide) (by decide) dX6_loses_72 ⟨_, rfl, h⟩)
      · have h := h.2 hc12
        refine gd_iload_n (pc := 23) X 2 dX6_loses_23 rfl ?_
        refine gd_if_ne (pc := 24) X 59 dX6_loses_24 (by decide) (fun hc11 => ?_) (fun hc11 => ?_)
        · have h := h.1 hc11
          exact g59 _ ih _ _ _ _ _ h
        · have h := h.2 hc11
          refine gd_aload_n (pc := 27) X 0 dX6_loses_27 rfl ?_
          refine gd_getI (pc := 28) (kf := 18) X ci6 (by decide) rfl tw_1001 dX6_loses_28 hk1 ?_
          refine gd_iconst (pc := 31) X (2) dX6_loses_31 (by decide) ?_
          refine gd_icmp_ne (pc := 32) X 63 dX6_loses_32 (by decide) (fun hc10 => ?_) (fun hc10 => ?_)
          · have h := h.1 hc10
            exact g63 _ ih _ _ _ _ _ h
          · have h := h.2 hc10
            refine gd_aload_n (pc := 35) X 0 dX6_loses_35 rfl ?_
            refine gd_iload_n (pc := 36) X 1 dX6_loses_36 rfl ?_
            refine gd_iload_n (pc := 37) X 3 dX6_loses_37 rfl ?_
            refine gd_callV (pc := 38) (As := [.int l1, .int l3]) (rest := []) X (ct_X6_isRival l G S l0 l1 l3 _ h) mw_X6_isRival tw_1211 ci6 rfl hk1 ⟨(Nat.le_of_ble_eq_true rfl), (Nat.le_of_ble_eq_true rfl)⟩ rfl rfl (Nat.le_of_ble_eq_true rfl) dX6_loses_38 ⟨Nat.le_of_ble_eq_true rfl, Nat.le_of_ble_eq_true rfl⟩ (kI (fun r3 S2 h => ?_))
            refine gd_wide (k2 := 0) (j2 := 0) (Nat.le_of_ble_eq_true rfl) (Nat.le_of_ble_eq_true rfl) ?_
            refine gd_if_eq (pc := 41) X 63 dX6_loses_41 (by decide) (fun hc9 => ?_) (fun hc9 => ?_)
            · have h := h.1 hc9
              exact g63 _ ih _ _ _ _ _ h
            · have h := h.2 hc9
              refine gd_aload_n (pc := 44) X 0 dX6_loses_44 rfl ?_
              obtain ⟨hk4, h⟩ := h
              refine gd_getR (pc := 45) (kf := 7) X ci6 (by decide) rfl tw_990 dX6_loses_45 hk4 ?_
              refine gd_iload_n (pc := 48) X 3 dX6_loses_48 rfl ?_
              obtain ⟨hk5, h⟩ := h
              obtain ⟨hi6, h⟩ := h
              refine gd_iald (pc := 49) X dX6_loses_49 hk5 hi6 ?_
              refine gd_aload_n (pc := 50) X 0 dX6_loses_50 rfl ?_
              refine gd_getR (pc := 51) (kf := 7) X ci6 (by decide) rfl tw_990 dX6_loses_51 hk4 ?_
              refine gd_iload_n (pc := 54) X 1 dX6_loses_54 rfl ?_
              obtain ⟨hi7, h⟩ := h
              refine gd_iald (pc := 55) X dX6_loses_55 hk5 hi7 ?_
              refine gd_icmp_le (pc := 56) X 63 dX6_loses_56 (by decide) (fun hc8 => ?_) (fun hc8 => ?_)
              · have h := h.1 hc8
                exact g63 _ ih _ _ _ _ _ h
              · have h := h.2 hc8
                exact g59 _ ih _ _ _ _ _ h
  have g12 : ∀ (S : MS) (l0 : Nat) (l1 : Int32) (s0 : Int32), b_X6_loses_12 post S l0 l1 s0 → Gd p l e rm_X6_loses s m args below meth c 4 G (MQ below (QcM G (pI_ post)) args s rm_X6_loses.cells rm_X6_loses.slots (Ab G)) 0 0 S 12 [(0, rf l0), (1, .int l1)] [.int s0] := by
    intro S l0 l1 s0 h
    refine gd_istore_n (pc := 12) X dX6_loses_12 (by decide) (E2 := [(2, .int s0), (0, rf l0), (1, .int l1)]) rfl ?_
    refine gd_iconst (pc := 13) X (0) dX6_loses_13 (by decide) ?_
    refine gd_istore_n (pc := 14) X dX6_loses_14 (by decide) (E2 := [(3, .int 0), (2, .int s0), (0, rf l0), (1, .int l1)]) rfl ?_
    refine gd_sub [2, 3, 1, 0] rfl ?_
    obtain ⟨f15, h⟩ := h
    exact g15 f15 _ _ _ _ _ h
  intro h
  refine gd_aload_n (pc := 0) X 0 dX6_loses_0 rfl ?_
  obtain ⟨hk1, h⟩ := h
  refine gd_getI (pc := 1) (kf := 18) X ci6 (by decide) rfl tw_1001 dX6_loses_1 hk1 ?_
  refine gd_if_ne (pc := 4) X 11 dX6_loses_4 (by decide) (fun hc2 => ?_) (fun hc2 => ?_)
  · have h := h.1 hc2
    refine gd_iconst (pc := 11) X (0) dX6_loses_11 (by decide) ?_
    exact g12 _ _ _ _ h
  · have h := h.2 hc2
    refine gd_iconst (pc := 7) X (1) dX6_loses_7 (by decide) ?_
    refine gd_goto (pc := 8) X 12 dX6_loses_8 (by decide) ?_
    exact g12 _ _ _ _ h
abbrev rm_X6_isViolated : Room := { frames := 2, cells := 0, slots := 0, locals := 45 }
def b_X6_isViolated_174 (post : Int32 → MS → Prop) (S : MS) (l0 : Nat) (l1 : Int32) (l2 : Int32) (l3 : Int32) (l4 : Int32) (l5 : Int32) (l6 : Int32) (s0 : Int32) : Prop := narrow .boolean (.int s0) = .int s0 ∧ post s0 S
def b_X6_isViolated_94 (KH20 : MS → Nat → Int32 → Int32 → Int32 → Int32 → Int32 → Int32 → Prop) (post : Int32 → MS → Prop) (S : MS) (l0 : Nat) (l1 : Int32) (l2 : Int32) (l3 : Int32) (l4 : Int32) (l5 : Int32) (l6 : Int32) (l7 : Int32) (s0 : Int32) (s1 : Int32) : Prop := ∀ v1 : Int32, v1 = s1 + s0 → ∀ v2 : Int32, v2 = l6 + 1 → KH20 S l0 l1 l2 l3 l4 v1 v2
def b_X6_isViolated_76 (KH20 : MS → Nat → Int32 → Int32 → Int32 → Int32 → Int32 → Int32 → Prop) (post : Int32 → MS → Prop) (S : MS) (l0 : Nat) (l1 : Int32) (l2 : Int32) (l3 : Int32) (l4 : Int32) (l5 : Int32) (l6 : Int32) (l7 : Int32) (s0 : Int32) (s1 : Int32) : Prop := ∀ v1 : Int32, v1 = s1 + s0 → ((¬ l7 = ((-1000)) → b_X6_isViolated_94 KH20 post S l0 l1 l2 l3 v1 l5 l6 l7 1 l5) ∧ (l7 = ((-1000)) → b_X6_isViolated_94 KH20 post S l0 l1 l2 l3 v1 l5 l6 l7 0 l5))
def b_X6_isViolated_58 (KH20 : MS → Nat → Int32 → Int32 → Int32 → Int32 → Int32 → Int32 → Prop) (post : Int32 → MS → Prop) (S : MS) (l0 : Nat) (l1 : Int32) (l2 : Int32) (l3 : Int32) (l4 : Int32) (l5 : Int32) (l6 : Int32) (s0 : Int32) : Prop := ((¬ s0 = ((-1000)) → b_X6_isViolated_76 KH20 post S l0 l1 l2 l3 l4 l5 l6 s0 s0 l4) ∧ (s0 = ((-1000)) → b_X6_isViolated_76 KH20 post S l0 l1 l2 l3 l4 l5 l6 s0 0 l4))
def b_X6_isViolated_20 (post : Int32 → MS → Prop) : Nat → MS → Nat → Int32 → Int32 → Int32 → Int32 → Int32 → Int32 → Prop
  | 0 => fun _ _ _ _ _ _ _ _ => False
  | f + 1 => fun S l0 l1 l2 l3 l4 l5 l6 => kT S l0 = 7 ∧ kT S (sR S l0 20) = 9 ∧ vp_in (l3 + 2) (kL S (sR S l0 20)) ∧ (((sI S (sR S l0 20) (ix (l3 + 2))) < l6 → vp_in (l3 + 3) (kL S (sR S l0 20)) ∧ ∀ v5 : Int32, v5 = sI S (sR S l0 20) (ix (l3 + 3)) → vp_in l3 (kL S (sR S l0 20)) ∧ ((¬ (sI S (sR S l0 20) (ix l3)) = 0 → vp_in l3 (kL S (sR S l0 20)) ∧ ((¬ (sI S (sR S l0 20) (ix l3)) = 1 → ((l5 ≤ v5 → b_X6_isViolated_174 post S l0 l1 l2 l3 l4 l5 v5 0) ∧ (¬ l5 ≤ v5 → b_X6_isViolated_174 post S l0 l1 l2 l3 l4 l5 v5 1))) ∧ ((sI S (sR S l0 20) (ix l3)) = 1 → ((l4 ≤ v5 → b_X6_isViolated_174 post S l0 l1 l2 l3 l4 l5 v5 0) ∧ (¬ l4 ≤ v5 → b_X6_isViolated_174 post S l0 l1 l2 l3 l4 l5 v5 1))))) ∧ ((sI S (sR S l0 20) (ix l3)) = 0 → ((v5 ≤ l4 → b_X6_isViolated_174 post S l0 l1 l2 l3 l4 l5 v5 0) ∧ (¬ v5 ≤ l4 → b_X6_isViolated_174 post S l0 l1 l2 l3 l4 l5 v5 1))))) ∧ (¬ (sI S (sR S l0 20) (ix (l3 + 2))) < l6 → ((¬ l2 = ((-1)) → w_X6_viewed S l0 l2 l6 (fun r14 S13 => b_X6_isViolated_58 (b_X6_isViolated_20 post f) post S13 l0 l1 l2 l3 l4 l5 l6 r14)) ∧ (l2 = ((-1)) → w_X6_stored S l0 (sI S l0 14) l6 (fun r16 S15 => b_X6_isViolated_58 (b_X6_isViolated_20 post f) post S15 l0 l1 l2 l3 l4 l5 l6 r16)))))
def w_X6_isViolated (S : MS) (a0 : Nat) (a1 : Int32) (a2 : Int32) (post : Int32 → MS → Prop) : Prop := ∀ v1 : Int32, v1 = 4 * a1 → kT S a0 = 7 ∧ kT S (sR S a0 20) = 9 ∧ vp_in (v1 + 1) (kL S (sR S a0 20)) ∧ ∀ v5 : Int32, v5 = sI S (sR S a0 20) (ix (v1 + 1)) → ∃ f20, b_X6_isViolated_20 post f20 S a0 a1 a2 v1 0 0 v5
set_option maxHeartbeats 4000000 in
set_option maxRecDepth 100000 in
theorem ct_X6_isViolated (l : Launch) (G : GP) (S : MS) (a0 : Nat) (a1 : Int32) (a2 : Int32) (post : Int32 → MS → Prop) (h : w_X6_isViolated S a0 a1 a2 post) : MetM l yX6_isViolated cX6_isViolated 8 (some .boolean) rm_X6_isViolated [rf a0, .int a1, .int a2] G S (pI_ post) := by
  refine met_of (by decide) (cat1_r (cat1_i (cat1_i cat1_n))) (Nat.le_of_ble_eq_true rfl) ?_
  intro p e s m args below meth c X hr hlk hin
  revert h
  have g174 : ∀ (S : MS) (l0 : Nat) (l1 : Int32) (l2 : Int32) (l3 : Int32) (l4 : Int32) (l5 : Int32) (l6 : Int32) (s0 : Int32), b_X6_isViolated_174 post S l0 l1 l2 l3 l4 l5 l6 s0 → Gd p l e rm_X6_isViolated s m args below meth c 8 G (MQ below (QcM G (pI_ post)) args s rm_X6_isViolated.cells rm_X6_isViolated.slots (Ab G)) 0 0 S 174 [(0, rf l0), (1, .int l1), (2, .int l2), (3, .int l3), (4, .int l4), (5, .int l5), (6, .int l6)] [.int s0] := by
    intro S l0 l1 l2 l3 l4 l5 l6 s0 h
    obtain ⟨hnz, h⟩ := h
    exact (gd_ret_i (pc := 174) X hr hlk hnz (by decide) (by decide) dX6_isViolated_174 ⟨_, rfl, h⟩)
  have g94 : ∀ (KH20 : MS → Nat → Int32 → Int32 → Int32 → Int32 → Int32 → Int32 → Prop) (hKH20 : ∀ (S : MS) (l0 : Nat) (l1 : Int32) (l2 : Int32) (l3 : Int32) (l4 : Int32) (l5 : Int32) (l6 : Int32), KH20 S l0 l1 l2 l3 l4 l5 l6 → Gd p l e rm_X6_isViolated s m args below meth c 8 G (MQ below (QcM G (pI_ post)) args s rm_X6_isViolated.cells rm_X6_isViolated.slots (Ab G)) 0 0 S 20 [(0, rf l0), (1, .int l1), (2, .int l2), (3, .int l3), (4, .int l4), (5, .int l5), (6, .int l6)] []) (S : MS) (l0 : Nat) (l1 : Int32) (l2 : Int32) (l3 : Int32) (l4 : Int32) (l5 : Int32) (l6 : Int32) (l7 : Int32) (s0 : Int32) (s1 : Int32), b_X6_isViolated_94 KH20 post S l0 l1 l2 l3 l4 l5 l6 l7 s0 s1 → Gd p l e rm_X6_isViolated s m args below meth c 8 G (MQ below (QcM G (pI_ post)) args s rm_X6_isViolated.cells rm_X6_isViolated.slots (Ab G)) 0 0 S 94 [(0, rf l0), (1, .int l1), (2, .int l2), (3, .int l3), (4, .int l4), (5, .int l5), (6, .int l6), (7, .int l7)] [.int s0, .int s1] := by
    intro KH20 hKH20 S l0 l1 l2 l3 l4 l5 l6 l7 s0 s1 h
    refine gd_iadd (pc := 94) X dX6_isViolated_94 ?_
    refine gd_topI (fun v1 hv1 => ?_)
    have h := h v1 hv1
    refine gd_istore (pc := 95) X dX6_isViolated_95 (by decide) (E2 := [(5, .int v1), (0, rf l0), (1, .int l1), (2, .int l2), (3, .int l3), (4, .int l4), (6, .int l6), (7, .int l7)]) rfl ?_
    obtain ⟨v2, hv2⟩ : ∃ z : Int32, z = l6 + 1 := ⟨_, rfl⟩
    have h := h v2 hv2
    refine gd_iinc (pc := 97) (v := v2) X 6 dX6_isViolated_97 rfl (by rw [hv2]; rfl) (by decide) (E2 := [(6, .int v2), (5, .int v1), (0, rf l0), (1, .int l1), (2, .int l2), (3, .int l3), (4, .int l4), (7, .int l7)]) rfl ?_
    refine gd_goto (pc := 100) X 20 dX6_isViolated_100 (by decide) ?_
    refine gd_sub [2, 3, 4, 5, 6, 1, 0] rfl ?_
    exact hKH20 _ _ _ _ _ _ _ _ h
  have g76 : ∀ (KH20 : MS → Nat → Int32 → Int32 → Int32 → Int32 → Int32 → Int32 → Prop) (hKH20 : ∀ (S : MS) (l0 : Nat) (l1 : Int32) (l2 : Int32) (l3 : Int32) (l4 : Int32) (l5 : Int32) (l6 : Int32), KH20 S l0 l1 l2 l3 l4 l5 l6 → Gd p l e rm_X6_isViolated s m args below meth c 8 G (MQ below (QcM G (pI_ post)) args s rm_X6_isViolated.cells rm_X6_isViolated.slots (Ab G)) 0 0 S 20 [(0, rf l0), (1, .int l1), (2, .int l2), (3, .int l3), (4, .int l4), (5, .int l5), (6, .int l6)] []) (S : MS) (l0 : Nat) (l1 : Int32) (l2 : Int32) (l3 : Int32) (l4 : Int32) (l5 : Int32) (l6 : Int32) (l7 : Int32) (s0 : Int32) (s1 : Int32), b_X6_isViolated_76 KH20 post S l0 l1 l2 l3 l4 l5 l6 l7 s0 s1 → Gd p l e rm_X6_isViolated s m args below meth c 8 G (MQ below (QcM G (pI_ post)) args s rm_X6_isViolated.cells rm_X6_isViolated.slots (Ab G)) 0 0 S 76 [(0, rf l0), (1, .int l1), (2, .int l2), (3, .int l3), (4, .int l4), (5, .int l5), (6, .int l6), (7, .int l7)] [.int s0, .int s1] := by
    intro KH20 hKH20 S l0 l1 l2 l3 l4 l5 l6 l7 s0 s1 h
    refine gd_iadd (pc := 76) X dX6_isViolated_76 ?_
    refine gd_topI (fun v1 hv1 => ?_)
    have h := h v1 hv1
    refine gd_istore (pc := 77) X dX6_isViolated_77 (by decide) (E2 := [(4, .int v1), (0, rf l0), (1, .int l1), (2, .int l2), (3, .int l3), (5, .int l5), (6, .int l6), (7, .int l7)]) rfl ?_
    refine gd_iload (pc := 79) X 5 dX6_isViolated_79 rfl ?_
    refine gd_iload (pc := 81) X 7 dX6_isViolated_81 rfl ?_
    refine gd_sipush (pc := 83) X (-1000) dX6_isViolated_83 (by decide) ?_
    refine gd_icmp_ne (pc := 86) X 93 dX6_isViolated_86 (by decide) (fun hc2 => ?_) (fun hc2 => ?_)
    · have h := h.1 hc2
      refine gd_iconst (pc := 93) X (1) dX6_isViolated_93 (by decide) ?_
      refine gd_sub [1, 2, 3, 4, 0, 5, 6, 7] rfl ?_
      exact g94 _ hKH20 _ _ _ _ _ _ _ _ _ _ _ h
    · have h := h.2 hc2
      refine gd_iconst (pc := 89) X (0) dX6_isViolated_89 (by decide) ?_
      refine gd_goto (pc := 90) X 94 dX6_isViolated_90 (by decide) ?_
      refine gd_sub [1, 2, 3, 4, 0, 5, 6, 7] rfl ?_
      exact g94 _ hKH20 _ _ _ _ _ _ _ _ _ _ _ h
  have g58 : ∀ (KH20 : MS → Nat → Int32 → Int32 → Int32 → Int32 → Int32 → Int32 → Prop) (hKH20 : ∀ (S : MS) (l0 : Nat) (l1 : Int32) (l2 : Int32) (l3 : Int32) (l4 : Int32) (l5 : Int32) (l6 : Int32), KH20 S l0 l1 l2 l3 l4 l5 l6 → Gd p l e rm_X6_isViolated s m args below meth c 8 G (MQ below (QcM G (pI_ post)) args s rm_X6_isViolated.cells rm_X6_isViolated.slots (Ab G)) 0 0 S 20 [(0, rf l0), (1, .int l1), (2, .int l2), (3, .int l3), (4, .int l4), (5, .int l5), (6, .int l6)] []) (S : MS) (l0 : Nat) (l1 : Int32) (l2 : Int32) (l3 : Int32) (l4 : Int32) (l5 : Int32) (l6 : Int32) (s0 : Int32), b_X6_isViolated_58 KH20 post S l0 l1 l2 l3 l4 l5 l6 s0 → Gd p l e rm_X6_isViolated s m args below meth c 8 G (MQ below (QcM G (pI_ post)) args s rm_X6_isViolated.cells rm_X6_isViolated.slots (Ab G)) 0 0 S 58 [(0, rf l0), (1, .int l1), (2, .int l2), (3, .int l3), (4, .int l4), (5, .int l5), (6, .int l6)] [.int s0] := by
    intro KH20 hKH20 S l0 l1 l2 l3 l4 l5 l6 s0 h
    refine gd_istore (pc := 58) X dX6_isViolated_58 (by decide) (E2 := [(7, .int s0), (0, rf l0), (1, .int l1), (2, .int l2), (3, .int l3), (4, .int l4), (5, .int l5), (6, .int l6)]) rfl ?_
    refine gd_iload (pc := 60) X 5 dX6_isViolated_60 rfl ?_
    refine gd_iload (pc := 62) X 0 dX6_isViolated_62 rfl ?_
    refine gd_sipush (pc := 64) X (-1000) dX6_isViolated_64 (by decide) ?_
    refine gd_icmp_ne (pc := 67) X 74 dX6_isViolated_67 (by decide) (fun hc1 => ?_) (fun hc1 => ?_)
    · have h := h.1 hc1
      refine gd_iload (pc := 74) X 0 dX6_isViolated_74 rfl ?_
      refine gd_sub [1, 2, 3, 4, 5, 6, 7, 0] rfl ?_
      exact g76 _ hKH20 _ _ _ _ _ _ _ _ _ _ _ h
    · have h := h.2 hc1
      refine gd_iconst (pc := 70) X (0) dX6_isViolated_70 (by decide) ?_
      refine gd_goto (pc := 71) X 76 dX6_isViolated_71 (by decide) ?_
      refine gd_sub [1, 2, 3, 4, 5, 6, 7, 0] rfl ?_
      exact g76 _ hKH20 _ _ _ _ _ _ _ _ _ _ _ h
  have g20 : ∀ (f : Nat) (S : MS) (l0 : Nat) (l1 : Int32) (l2 : Int32) (l3 : Int32) (l4 : Int32) (l5 : Int32) (l6 : Int32), b_X6_isViolated_20 post f S l0 l1 l2 l3 l4 l5 l6 → Gd p l e rm_X6_isViolated s m args below meth c 8 G (MQ below (QcM G (pI_ post)) args s rm_X6_isViolated.cells rm_X6_isViolated.slots (Ab G)) 0 0 S 20 [(0, rf l0), (1, .int l1), (2, .int l2), (3, .int l3), (4, .int l4), (5, .int l5), (6, .int l6)] [] := by
    intro f
    induction f with
    | zero => intro S l0 l1 l2 l3 l4 l5 l6 h; exact h.elim
    | succ f ih =>
      intro S l0 l1 l2 l3 l4 l5 l6 h
      refine gd_iload (pc := 20) X 6 dX6_isViolated_20 rfl ?_
      refine gd_aload_n (pc := 22) X 0 dX6_isViolated_22 rfl ?_
      obtain ⟨hk1, h⟩ := h
      refine gd_getR (pc := 23) (kf := 20) X ci6 (by decide) rfl tw_1003 dX6_isViolated_23 hk1 ?_
      refine gd_iload_n (pc := 26) X 3 dX6_isViolated_26 rfl ?_
      refine gd_iconst (pc := 27) X (2) dX6_isViolated_27 (by decide) ?_
      refine gd_iadd (pc := 28) X dX6_isViolated_28 ?_
      obtain ⟨hk2, h⟩ := h
      obtain ⟨hi3, h⟩ := h
      refine gd_iald (pc := 29) X dX6_isViolated_29 hk2 hi3 ?_
      refine gd_icmp_gt (pc := 30) X 103 dX6_isViolated_30 (by decide) (fun hc18 => ?_) (fun hc18 => ?_)
      · have h := h.1 hc18
        refine gd_aload_n (pc := 103) X 0 dX6_isViolated_103 rfl ?_
        refine gd_getR (pc := 104) (kf := 20) X ci6 (by decide) rfl tw_1003 dX6_isViolated_104 hk1 ?_
        refine gd_iload_n (pc := 107) X 3 dX6_isViolated_107 rfl ?_
        refine gd_iconst (pc := 108) X (3) dX6_isViolated_108 (by decide) ?_
        refine gd_iadd (pc := 109) X dX6_isViolated_109 ?_
        obtain ⟨hi4, h⟩ := h
        refine gd_iald (pc := 110) X dX6_isViolated_110 hk2 hi4 ?_
        refine gd_topI (fun v5 hv5 => ?_)
        have h := h v5 hv5
        refine gd_istore (pc := 111) X dX6_isViolated_111 (by decide) (E2 := [(6, .int v5), (0, rf l0), (1, .int l1), (2, .int l2), (3, .int l3), (4, .int l4), (5, .int l5)]) rfl ?_
        refine gd_aload_n (pc := 113) X 1 dX6_isViolated_113 rfl ?_
        refine gd_getR (pc := 114) (kf := 20) X ci6 (by decide) rfl tw_1003 dX6_isViolated_114 hk1 ?_
        refine gd_iload_n (pc := 117) X 4 dX6_isViolated_117 rfl ?_
        obtain ⟨hi6, h⟩ := h
        refine gd_iald (pc := 118) X dX6_isViolated_118 hk2 hi6 ?_
        refine gd_if_ne (pc := 119) X 137 dX6_isViolated_119 (by decide) (fun hc12 => ?_) (fun hc12 => ?_)
        · have h := h.1 hc12
          refine gd_aload_n (pc := 137) X 1 dX6_isViolated_137 rfl ?_
          refine gd_getR (pc := 138) (kf := 20) X ci6 (by decide) rfl tw_1003 dX6_isViolated_138 hk1 ?_
          refine gd_iload_n (pc := 141) X 4 dX6_isViolated_141 rfl ?_
          obtain ⟨hi7, h⟩ := h
          refine gd_iald (pc := 142) X dX6_isViolated_142 hk2 hi7 ?_
          refine gd_iconst (pc := 143) X (1) dX6_isViolated_143 (by decide) ?_
          refine gd_icmp_ne (pc := 144) X 162 dX6_isViolated_144 (by decide) (fun hc10 => ?_) (fun hc10 => ?_)
          · have h := h.1 hc10
            refine gd_iload (pc := 162) X 6 dX6_isViolated_162 rfl ?_
            refine gd_iload (pc := 164) X 0 dX6_isViolated_164 rfl ?_
            refine gd_icmp_le (pc := 166) X 173 dX6_isViolated_166 (by decide) (fun hc8 => ?_) (fun hc8 => ?_)
            · have h := h.1 hc8
              refine gd_iconst (pc := 173) X (0) dX6_isViolated_173 (by decide) ?_
              refine gd_sub [1, 2, 3, 4, 5, 6, 0] rfl ?_
              exact g174 _ _ _ _ _ _ _ _ _ h
            · have h := h.2 hc8
              refine gd_iconst (pc := 169) X (1) dX6_isViolated_169 (by decide) ?_
              refine gd_goto (pc := 170) X 174 dX6_isViolated_170 (by decide) ?_
              refine gd_sub [1, 2, 3, 4, 5, 6, 0] rfl ?_
              exact g174 _ _ _ _ _ _ _ _ _ h
          · have h := h.2 hc10
            refine gd_iload (pc := 147) X 5 dX6_isViolated_147 rfl ?_
            refine gd_iload (pc := 149) X 0 dX6_isViolated_149 rfl ?_
            refine gd_icmp_le (pc := 151) X 158 dX6_isViolated_151 (by decide) (fun hc9 => ?_) (fun hc9 => ?_)
            · have h := h.1 hc9
              refine gd_iconst (pc := 158) X (0) dX6_isViolated_158 (by decide) ?_
              refine gd_goto (pc := 159) X 174 dX6_isViolated_159 (by decide) ?_
              refine gd_sub [1, 2, 3, 4, 5, 6, 0] rfl ?_
              exact g174 _ _ _ _ _ _ _ _ _ h
            · have h := h.2 hc9
              refine gd_iconst (pc := 154) X (1) dX6_isViolated_154 (by decide) ?_
              refine gd_goto (pc := 155) X 174 dX6_isViolated_155 (by decide) ?_
              refine gd_sub [1, 2, 3, 4, 5, 6, 0] rfl ?_
              exact g174 _ _ _ _ _ _ _ _ _ h
        · have h := h.2 hc12
          refine gd_iload (pc := 122) X 5 dX6_isViolated_122 rfl ?_
          refine gd_iload (pc := 124) X 0 dX6_isViolated_124 rfl ?_
          refine gd_icmp_ge (pc := 126) X 133 dX6_isViolated_126 (by decide) (fun hc11 => ?_) (fun hc11 => ?_)
          · have h := h.1 hc11
            refine gd_iconst (pc := 133) X (0) dX6_isViolated_133 (by decide) ?_
            refine gd_goto (pc := 134) X 174 dX6_isViolated_134 (by decide) ?_
            refine gd_sub [1, 2, 3, 4, 5, 6, 0] rfl ?_
            exact g174 _ _ _ _ _ _ _ _ _ h
          · have h := h.2 hc11
            refine gd_iconst (pc := 129) X (1) dX6_isViolated_129 (by decide) ?_
            refine gd_goto (pc := 130) X 174 dX6_isViolated_130 (by decide) ?_
            refine gd_sub [1, 2, 3, 4, 5, 6, 0] rfl ?_
            exact g174 _ _ _ _ _ _ _ _ _ h
      · have h := h.2 hc18
        refine gd_iload_n (pc := 33) X 2 dX6_isViolated_33 rfl ?_
        refine gd_iconst (pc := 34) X (-1) dX6_isViolated_34 (by decide) ?_
        refine gd_icmp_ne (pc := 35) X 51 dX6_isViolated_35 (by decide) (fun hc17 => ?_) (fun hc17 => ?_)
        · have h := h.1 hc17
          refine gd_aload_n (pc := 51) X 0 dX6_isViolated_51 rfl ?_
          refine gd_iload_n (pc := 52) X 2 dX6_isViolated_52 rfl ?_
          refine gd_iload (pc := 53) X 6 dX6_isViolated_53 rfl ?_
          refine gd_callV (pc := 55) (As := [.int l2, .int l6]) (rest := []) X (ct_X6_viewed l G S l0 l2 l6 _ h) mw_X6_viewed tw_1128 ci6 rfl hk1 ⟨(Nat.le_of_ble_eq_true rfl), (Nat.le_of_ble_eq_true rfl)⟩ rfl rfl (Nat.le_of_ble_eq_true rfl) dX6_isViolated_55 ⟨Nat.le_of_ble_eq_true rfl, Nat.le_of_ble_eq_true rfl⟩ (kI (fun r14 S13 h => ?_))
          refine gd_wide (k2 := 0) (j2 := 0) (Nat.le_of_ble_eq_true rfl) (Nat.le_of_ble_eq_true rfl) ?_
          exact g58 _ ih _ _ _ _ _ _ _ _ _ h
        · have h := h.2 hc17
          refine gd_aload_n (pc := 38) X 0 dX6_isViolated_38 rfl ?_
          refine gd_aload_n (pc := 39) X 0 dX6_isViolated_39 rfl ?_
          refine gd_getI (pc := 40) (kf := 14) X ci6 (by decide) rfl tw_997 dX6_isViolated_40 hk1 ?_
          refine gd_iload (pc := 43) X 6 dX6_isViolated_43 rfl ?_
          refine gd_callV (pc := 45) (As := [.int (sI S l0 14), .int l6]) (rest := []) X (ct_X6_stored l G S l0 (sI S l0 14) l6 _ h) mw_X6_stored tw_1132 ci6 rfl hk1 ⟨(Nat.le_of_ble_eq_true rfl), (Nat.le_of_ble_eq_true rfl)⟩ rfl rfl (Nat.le_of_ble_eq_true rfl) dX6_isViolated_45 ⟨Nat.le_of_ble_eq_true rfl, Nat.le_of_ble_eq_true rfl⟩ (kI (fun r16 S15 h => ?_))
          refine gd_wide (k2 := 0) (j2 := 0) (Nat.le_of_ble_eq_true rfl) (Nat.le_of_ble_eq_true rfl) ?_
          refine gd_goto (pc := 48) X 58 dX6_isViolated_48 (by decide) ?_
          exact g58 _ ih _ _ _ _ _ _ _ _ _ h
  intro h
  refine gd_iconst (pc := 0) X (4) dX6_isViolated_0 (by decide) ?_
  refine gd_iload_n (pc := 1) X 1 dX6_isViolated_1 rfl ?_
  refine gd_imul (pc := 2) X dX6_isViolated_2 ?_
  refine gd_topI (fun v1 hv1 => ?_)
  have h := h v1 hv1
  refine gd_istore_n (pc := 3) X dX6_isViolated_3 (by decide) (E2 := [(3, .int v1), (0, rf a0), (1, .int a1), (2, .int a2)]) rfl ?_
  refine gd_iconst (pc := 4) X (0) dX6_isViolated_4 (by decide) ?_
  refine gd_istore (pc := 5) X dX6_isViolated_5 (by decide) (E2 := [(4, .int 0), (3, .int v1), (0, rf a0), (1, .int a1), (2, .int a2)]) rfl ?_
  refine gd_iconst (pc := 7) X (0) dX6_isViolated_7 (by decide) ?_
  refine gd_istore (pc := 8) X dX6_isViolated_8 (by decide) (E2 := [(5, .int 0), (4, .int 0), (3, .int v1), (0, rf a0), (1, .int a1), (2, .int a2)]) rfl ?_
  refine gd_aload_n (pc := 10) X 3 dX6_isViolated_10 rfl ?_
  obtain ⟨hk2, h⟩ := h
  refine gd_getR (pc := 11) (kf := 20) X ci6 (by decide) rfl tw_1003 dX6_isViolated_11 hk2 ?_
  refine gd_iload_n (pc := 14) X 2 dX6_isViolated_14 rfl ?_
  refine gd_iconst (pc := 15) X (1) dX6_isViolated_15 (by decide) ?_
  refine gd_iadd (pc := 16) X dX6_isViolated_16 ?_
  obtain ⟨hk3, h⟩ := h
  obtain ⟨hi4, h⟩ := h
  refine gd_iald (pc := 17) X dX6_isViolated_17 hk3 hi4 ?_
  refine gd_topI (fun v5 hv5 => ?_)
  have h := h v5 hv5
  refine gd_istore (pc := 18) X dX6_isViolated_18 (by decide) (E2 := [(6, .int v5), (5, .int 0), (4, .int 0), (3, .int v1), (0, rf a0), (1, .int a1), (2, .int a2)]) rfl ?_
  refine gd_sub [4, 5, 6, 3, 2, 1, 0] rfl ?_
  obtain ⟨f20, h⟩ := h
  exact g20 f20 _ _ _ _ _ _ _ _ h
abbrev rm_X6_violates : Room := { frames := 3, cells := 0, slots := 0, locals := 72 }
def b_X6_violates_30 (KH4 : MS → Nat → Int32 → Int32 → Int32 → Prop) (post : Int32 → MS → Prop) (S : MS) (l0 : Nat) (l1 : Int32) (l2 : Int32) (l3 : Int32) (s0 : Int32) : Prop := ∀ v1 : Int32, v1 = l3 + 1 → KH4 S l0 l1 s0 v1
def b_X6_violates_25 (KH4 : MS → Nat → Int32 → Int32 → Int32 → Prop) (post : Int32 → MS → Prop) (S : MS) (l0 : Nat) (l1 : Int32) (l2 : Int32) (l3 : Int32) : Prop := b_X6_violates_30 KH4 post S l0 l1 l2 l3 1
def b_X6_violates_4 (post : Int32 → MS → Prop) : Nat → MS → Nat → Int32 → Int32 → Int32 → Prop
  | 0 => fun _ _ _ _ _ => False
  | f + 1 => fun S l0 l1 l2 l3 => kT S l0 = 7 ∧ (((sI S l0 21) ≤ l3 → narrow .boolean (.int l2) = .int l2 ∧ post l2 S) ∧ (¬ (sI S l0 21) ≤ l3 → ((¬ l2 = 0 → b_X6_violates_25 (b_X6_violates_4 post f) post S l0 l1 l2 l3) ∧ (l2 = 0 → w_X6_isViolated S l0 l3 l1 (fun r3 S2 => ((r3 = 0 → b_X6_violates_30 (b_X6_violates_4 post f) post S2 l0 l1 l2 l3 0) ∧ (¬ r3 = 0 → b_X6_violates_25 (b_X6_violates_4 post f) post S2 l0 l1 l2 l3)))))))
def w_X6_violates (S : MS) (a0 : Nat) (a1 : Int32) (post : Int32 → MS → Prop) : Prop := ∃ f4, b_X6_violates_4 post f4 S a0 a1 0 0
set_option maxHeartbeats 4000000 in
set_option maxRecDepth 100000 in
theorem ct_X6_violates (l : Launch) (G : GP) (S : MS) (a0 : Nat) (a1 : Int32) (post : Int32 → MS → Prop) (h : w_X6_violates S a0 a1 post) : MetM l yX6_violates cX6_violates 4 (some .boolean) rm_X6_violates [rf a0, .int a1] G S (pI_ post) := by
  refine met_of (by decide) (cat1_r (cat1_i cat1_n)) (Nat.le_of_ble_eq_true rfl) ?_
  intro p e s m args below meth c X hr hlk hin
  revert h
  have g30 : ∀ (KH4 : MS → Nat → Int32 → Int32 → Int32 → Prop) (hKH4 : ∀ (S : MS) (l0 : Nat) (l1 : Int32) (l2 : Int32) (l3 : Int32), KH4 S l0 l1 l2 l3 → Gd p l e rm_X6_violates s m args below meth c 4 G (MQ below (QcM G (pI_ post)) args s rm_X6_violates.cells rm_X6_violates.slots (Ab G)) 0 0 S 4 [(0, rf l0), (1, .int l1), (2, .int l2), (3, .int l3)] []) (S : MS) (l0 : Nat) (l1 : Int32) (l2 : Int32) (l3 : Int32) (s0 : Int32), b_X6_violates_30 KH4 post S l0 l1 l2 l3 s0 → Gd p l e rm_X6_violates s m args below meth c 4 G (MQ below (QcM G (pI_ post)) args s rm_X6_violates.cells rm_X6_violates.slots (Ab G)) 0 0 S 30 [(0, rf l0), (1, .int l1), (2, .int l2), (3, .int l3)] [.int s0] := by
    intro KH4 hKH4 S l0 l1 l2 l3 s0 h
    refine gd_istore_n (pc := 30) X dX6_violates_30 (by decide) (E2 := [(2, .int s0), (0, rf l0), (1, .int l1), (3, .int l3)]) rfl ?_
    obtain ⟨v1, hv1⟩ : ∃ z : Int32, z = l3 + 1 := ⟨_, rfl⟩
    have h := h v1 hv1
    refine gd_iinc (pc := 31) (v := v1) X 3 dX6_violates_31 rfl (by rw [hv1]; rfl) (by decide) (E2 := [(3, .int v1), (2, .int s0), (0, rf l0), (1, .int l1)]) rfl ?_
    refine gd_goto (pc := 34) X 4 dX6_violates_34 (by decide) ?_
    refine gd_sub [2, 3, 1, 0] rfl ?_
    exact hKH4 _ _ _ _ _ h
  have g25 : ∀ (KH4 : MS → Nat → Int32 → Int32 → Int32 → Prop) (hKH4 : ∀ (S : MS) (l0 : Nat) (l1 : Int32) (l2 : Int32) (l3 : Int32), KH4 S l0 l1 l2 l3 → Gd p l e rm_X6_violates s m args below meth c 4 G (MQ below (QcM G (pI_ post)) args s rm_X6_violates.cells rm_X6_violates.slots (Ab G)) 0 0 S 4 [(0, rf l0), (1, .int l1), (2, .int l2), (3, .int l3)] []) (S : MS) (l0 : Nat) (l1 : Int32) (l2 : Int32) (l3 : Int32), b_X6_violates_25 KH4 post S l0 l1 l2 l3 → Gd p l e rm_X6_violates s m args below meth c 4 G (MQ below (QcM G (pI_ post)) args s rm_X6_violates.cells rm_X6_violates.slots (Ab G)) 0 0 S 25 [(0, rf l0), (1, .int l1), (2, .int l2), (3, .int l3)] [] := by
    intro KH4 hKH4 S l0 l1 l2 l3 h
    refine gd_iconst (pc := 25) X (1) dX6_violates_25 (by decide) ?_
    refine gd_goto (pc := 26) X 30 dX6_violates_26 (by decide) ?_
    exact g30 _ hKH4 _ _ _ _ _ _ h
  have g4 : ∀ (f : Nat) (S : MS) (l0 : Nat) (l1 : Int32) (l2 : Int32) (l3 : Int32), b_X6_violates_4 post f S l0 l1 l2 l3 → Gd p l e rm_X6_violates s m args below meth c 4 G (MQ below (QcM G (pI_ post)) args s rm_X6_violates.cells rm_X6_violates.slots (Ab G)) 0 0 S 4 [(0, rf l0), (1, .int l1), (2, .int l2), (3, .int l3)] [] := by
    intro f
    induction f with
    | zero => intro S l0 l1 l2 l3 h; exact h.elim
    | succ f ih =>
      intro S l0 l1 l2 l3 h
      refine gd_iload_n (pc := 4) X 3 dX6_violates_4 rfl ?_
      refine gd_aload_n (pc := 5) X 0 dX6_violates_5 rfl ?_
      obtain ⟨hk1, h⟩ := h
      refine gd_getI (pc := 6) (kf := 21) X ci6 (by decide) rfl tw_1004 dX6_violates_6 hk1 ?_
      refine gd_icmp_ge (pc := 9) X 37 dX6_violates_9 (by decide) (fun hc6 => ?_) (fun hc6 => ?_)
      · have h := h.1 hc6
        refine gd_iload_n (pc := 37) X 2 dX6_violates_37 rfl ?_
        obtain ⟨hnz, h⟩ := h
        exact (gd_ret_i (pc := 38) X hr hlk hnz (by decide) (by decide) dX6_violates_38 ⟨_, rfl, h⟩)
      · have h := h.2 hc6
        refine gd_iload_n (pc := 12) X 2 dX6_violates_12 rfl ?_
        refine gd_if_ne (pc := 13) X 25 dX6_violates_13 (by decide) (fun hc5 => ?_) (fun hc5 => ?_)
        · have h := h.1 hc5
          exact g25 _ ih _ _ _ _ _ h
        · have h := h.2 hc5
          refine gd_aload_n (pc := 16) X 0 dX6_violates_16 rfl ?_
          refine gd_iload_n (pc := 17) X 3 dX6_violates_17 rfl ?_
          refine gd_iload_n (pc := 18) X 1 dX6_violates_18 rfl ?_
          refine gd_callV (pc := 19) (As := [.int l3, .int l1]) (rest := []) X (ct_X6_isViolated l G S l0 l3 l1 _ h) mw_X6_isViolated tw_1235 ci6 rfl hk1 ⟨(Nat.le_of_ble_eq_true rfl), (Nat.le_of_ble_eq_true rfl)⟩ rfl rfl (Nat.le_of_ble_eq_true rfl) dX6_violates_19 ⟨Nat.le_of_ble_eq_true rfl, Nat.le_of_ble_eq_true rfl⟩ (kI (fun r3 S2 h => ?_))
          refine gd_wide (k2 := 0) (j2 := 0) (Nat.le_of_ble_eq_true rfl) (Nat.le_of_ble_eq_true rfl) ?_
          refine gd_if_eq (pc := 22) X 29 dX6_violates_22 (by decide) (fun hc4 => ?_) (fun hc4 => ?_)
          · have h := h.1 hc4
            refine gd_iconst (pc := 29) X (0) dX6_violates_29 (by decide) ?_
            exact g30 _ ih _ _ _ _ _ _ h
          · have h := h.2 hc4
            exact g25 _ ih _ _ _ _ _ h
  intro h
  refine gd_iconst (pc := 0) X (0) dX6_violates_0 (by decide) ?_
  refine gd_istore_n (pc := 1) X dX6_violates_1 (by decide) (E2 := [(2, .int 0), (0, rf a0), (1, .int a1)]) rfl ?_
  refine gd_iconst (pc := 2) X (0) dX6_violates_2 (by decide) ?_
  refine gd_istore_n (pc := 3) X dX6_violates_3 (by decide) (E2 := [(3, .int 0), (2, .int 0), (0, rf a0), (1, .int a1)]) rfl ?_
  refine gd_sub [2, 3, 1, 0] rfl ?_
  obtain ⟨f4, h⟩ := h
  exact g4 f4 _ _ _ _ _ h
