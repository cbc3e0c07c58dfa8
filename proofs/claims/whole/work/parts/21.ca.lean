abbrev rm_X0_init : Room := { frames := 1, cells := 0, slots := 0, locals := 20 }
def w_X0_init (S : MS) (a0 : Nat) (a1 : Int32) (a2 : Int32) (a3 : Int32) (a4 : Int32) (post : MS → Prop) : Prop := kT S a0 = 1 ∧ ∀ S2 : MS, S2 = pI S a0 0 a1 → ∀ S4 : MS, S4 = pI S2 a0 1 a2 → ∀ S6 : MS, S6 = pI S4 a0 2 a3 → ∀ S8 : MS, S8 = pI S6 a0 3 a4 → post S8
set_option maxHeartbeats 4000000 in
set_option maxRecDepth 100000 in
theorem ct_X0_init (l : Launch) (G : GP) (S : MS) (a0 : Nat) (a1 : Int32) (a2 : Int32) (a3 : Int32) (a4 : Int32) (post : MS → Prop) (h : w_X0_init S a0 a1 a2 a3 a4 post) : MetM l yX0_init cX0_init 5 none rm_X0_init [rf a0, .int a1, .int a2, .int a3, .int a4] G S (pV_ post) := by
  refine met_of (by decide) (cat1_r (cat1_i (cat1_i (cat1_i (cat1_i cat1_n))))) (Nat.le_of_ble_eq_true rfl) ?_
  intro p e s m args below meth c X hr hlk hin
  refine gd_aload_n (pc := 0) X 0 dX0_init_0 rfl ?_
  obtain ⟨hk1, h⟩ := h
  refine gd_objInit (pc := 1) X (by rw [hk1]; decide) tw_853 oi_1 oi_2 dX0_init_1 (Nat.le_of_ble_eq_true rfl) ⟨(Nat.le_of_ble_eq_true rfl), (Nat.le_of_ble_eq_true rfl)⟩ ?_
  refine gd_aload_n (pc := 4) X 0 dX0_init_4 rfl ?_
  refine gd_iload_n (pc := 5) X 1 dX0_init_5 rfl ?_
  refine gd_putFI (pc := 6) (kf := 0) X ci0 (by decide) rfl rfl hin rfl tw_854 rfl rfl dX0_init_6 hk1 ?_
  refine gd_topS (fun S2 hS2 => ?_)
  have h := h S2 hS2
  have hk3 : kT S2 a0 = 1 := by rw [hS2]; exact hk1
  refine gd_aload_n (pc := 9) X 0 dX0_init_9 rfl ?_
  refine gd_iload_n (pc := 10) X 2 dX0_init_10 rfl ?_
  refine gd_putFI (pc := 11) (kf := 1) X ci0 (by decide) rfl rfl hin rfl tw_855 rfl rfl dX0_init_11 hk3 ?_
  refine gd_topS (fun S4 hS4 => ?_)
  have h := h S4 hS4
  have hk5 : kT S4 a0 = 1 := by rw [hS4]; exact hk3
  refine gd_aload_n (pc := 14) X 0 dX0_init_14 rfl ?_
  refine gd_iload_n (pc := 15) X 3 dX0_init_15 rfl ?_
  refine gd_putFI (pc := 16) (kf := 2) X ci0 (by decide) rfl rfl hin rfl tw_856 rfl rfl dX0_init_16 hk5 ?_
  refine gd_topS (fun S6 hS6 => ?_)
  have h := h S6 hS6
  have hk7 : kT S6 a0 = 1 := by rw [hS6]; exact hk5
  refine gd_aload_n (pc := 19) X 0 dX0_init_19 rfl ?_
  refine gd_iload (pc := 20) X 4 dX0_init_20 rfl ?_
  refine gd_putFI (pc := 22) (kf := 3) X ci0 (by decide) rfl rfl hin rfl tw_857 rfl rfl dX0_init_22 hk7 ?_
  refine gd_topS (fun S8 hS8 => ?_)
  have h := h S8 hS8
  have hk9 : kT S8 a0 = 1 := by rw [hS8]; exact hk7
  exact (gd_ret_v (pc := 25) X hr hlk (by decide) (by decide) dX0_init_25 ⟨rfl, h⟩)
abbrev rm_X5_countIn : Room := { frames := 0, cells := 0, slots := 0, locals := 0 }
def b_X5_countIn_33 (KH6 : MS → Nat → Int32 → Int32 → Int32 → Int32 → Int32 → Prop) (post : Int32 → MS → Prop) (S : MS) (l0 : Nat) (l1 : Int32) (l2 : Int32) (l3 : Int32) (l4 : Int32) (l5 : Int32) : Prop := ∀ v1 : Int32, v1 = l5 + 1 → KH6 S l0 l1 l2 l3 l4 v1
def b_X5_countIn_6 (post : Int32 → MS → Prop) : Nat → MS → Nat → Int32 → Int32 → Int32 → Int32 → Int32 → Prop
  | 0 => fun _ _ _ _ _ _ _ => False
  | f + 1 => fun S l0 l1 l2 l3 l4 l5 => ((l2 < l5 → post l4 S) ∧ (¬ l2 < l5 → kT S l0 = 9 ∧ vp_in l5 (kL S l0) ∧ (((sI S l0 (ix l5)) = ((-1000)) → b_X5_countIn_33 (b_X5_countIn_6 post f) post S l0 l1 l2 l3 l4 l5) ∧ (¬ (sI S l0 (ix l5)) = ((-1000)) → vp_in l5 (kL S l0) ∧ (((sI S l0 (ix l5)) < l3 → b_X5_countIn_33 (b_X5_countIn_6 post f) post S l0 l1 l2 l3 l4 l5) ∧ (¬ (sI S l0 (ix l5)) < l3 → ∀ v4 : Int32, v4 = l4 + 1 → b_X5_countIn_33 (b_X5_countIn_6 post f) post S l0 l1 l2 l3 v4 l5))))))
def w_X5_countIn (S : MS) (a0 : Nat) (a1 : Int32) (a2 : Int32) (a3 : Int32) (post : Int32 → MS → Prop) : Prop := ∃ f6, b_X5_countIn_6 post f6 S a0 a1 a2 a3 0 a1
set_option maxHeartbeats 4000000 in
set_option maxRecDepth 100000 in
theorem ct_X5_countIn (l : Launch) (G : GP) (S : MS) (a0 : Nat) (a1 : Int32) (a2 : Int32) (a3 : Int32) (post : Int32 → MS → Prop) (h : w_X5_countIn S a0 a1 a2 a3 post) : MetM l yX5_countIn cX5_countIn 6 (some .int) rm_X5_countIn [rf a0, .int a1, .int a2, .int a3] G S (pI_ post) := by
  refine met_of (by decide) (cat1_r (cat1_i (cat1_i (cat1_i cat1_n)))) (Nat.le_of_ble_eq_true rfl) ?_
  intro p e s m args below meth c X hr hlk hin
  revert h
  have g33 : ∀ (KH6 : MS → Nat → Int32 → Int32 → Int32 → Int32 → Int32 → Prop) (hKH6 : ∀ (S : MS) (l0 : Nat) (l1 : Int32) (l2 : Int32) (l3 : Int32) (l4 : Int32) (l5 : Int32), KH6 S l0 l1 l2 l3 l4 l5 → Gd p l e rm_X5_countIn s m args below meth c 6 G (MQ below (QcM G (pI_ post)) args s rm_X5_countIn.cells rm_X5_countIn.slots (Ab G)) 0 0 S 6 [(0, rf l0), (1, .int l1), (2, .int l2), (3, .int l3), (4, .int l4), (5, .int l5)] []) (S : MS) (l0 : Nat) (l1 : Int32) (l2 : Int32) (l3 : Int32) (l4 : Int32) (l5 : Int32), b_X5_countIn_33 KH6 post S l0 l1 l2 l3 l4 l5 → Gd p l e rm_X5_countIn s m args below meth c 6 G (MQ below (QcM G (pI_ post)) args s rm_X5_countIn.cells rm_X5_countIn.slots (Ab G)) 0 0 S 33 [(0, rf l0), (1, .int l1), (2, .int l2), (3, .int l3), (4, .int l4), (5, .int l5)] [] := by
    intro KH6 hKH6 S l0 l1 l2 l3 l4 l5 h
    obtain ⟨v1, hv1⟩ : ∃ z : Int32, z = l5 + 1 := ⟨_, rfl⟩
    have h := h v1 hv1
    refine gd_iinc (pc := 33) (v := v1) X 5 dX5_countIn_33 rfl (by rw [hv1]; rfl) (by decide) (E2 := [(5, .int v1), (0, rf l0), (1, .int l1), (2, .int l2), (3, .int l3), (4, .int l4)]) rfl ?_
    refine gd_goto (pc := 36) X 6 dX5_countIn_36 (by decide) ?_
    refine gd_sub [1, 2, 3, 4, 5, 0] rfl ?_
    exact hKH6 _ _ _ _ _ _ _ h
  have g6 : ∀ (f : Nat) (S : MS) (l0 : Nat) (l1 : Int32) (l2 : Int32) (l3 : Int32) (l4 : Int32) (l5 : Int32), b_X5_countIn_6 post f S l0 l1 l2 l3 l4 l5 → Gd p l e rm_X5_countIn s m args below meth c 6 G (MQ below (QcM G (pI_ post)) args s rm_X5_countIn.cells rm_X5_countIn.slots (Ab G)) 0 0 S 6 [(0, rf l0), (1, .int l1), (2, .int l2), (3, .int l3), (4, .int l4), (5, .int l5)] [] := by
    intro f
    induction f with
    | zero => intro S l0 l1 l2 l3 l4 l5 h; exact h.elim
    | succ f ih =>
      intro S l0 l1 l2 l3 l4 l5 h
      refine gd_iload (pc := 6) X 5 dX5_countIn_6 rfl ?_
      refine gd_iload_n (pc := 8) X 2 dX5_countIn_8 rfl ?_
      refine gd_icmp_gt (pc := 9) X 39 dX5_countIn_9 (by decide) (fun hc7 => ?_) (fun hc7 => ?_)
      · have h := h.1 hc7
        refine gd_iload (pc := 39) X 4 dX5_countIn_39 rfl ?_
        exact (gd_ret_i (pc := 41) X hr hlk rfl (by decide) (by decide) dX5_countIn_41 ⟨_, rfl, h⟩)
      · have h := h.2 hc7
        refine gd_aload_n (pc := 12) X 0 dX5_countIn_12 rfl ?_
        refine gd_iload (pc := 13) X 5 dX5_countIn_13 rfl ?_
        obtain ⟨hk1, h⟩ := h
        obtain ⟨hi2, h⟩ := h
        refine gd_iald (pc := 15) X dX5_countIn_15 hk1 hi2 ?_
        refine gd_sipush (pc := 16) X (-1000) dX5_countIn_16 (by decide) ?_
        refine gd_icmp_eq (pc := 19) X 33 dX5_countIn_19 (by decide) (fun hc6 => ?_) (fun hc6 => ?_)
        · have h := h.1 hc6
          exact g33 _ ih _ _ _ _ _ _ _ h
        · have h := h.2 hc6
          refine gd_aload_n (pc := 22) X 0 dX5_countIn_22 rfl ?_
          refine gd_iload (pc := 23) X 5 dX5_countIn_23 rfl ?_
          obtain ⟨hi3, h⟩ := h
          refine gd_iald (pc := 25) X dX5_countIn_25 hk1 hi3 ?_
          refine gd_iload_n (pc := 26) X 3 dX5_countIn_26 rfl ?_
          refine gd_icmp_lt (pc := 27) X 33 dX5_countIn_27 (by decide) (fun hc5 => ?_) (fun hc5 => ?_)
          · have h := h.1 hc5
            exact g33 _ ih _ _ _ _ _ _ _ h
          · have h := h.2 hc5
            obtain ⟨v4, hv4⟩ : ∃ z : Int32, z = l4 + 1 := ⟨_, rfl⟩
            have h := h v4 hv4
            refine gd_iinc (pc := 30) (v := v4) X 4 dX5_countIn_30 rfl (by rw [hv4]; rfl) (by decide) (E2 := [(4, .int v4), (0, rf l0), (1, .int l1), (2, .int l2), (3, .int l3), (5, .int l5)]) rfl ?_
            refine gd_sub [1, 2, 3, 4, 0, 5] rfl ?_
            exact g33 _ ih _ _ _ _ _ _ _ h
  intro h
  refine gd_iconst (pc := 0) X (0) dX5_countIn_0 (by decide) ?_
  refine gd_istore (pc := 1) X dX5_countIn_1 (by decide) (E2 := [(4, .int 0), (0, rf a0), (1, .int a1), (2, .int a2), (3, .int a3)]) rfl ?_
  refine gd_iload_n (pc := 3) X 2 dX5_countIn_3 rfl ?_
  refine gd_istore (pc := 4) X dX5_countIn_4 (by decide) (E2 := [(5, .int a1), (4, .int 0), (0, rf a0), (1, .int a1), (2, .int a2), (3, .int a3)]) rfl ?_
  refine gd_sub [2, 3, 4, 5, 1, 0] rfl ?_
  obtain ⟨f6, h⟩ := h
  exact g6 f6 _ _ _ _ _ _ _ h
abbrev rm_X5_totalIn : Room := { frames := 0, cells := 0, slots := 0, locals := 0 }
def b_X5_totalIn_28 (KH5 : MS → Nat → Int32 → Int32 → Int32 → Int32 → Prop) (post : Int32 → MS → Prop) (S : MS) (l0 : Nat) (l1 : Int32) (l2 : Int32) (l3 : Int32) (l4 : Int32) : Prop := ∀ v1 : Int32, v1 = l4 + 1 → KH5 S l0 l1 l2 l3 v1
def b_X5_totalIn_5 (post : Int32 → MS → Prop) : Nat → MS → Nat → Int32 → Int32 → Int32 → Int32 → Prop
  | 0 => fun _ _ _ _ _ _ => False
  | f + 1 => fun S l0 l1 l2 l3 l4 => ((l2 < l4 → post l3 S) ∧ (¬ l2 < l4 → kT S l0 = 9 ∧ vp_in l4 (kL S l0) ∧ (((sI S l0 (ix l4)) = ((-1000)) → b_X5_totalIn_28 (b_X5_totalIn_5 post f) post S l0 l1 l2 l3 l4) ∧ (¬ (sI S l0 (ix l4)) = ((-1000)) → vp_in l4 (kL S l0) ∧ ∀ v4 : Int32, v4 = l3 + (sI S l0 (ix l4)) → b_X5_totalIn_28 (b_X5_totalIn_5 post f) post S l0 l1 l2 v4 l4))))
def w_X5_totalIn (S : MS) (a0 : Nat) (a1 : Int32) (a2 : Int32) (post : Int32 → MS → Prop) : Prop := ∃ f5, b_X5_totalIn_5 post f5 S a0 a1 a2 0 a1
set_option maxHeartbeats 4000000 in
set_option maxRecDepth 100000 in
theorem ct_X5_totalIn (l : Launch) (G : GP) (S : MS) (a0 : Nat) (a1 : Int32) (a2 : Int32) (post : Int32 → MS → Prop) (h : w_X5_totalIn S a0 a1 a2 post) : MetM l yX5_totalIn cX5_totalIn 5 (some .int) rm_X5_totalIn [rf a0, .int a1, .int a2] G S (pI_ post) := by
  refine met_of (by decide) (cat1_r (cat1_i (cat1_i cat1_n))) (Nat.le_of_ble_eq_true rfl) ?_
  intro p e s m args below meth c X hr hlk hin
  revert h
  have g28 : ∀ (KH5 : MS → Nat → Int32 → Int32 → Int32 → Int32 → Prop) (hKH5 : ∀ (S : MS) (l0 : Nat) (l1 : Int32) (l2 : Int32) (l3 : Int32) (l4 : Int32), KH5 S l0 l1 l2 l3 l4 → Gd p l e rm_X5_totalIn s m args below meth c 5 G (MQ below (QcM G (pI_ post)) args s rm_X5_totalIn.cells rm_X5_totalIn.slots (Ab G)) 0 0 S 5 [(0, rf l0), (1, .int l1), (2, .int l2), (3, .int l3), (4, .int l4)] []) (S : MS) (l0 : Nat) (l1 : Int32) (l2 : Int32) (l3 : Int32) (l4 : Int32), b_X5_totalIn_28 KH5 post S l0 l1 l2 l3 l4 → Gd p l e rm_X5_totalIn s m args below meth c 5 G (MQ below (QcM G (pI_ post)) args s rm_X5_totalIn.cells rm_X5_totalIn.slots (Ab G)) 0 0 S 28 [(0, rf l0), (1, .int l1), (2, .int l2), (3, .int l3), (4, .int l4)] [] := by
    intro KH5 hKH5 S l0 l1 l2 l3 l4 h
    obtain ⟨v1, hv1⟩ : ∃ z : Int32, z = l4 + 1 := ⟨_, rfl⟩
    have h := h v1 hv1
    refine gd_iinc (pc := 28) (v := v1) X 4 dX5_totalIn_28 rfl (by rw [hv1]; rfl) (by decide) (E2 := [(4, .int v1), (0, rf l0), (1, .int l1), (2, .int l2), (3, .int l3)]) rfl ?_
    refine gd_goto (pc := 31) X 5 dX5_totalIn_31 (by decide) ?_
    refine gd_sub [1, 2, 3, 4, 0] rfl ?_
    exact hKH5 _ _ _ _ _ _ h
  have g5 : ∀ (f : Nat) (S : MS) (l0 : Nat) (l1 : Int32) (l2 : Int32) (l3 : Int32) (l4 : Int32), b_X5_totalIn_5 post f S l0 l1 l2 l3 l4 → Gd p l e rm_X5_totalIn s m args below meth c 5 G (MQ below (QcM G (pI_ post)) args s rm_X5_totalIn.cells rm_X5_totalIn.slots (Ab G)) 0 0 S 5 [(0, rf l0), (1, .int l1), (2, .int l2), (3, .int l3), (4, .int l4)] [] := by
    intro f
    induction f with
    | zero => intro S l0 l1 l2 l3 l4 h; exact h.elim
    | succ f ih =>
      intro S l0 l1 l2 l3 l4 h
      refine gd_iload (pc := 5) X 4 dX5_totalIn_5 rfl ?_
      refine gd_iload_n (pc := 7) X 2 dX5_totalIn_7 rfl ?_
      refine gd_icmp_gt (pc := 8) X 34 dX5_totalIn_8 (by decide) (fun hc6 => ?_) (fun hc6 => ?_)
      · have h := h.1 hc6
        refine gd_iload_n (pc := 34) X 3 dX5_totalIn_34 rfl ?_
        exact (gd_ret_i (pc := 35) X hr hlk rfl (by decide) (by decide) dX5_totalIn_35 ⟨_, rfl, h⟩)
      · have h := h.2 hc6
        refine gd_aload_n (pc := 11) X 0 dX5_totalIn_11 rfl ?_
        refine gd_iload (pc := 12) X 4 dX5_totalIn_12 rfl ?_
        obtain ⟨hk1, h⟩ := h
        obtain ⟨hi2, h⟩ := h
        refine gd_iald (pc := 14) X dX5_totalIn_14 hk1 hi2 ?_
        refine gd_sipush (pc := 15) X (-1000) dX5_totalIn_15 (by decide) ?_
        refine gd_icmp_eq (pc := 18) X 28 dX5_totalIn_18 (by decide) (fun hc5 => ?_) (fun hc5 => ?_)
        · have h := h.1 hc5
          exact g28 _ ih _ _ _ _ _ _ h
        · have h := h.2 hc5
          refine gd_iload_n (pc := 21) X 3 dX5_totalIn_21 rfl ?_
          refine gd_aload_n (pc := 22) X 0 dX5_totalIn_22 rfl ?_
          refine gd_iload (pc := 23) X 4 dX5_totalIn_23 rfl ?_
          obtain ⟨hi3, h⟩ := h
          refine gd_iald (pc := 25) X dX5_totalIn_25 hk1 hi3 ?_
          refine gd_iadd (pc := 26) X dX5_totalIn_26 ?_
          refine gd_topI (fun v4 hv4 => ?_)
          have h := h v4 hv4
          refine gd_istore_n (pc := 27) X dX5_totalIn_27 (by decide) (E2 := [(3, .int v4), (0, rf l0), (1, .int l1), (2, .int l2), (4, .int l4)]) rfl ?_
          refine gd_sub [1, 2, 3, 0, 4] rfl ?_
          exact g28 _ ih _ _ _ _ _ _ h
  intro h
  refine gd_iconst (pc := 0) X (0) dX5_totalIn_0 (by decide) ?_
  refine gd_istore_n (pc := 1) X dX5_totalIn_1 (by decide) (E2 := [(3, .int 0), (0, rf a0), (1, .int a1), (2, .int a2)]) rfl ?_
  refine gd_iload_n (pc := 2) X 2 dX5_totalIn_2 rfl ?_
  refine gd_istore (pc := 3) X dX5_totalIn_3 (by decide) (E2 := [(4, .int a1), (3, .int 0), (0, rf a0), (1, .int a1), (2, .int a2)]) rfl ?_
  refine gd_sub [2, 3, 4, 1, 0] rfl ?_
  obtain ⟨f5, h⟩ := h
  exact g5 f5 _ _ _ _ _ _ h
abbrev rm_X0_isViolatedBy : Room := { frames := 1, cells := 0, slots := 0, locals := 25 }
def b_X0_isViolatedBy_86 (post : Int32 → MS → Prop) (S : MS) (l0 : Nat) (l1 : Nat) (l2 : Int32) (s0 : Int32) : Prop := narrow .boolean (.int s0) = .int s0 ∧ post s0 S
def b_X0_isViolatedBy_35 (post : Int32 → MS → Prop) (S : MS) (l0 : Nat) (l1 : Nat) (s0 : Int32) : Prop := narrow .boolean (.int s0) = .int s0 ∧ post s0 S
def w_X0_isViolatedBy (S : MS) (a0 : Nat) (a1 : Nat) (post : Int32 → MS → Prop) : Prop := kT S a0 = 1 ∧ ((¬ (sI S a0 0) = 2 → w_X5_totalIn S a1 (sI S a0 1) (sI S a0 2) (fun r3 S2 => kT S2 a0 = 1 ∧ ((¬ (sI S2 a0 0) = 1 → (((sI S2 a0 3) ≤ r3 → b_X0_isViolatedBy_86 post S2 a0 a1 r3 0) ∧ (¬ (sI S2 a0 3) ≤ r3 → b_X0_isViolatedBy_86 post S2 a0 a1 r3 1))) ∧ ((sI S2 a0 0) = 1 → ((r3 ≤ (sI S2 a0 3) → b_X0_isViolatedBy_86 post S2 a0 a1 r3 0) ∧ (¬ r3 ≤ (sI S2 a0 3) → b_X0_isViolatedBy_86 post S2 a0 a1 r3 1)))))) ∧ ((sI S a0 0) = 2 → w_X5_countIn S a1 (sI S a0 1) (sI S a0 2) ((-999)) (fun r9 S8 => kT S8 a0 = 1 ∧ ((r9 ≤ (sI S8 a0 3) → b_X0_isViolatedBy_35 post S8 a0 a1 0) ∧ (¬ r9 ≤ (sI S8 a0 3) → b_X0_isViolatedBy_35 post S8 a0 a1 1)))))
set_option maxHeartbeats 4000000 in
set_option maxRecDepth 100000 in
theorem ct_X0_isViolatedBy (l : Launch) (G : GP) (S : MS) (a0 : Nat) (a1 : Nat) (post : Int32 → MS → Prop) (h : w_X0_isViolatedBy S a0 a1 post) : MetM l yX0_isViolatedBy cX0_isViolatedBy 3 (some .boolean) rm_X0_isViolatedBy [rf a0, rf a1] G S (pI_ post) := by
  refine met_of (by decide) (cat1_r (cat1_r cat1_n)) (Nat.le_of_ble_eq_true rfl) ?_
  intro p e s m args below meth c X hr hlk hin
  revert h
  have g86 : ∀ (S : MS) (l0 : Nat) (l1 : Nat) (l2 : Int32) (s0 : Int32), b_X0_isViolatedBy_86 post S l0 l1 l2 s0 → Gd p l e rm_X0_isViolatedBy s m args below meth c 3 G (MQ below (QcM G (pI_ post)) args s rm_X0_isViolatedBy.cells rm_X0_isViolatedBy.slots (Ab G)) 0 0 S 86 [(0, rf l0), (1, rf l1), (2, .int l2)] [.int s0] := by
    intro S l0 l1 l2 s0 h
    obtain ⟨hnz, h⟩ := h
    exact (gd_ret_i (pc := 86) X hr hlk hnz (by decide) (by decide) dX0_isViolatedBy_86 ⟨_, rfl, h⟩)
  have g35 : ∀ (S : MS) (l0 : Nat) (l1 : Nat) (s0 : Int32), b_X0_isViolatedBy_35 post S l0 l1 s0 → Gd p l e rm_X0_isViolatedBy s m args below meth c 3 G (MQ below (QcM G (pI_ post)) args s rm_X0_isViolatedBy.cells rm_X0_isViolatedBy.slots (Ab G)) 0 0 S 35 [(0, rf l0), (1, rf l1)] [.int s0] := by
    intro S l0 l1 s0 h
    obtain ⟨hnz, h⟩ := h
    exact (gd_ret_i (pc := 35) X hr hlk hnz (by decide) (by decide) dX0_isViolatedBy_35 ⟨_, rfl, h⟩)
  intro h
  refine gd_aload_n (pc := 0) X 0 dX0_isViolatedBy_0 rfl ?_
  obtain ⟨hk1, h⟩ := h
  refine gd_getI (pc := 1) (kf := 0) X ci0 (by decide) rfl tw_854 dX0_isViolatedBy_1 hk1 ?_
  refine gd_iconst (pc := 4) X (2) dX0_isViolatedBy_4 (by decide) ?_
  refine gd_icmp_ne (pc := 5) X 36 dX0_isViolatedBy_5 (by decide) (fun hc12 => ?_) (fun hc12 => ?_)
  · have h := h.1 hc12
    refine gd_aload_n (pc := 36) X 1 dX0_isViolatedBy_36 rfl ?_
    refine gd_aload_n (pc := 37) X 0 dX0_isViolatedBy_37 rfl ?_
    refine gd_getI (pc := 38) (kf := 1) X ci0 (by decide) rfl tw_855 dX0_isViolatedBy_38 hk1 ?_
    refine gd_aload_n (pc := 41) X 0 dX0_isViolatedBy_41 rfl ?_
    refine gd_getI (pc := 42) (kf := 2) X ci0 (by decide) rfl tw_856 dX0_isViolatedBy_42 hk1 ?_
    refine gd_callSN (host := "OptimisticStore") (pc := 45) (As := [rf a1, .int (sI S a0 1), .int (sI S a0 2)]) (rest := []) X (ct_X5_totalIn l G S a1 (sI S a0 1) (sI S a0 2) _ h) mw_X5_totalIn (by decide) ⟨(Nat.le_of_ble_eq_true rfl), (Nat.le_of_ble_eq_true rfl)⟩ rfl rfl (Nat.le_of_ble_eq_true rfl) dX0_isViolatedBy_45 ⟨Nat.le_of_ble_eq_true rfl, Nat.le_of_ble_eq_true rfl⟩ (kI (fun r3 S2 h => ?_))
    refine gd_wide (k2 := 0) (j2 := 0) (Nat.le_of_ble_eq_true rfl) (Nat.le_of_ble_eq_true rfl) ?_
    refine gd_istore_n (pc := 48) X dX0_isViolatedBy_48 (by decide) (E2 := [(2, .int r3), (0, rf a0), (1, rf a1)]) (by simp [rf_cat, lv1, int_cat] <;> decide) ?_
    refine gd_aload_n (pc := 49) X 1 dX0_isViolatedBy_49 rfl ?_
    obtain ⟨hk4, h⟩ := h
    refine gd_getI (pc := 50) (kf := 0) X ci0 (by decide) rfl tw_854 dX0_isViolatedBy_50 hk4 ?_
    refine gd_iconst (pc := 53) X (1) dX0_isViolatedBy_53 (by decide) ?_
    refine gd_icmp_ne (pc := 54) X 73 dX0_isViolatedBy_54 (by decide) (fun hc7 => ?_) (fun hc7 => ?_)
    · have h := h.1 hc7
      refine gd_iload_n (pc := 73) X 0 dX0_isViolatedBy_73 rfl ?_
      refine gd_aload_n (pc := 74) X 1 dX0_isViolatedBy_74 rfl ?_
      refine gd_getI (pc := 75) (kf := 3) X ci0 (by decide) rfl tw_857 dX0_isViolatedBy_75 hk4 ?_
      refine gd_icmp_ge (pc := 78) X 85 dX0_isViolatedBy_78 (by decide) (fun hc5 => ?_) (fun hc5 => ?_)
      · have h := h.1 hc5
        refine gd_iconst (pc := 85) X (0) dX0_isViolatedBy_85 (by decide) ?_
        refine gd_sub [1, 2, 0] rfl ?_
        exact g86 _ _ _ _ _ h
      · have h := h.2 hc5
        refine gd_iconst (pc := 81) X (1) dX0_isViolatedBy_81 (by decide) ?_
        refine gd_goto (pc := 82) X 86 dX0_isViolatedBy_82 (by decide) ?_
        refine gd_sub [1, 2, 0] rfl ?_
        exact g86 _ _ _ _ _ h
    · have h := h.2 hc7
      refine gd_iload_n (pc := 57) X 0 dX0_isViolatedBy_57 rfl ?_
      refine gd_aload_n (pc := 58) X 1 dX0_isViolatedBy_58 rfl ?_
      refine gd_getI (pc := 59) (kf := 3) X ci0 (by decide) rfl tw_857 dX0_isViolatedBy_59 hk4 ?_
      refine gd_icmp_le (pc := 62) X 69 dX0_isViolatedBy_62 (by decide) (fun hc6 => ?_) (fun hc6 => ?_)
      · have h := h.1 hc6
        refine gd_iconst (pc := 69) X (0) dX0_isViolatedBy_69 (by decide) ?_
        refine gd_goto (pc := 70) X 86 dX0_isViolatedBy_70 (by decide) ?_
        refine gd_sub [1, 2, 0] rfl ?_
        exact g86 _ _ _ _ _ h
      · have h := h.2 hc6
        refine gd_iconst (pc := 65) X (1) dX0_isViolatedBy_65 (by decide) ?_
        refine gd_goto (pc := 66) X 86 dX0_isViolatedBy_66 (by decide) ?_
        refine gd_sub [1, 2, 0] rfl ?_
        exact g86 _ _ _ _ _ h
  · have h := h.2 hc12
    refine gd_aload_n (pc := 8) X 1 dX0_isViolatedBy_8 rfl ?_
    refine gd_aload_n (pc := 9) X 0 dX0_isViolatedBy_9 rfl ?_
    refine gd_getI (pc := 10) (kf := 1) X ci0 (by decide) rfl tw_855 dX0_isViolatedBy_10 hk1 ?_
    refine gd_aload_n (pc := 13) X 0 dX0_isViolatedBy_13 rfl ?_
    refine gd_getI (pc := 14) (kf := 2) X ci0 (by decide) rfl tw_856 dX0_isViolatedBy_14 hk1 ?_
    refine gd_sipush (pc := 17) X (-999) dX0_isViolatedBy_17 (by decide) ?_
    refine gd_callSN (host := "OptimisticStore") (pc := 20) (As := [rf a1, .int (sI S a0 1), .int (sI S a0 2), .int ((-999))]) (rest := []) X (ct_X5_countIn l G S a1 (sI S a0 1) (sI S a0 2) ((-999)) _ h) mw_X5_countIn (by decide) ⟨(Nat.le_of_ble_eq_true rfl), (Nat.le_of_ble_eq_true rfl)⟩ rfl rfl (Nat.le_of_ble_eq_true rfl) dX0_isViolatedBy_20 ⟨Nat.le_of_ble_eq_true rfl, Nat.le_of_ble_eq_true rfl⟩ (kI (fun r9 S8 h => ?_))
    refine gd_wide (k2 := 0) (j2 := 0) (Nat.le_of_ble_eq_true rfl) (Nat.le_of_ble_eq_true rfl) ?_
    refine gd_aload_n (pc := 23) X 0 dX0_isViolatedBy_23 rfl ?_
    obtain ⟨hk10, h⟩ := h
    refine gd_getI (pc := 24) (kf := 3) X ci0 (by decide) rfl tw_857 dX0_isViolatedBy_24 hk10 ?_
    refine gd_icmp_le (pc := 27) X 34 dX0_isViolatedBy_27 (by decide) (fun hc11 => ?_) (fun hc11 => ?_)
    · have h := h.1 hc11
      refine gd_iconst (pc := 34) X (0) dX0_isViolatedBy_34 (by decide) ?_
      exact g35 _ _ _ _ h
    · have h := h.2 hc11
      refine gd_iconst (pc := 30) X (1) dX0_isViolatedBy_30 (by decide) ?_
      refine gd_goto (pc := 31) X 35 dX0_isViolatedBy_31 (by decide) ?_
      exact g35 _ _ _ _ h
abbrev rm_J7_fill_53178 : Room := { frames := 0, cells := 0, slots := 0, locals := 0 }
def b_J7_fill_53178_5 (post : MS → Prop) : Nat → MS → Nat → Int32 → Int32 → Int32 → Prop
  | 0 => fun _ _ _ _ _ => False
  | f + 1 => fun S l0 l1 l2 l3 => ((l3 ≤ l2 → post S) ∧ (¬ l3 ≤ l2 → kT S l0 = 9 ∧ vp_in l2 (kL S l0) ∧ ∀ S3 : MS, S3 = pI S l0 (ix l2) l1 → ∀ v5 : Int32, v5 = l2 + 1 → b_J7_fill_53178_5 post f S3 l0 l1 v5 l3))
def w_J7_fill_53178 (S : MS) (a0 : Nat) (a1 : Int32) (post : MS → Prop) : Prop := kT S a0 = 9 ∧ ∀ v2 : Int32, v2 = Int32.ofNat (kL S a0) → ∃ f5, b_J7_fill_53178_5 post f5 S a0 a1 0 v2
set_option maxHeartbeats 4000000 in
set_option maxRecDepth 100000 in
theorem ct_J7_fill_53178 (l : Launch) (G : GP) (S : MS) (a0 : Nat) (a1 : Int32) (post : MS → Prop) (h : w_J7_fill_53178 S a0 a1 post) : MetM l yJ7_fill_53178 cJ7_fill_53178 4 none rm_J7_fill_53178 [rf a0, .int a1] G S (pV_ post) := by
  refine met_of (by decide) (cat1_r (cat1_i cat1_n)) (Nat.le_of_ble_eq_true rfl) ?_
  intro p e s m args below meth c X hr hlk hin
  revert h
  have g5 : ∀ (f : Nat) (S : MS) (l0 : Nat) (l1 : Int32) (l2 : Int32) (l3 : Int32), b_J7_fill_53178_5 post f S l0 l1 l2 l3 → Gd p l e rm_J7_fill_53178 s m args below meth c 4 G (MQ below (QcM G (pV_ post)) args s rm_J7_fill_53178.cells rm_J7_fill_53178.slots (Ab G)) 0 0 S 5 [(0, rf l0), (1, .int l1), (2, .int l2), (3, .int l3)] [] := by
    intro f
    induction f with
    | zero => intro S l0 l1 l2 l3 h; exact h.elim
    | succ f ih =>
      intro S l0 l1 l2 l3 h
      refine gd_iload_n (pc := 5) X 2 dJ7_fill_53178_5 rfl ?_
      refine gd_iload_n (pc := 6) X 3 dJ7_fill_53178_6 rfl ?_
      refine gd_icmp_ge (pc := 7) X 20 dJ7_fill_53178_7 (by decide) (fun hc6 => ?_) (fun hc6 => ?_)
      · have h := h.1 hc6
        exact (gd_ret_v (pc := 20) X hr hlk (by decide) (by decide) dJ7_fill_53178_20 ⟨rfl, h⟩)
      · have h := h.2 hc6
        refine gd_aload_n (pc := 10) X 0 dJ7_fill_53178_10 rfl ?_
        refine gd_iload_n (pc := 11) X 2 dJ7_fill_53178_11 rfl ?_
        refine gd_iload_n (pc := 12) X 1 dJ7_fill_53178_12 rfl ?_
        obtain ⟨hk1, h⟩ := h
        obtain ⟨hi2, h⟩ := h
        refine gd_iast (pc := 13) X dJ7_fill_53178_13 hk1 hi2 ?_
        refine gd_topS (fun S3 hS3 => ?_)
        have h := h S3 hS3
        have hk4 : kT S3 l0 = 9 := by rw [hS3]; exact hk1
        obtain ⟨v5, hv5⟩ : ∃ z : Int32, z = l2 + 1 := ⟨_, rfl⟩
        have h := h v5 hv5
        refine gd_iinc (pc := 14) (v := v5) X 2 dJ7_fill_53178_14 rfl (by rw [hv5]; rfl) (by decide) (E2 := [(2, .int v5), (0, rf l0), (1, .int l1), (3, .int l3)]) rfl ?_
        refine gd_goto (pc := 17) X 5 dJ7_fill_53178_17 (by decide) ?_
        refine gd_sub [1, 2, 0, 3] rfl ?_
        exact ih _ _ _ _ _ h
  intro h
  refine gd_iconst (pc := 0) X (0) dJ7_fill_53178_0 (by decide) ?_
  refine gd_istore_n (pc := 1) X dJ7_fill_53178_1 (by decide) (E2 := [(2, .int 0), (0, rf a0), (1, .int a1)]) rfl ?_
  refine gd_aload_n (pc := 2) X 1 dJ7_fill_53178_2 rfl ?_
  obtain ⟨hk1, h⟩ := h
  refine gd_alen (pc := 3) X dJ7_fill_53178_3 hk1 ?_
  refine gd_topI (fun v2 hv2 => ?_)
  have h := h v2 hv2
  refine gd_istore_n (pc := 4) X dJ7_fill_53178_4 (by decide) (E2 := [(3, .int v2), (2, .int 0), (0, rf a0), (1, .int a1)]) rfl ?_
  refine gd_sub [2, 3, 1, 0] rfl ?_
  obtain ⟨f5, h⟩ := h
  exact g5 f5 _ _ _ _ _ h
abbrev rm_X1_init : Room := { frames := 1, cells := 63, slots := 2074, locals := 23 }
def w_X1_init (S : MS) (a0 : Nat) (post : MS → Prop) : Prop := kT S a0 = 2 ∧ ∀ (q2 : Nat) (rw3 : Nat → Nat) (S9 : MS), mna S q2 rw3 61 32 S9 → kT S9 a0 = 2 ∧ ∀ S5 : MS, S5 = pR S9 a0 0 q2 → ∀ q7 : Nat, kT S5 q7 = 0 → ¬ q7 = 0 → ∀ S8 : MS, S8 = nw S5 q7 13 61 → ∀ S11 : MS, S11 = pR S8 a0 1 q7 → kT S11 (sR S11 a0 0) = 14 ∧ vp_in 0 (kL S11 (sR S11 a0 0)) ∧ w_J7_fill_53178 S11 (sR S11 (sR S11 a0 0) (ix 0)) ((-1000)) (fun S16 => post S16)
set_option maxHeartbeats 4000000 in
set_option maxRecDepth 100000 in
theorem ct_X1_init (l : Launch) (G : GP) (S : MS) (a0 : Nat) (post : MS → Prop) (h : w_X1_init S a0 post) : MetM l yX1_init cX1_init 1 none rm_X1_init [rf a0] G S (pV_ post) := by
  refine met_of (by decide) (cat1_r cat1_n) (Nat.le_of_ble_eq_true rfl) ?_
  intro p e s m args below meth c X hr hlk hin
  refine gd_aload_n (pc := 0) X 0 dX1_init_0 rfl ?_
  obtain ⟨hk1, h⟩ := h
  refine gd_objInit (pc := 1) X (by rw [hk1]; decide) tw_34 oi_1 oi_2 dX1_init_1 (Nat.le_of_ble_eq_true rfl) ⟨(Nat.le_of_ble_eq_true rfl), (Nat.le_of_ble_eq_true rfl)⟩ ?_
  refine gd_aload_n (pc := 4) X 0 dX1_init_4 rfl ?_
  refine gd_bipush (pc := 5) X (61) dX1_init_5 (by decide) ?_
  refine gd_bipush (pc := 7) X (32) dX1_init_7 (by decide) ?_
  refine gd_mna (pc := 9) (N := 61) (M := 32) X tw_35 tw_53 (by decide) (by decide) (by decide) (by decide) (by decide) (by decide) dX1_init_9 ⟨Nat.le_of_ble_eq_true rfl, Nat.le_of_ble_eq_true rfl⟩ (fun q2 rw3 S9 hq9 => ?_)
  have h := h q2 rw3 S9 hq9
  refine gd_wide (k2 := 62) (j2 := 2013) (Nat.le_of_ble_eq_true rfl) (Nat.le_of_ble_eq_true rfl) ?_
  obtain ⟨hk4, h⟩ := h
  refine gd_putFR (pc := 13) (kf := 0) X ci1 (by decide) rfl rfl hin rfl tw_42 (rf_nar (by decide) q2) (rf_fit (by decide) q2) dX1_init_13 hk4 ?_
  refine gd_topS (fun S5 hS5 => ?_)
  have h := h S5 hS5
  have hk6 : kT S5 a0 = 2 := by rw [hS5]; exact hk4
  refine gd_aload_n (pc := 16) X 0 dX1_init_16 rfl ?_
  refine gd_bipush (pc := 17) X (61) dX1_init_17 (by decide) ?_
  refine gd_anew (pc := 19) (t := 5) (N := 61) X tw_37 (by decide) rfl (by decide) (by decide) (by decide) (by decide) (by decide) dX1_init_19 ⟨Nat.le_of_ble_eq_true rfl, Nat.le_of_ble_eq_true rfl⟩ (fun q7 hzq7 hnq7 => ?_)
  have h := h q7 hzq7 hnq7
  refine gd_wide (k2 := 63) (j2 := 2074) (Nat.le_of_ble_eq_true rfl) (Nat.le_of_ble_eq_true rfl) ?_
  refine gd_topS (fun S8 hS8 => ?_)
  have h := h S8 hS8
  have hk9 : kT S8 a0 = 2 := by rw [hS8]; exact kT_nwo hk6 hzq7 (by decide)
  have hk10 : kT S8 q7 = 13 := by rw [hS8]; exact kT_nw _ _ _ _
  refine gd_putFR (pc := 22) (kf := 1) X ci1 (by decide) rfl rfl hin rfl tw_43 (rf_nar (by decide) q7) (rf_fit (by decide) q7) dX1_init_22 hk9 ?_
  refine gd_topS (fun S11 hS11 => ?_)
  have h := h S11 hS11
  have hk12 : kT S11 a0 = 2 := by rw [hS11]; exact hk9
  have hk13 : kT S11 q7 = 13 := by rw [hS11]; exact hk10
  refine gd_aload_n (pc := 25) X 0 dX1_init_25 rfl ?_
  refine gd_getR (pc := 26) (kf := 0) X ci1 (by decide) rfl tw_42 dX1_init_26 hk12 ?_
  refine gd_iconst (pc := 29) X (0) dX1_init_29 (by decide) ?_
  obtain ⟨hk14, h⟩ := h
  obtain ⟨hi15, h⟩ := h
  refine gd_aald (pc := 30) (t := 6) X rfl rfl (by decide) (by decide) dX1_init_30 hk14 hi15 ?_
  refine gd_sipush (pc := 31) X (-1000) dX1_init_31 (by decide) ?_
  refine gd_callS (pc := 34) (As := [rf (sR S11 (sR S11 a0 0) (ix 0)), .int ((-1000))]) (rest := []) X (ct_J7_fill_53178 l G S11 (sR S11 (sR S11 a0 0) (ix 0)) ((-1000)) _ h) mw_J7_fill_53178 tw_39 ⟨(Nat.le_of_ble_eq_true rfl), (Nat.le_of_ble_eq_true rfl)⟩ rfl rfl (Nat.le_of_ble_eq_true rfl) dX1_init_34 ⟨Nat.le_of_ble_eq_true rfl, Nat.le_of_ble_eq_true rfl⟩ (kV (fun S16 h => ?_))
  refine gd_wide (k2 := 63) (j2 := 2074) (Nat.le_of_ble_eq_true rfl) (Nat.le_of_ble_eq_true rfl) ?_
  exact (gd_ret_v (pc := 37) X hr hlk (by decide) (by decide) dX1_init_37 ⟨rfl, h⟩)
abbrev rm_X1_isFull : Room := { frames := 0, cells := 0, slots := 0, locals := 0 }
def b_X1_isFull_14 (post : Int32 → MS → Prop) (S : MS) (l0 : Nat) (s0 : Int32) : Prop := narrow .boolean (.int s0) = .int s0 ∧ post s0 S
def w_X1_isFull (S : MS) (a0 : Nat) (post : Int32 → MS → Prop) : Prop := kT S a0 = 2 ∧ (((sI S a0 2) < 60 → b_X1_isFull_14 post S a0 0) ∧ (¬ (sI S a0 2) < 60 → b_X1_isFull_14 post S a0 1))
set_option maxHeartbeats 4000000 in
set_option maxRecDepth 100000 in
theorem ct_X1_isFull (l : Launch) (G : GP) (S : MS) (a0 : Nat) (post : Int32 → MS → Prop) (h : w_X1_isFull S a0 post) : MetM l yX1_isFull cX1_isFull 1 (some .boolean) rm_X1_isFull [rf a0] G S (pI_ post) := by
  refine met_of (by decide) (cat1_r cat1_n) (Nat.le_of_ble_eq_true rfl) ?_
  intro p e s m args below meth c X hr hlk hin
  revert h
  have g14 : ∀ (S : MS) (l0 : Nat) (s0 : Int32), b_X1_isFull_14 post S l0 s0 → Gd p l e rm_X1_isFull s m args below meth c 1 G (MQ below (QcM G (pI_ post)) args s rm_X1_isFull.cells rm_X1_isFull.slots (Ab G)) 0 0 S 14 [(0, rf l0)] [.int s0] := by
    intro S l0 s0 h
    obtain ⟨hnz, h⟩ := h
    exact (gd_ret_i (pc := 14) X hr hlk hnz (by decide) (by decide) dX1_isFull_14 ⟨_, rfl, h⟩)
  intro h
  refine gd_aload_n (pc := 0) X 0 dX1_isFull_0 rfl ?_
  obtain ⟨hk1, h⟩ := h
  refine gd_getI (pc := 1) (kf := 2) X ci1 (by decide) rfl tw_44 dX1_isFull_1 hk1 ?_
  refine gd_bipush (pc := 4) X (60) dX1_isFull_4 (by decide) ?_
  refine gd_icmp_lt (pc := 6) X 13 dX1_isFull_6 (by decide) (fun hc2 => ?_) (fun hc2 => ?_)
  · have h := h.1 hc2
    refine gd_iconst (pc := 13) X (0) dX1_isFull_13 (by decide) ?_
    exact g14 _ _ _ h
  · have h := h.2 hc2
    refine gd_iconst (pc := 9) X (1) dX1_isFull_9 (by decide) ?_
    refine gd_goto (pc := 10) X 14 dX1_isFull_10 (by decide) ?_
    exact g14 _ _ _ h
abbrev rm_X1_storeAfter : Room := { frames := 0, cells := 0, slots := 0, locals := 0 }
def w_X1_storeAfter (S : MS) (a0 : Nat) (a1 : Int32) (post : Nat → MS → Prop) : Prop := kT S a0 = 2 ∧ kT S (sR S a0 0) = 14 ∧ vp_in a1 (kL S (sR S a0 0)) ∧ post (sR S (sR S a0 0) (ix a1)) S
set_option maxHeartbeats 4000000 in
set_option maxRecDepth 100000 in
theorem ct_X1_storeAfter (l : Launch) (G : GP) (S : MS) (a0 : Nat) (a1 : Int32) (post : Nat → MS → Prop) (h : w_X1_storeAfter S a0 a1 post) : MetM l yX1_storeAfter cX1_storeAfter 2 (some (.array .int)) rm_X1_storeAfter [rf a0, .int a1] G S (pR_ post) := by
  refine met_of (by decide) (cat1_r (cat1_i cat1_n)) (Nat.le_of_ble_eq_true rfl) ?_
  intro p e s m args below meth c X hr hlk hin
  refine gd_aload_n (pc := 0) X 0 dX1_storeAfter_0 rfl ?_
  obtain ⟨hk1, h⟩ := h
  refine gd_getR (pc := 1) (kf := 0) X ci1 (by decide) rfl tw_42 dX1_storeAfter_1 hk1 ?_
  refine gd_iload_n (pc := 4) X 1 dX1_storeAfter_4 rfl ?_
  obtain ⟨hk2, h⟩ := h
  obtain ⟨hi3, h⟩ := h
  refine gd_aald (pc := 5) (t := 6) X rfl rfl (by decide) (by decide) dX1_storeAfter_5 hk2 hi3 ?_
  exact (gd_ret_a (pc := 6) X hr (Or.inr ⟨_, rfl⟩) hlk (by decide) (by decide) dX1_storeAfter_6 ⟨_, rfl, h⟩)
abbrev rm_X1_newest : Room := { frames := 0, cells := 0, slots := 0, locals := 0 }
def w_X1_newest (S : MS) (a0 : Nat) (post : Nat → MS → Prop) : Prop := kT S a0 = 2 ∧ kT S (sR S a0 0) = 14 ∧ vp_in (sI S a0 2) (kL S (sR S a0 0)) ∧ post (sR S (sR S a0 0) (ix (sI S a0 2))) S
set_option maxHeartbeats 4000000 in
set_option maxRecDepth 100000 in
theorem ct_X1_newest (l : Launch) (G : GP) (S : MS) (a0 : Nat) (post : Nat → MS → Prop) (h : w_X1_newest S a0 post) : MetM l yX1_newest cX1_newest 1 (some (.array .int)) rm_X1_newest [rf a0] G S (pR_ post) := by
  refine met_of (by decide) (cat1_r cat1_n) (Nat.le_of_ble_eq_true rfl) ?_
  intro p e s m args below meth c X hr hlk hin
  refine gd_aload_n (pc := 0) X 0 dX1_newest_0 rfl ?_
  obtain ⟨hk1, h⟩ := h
  refine gd_getR (pc := 1) (kf := 0) X ci1 (by decide) rfl tw_42 dX1_newest_1 hk1 ?_
  refine gd_aload_n (pc := 4) X 0 dX1_newest_4 rfl ?_
  refine gd_getI (pc := 5) (kf := 2) X ci1 (by decide) rfl tw_44 dX1_newest_5 hk1 ?_
  obtain ⟨hk2, h⟩ := h
  obtain ⟨hi3, h⟩ := h
  refine gd_aald (pc := 8) (t := 6) X rfl rfl (by decide) (by decide) dX1_newest_8 hk2 hi3 ?_
  exact (gd_ret_a (pc := 9) X hr (Or.inr ⟨_, rfl⟩) hlk (by decide) (by decide) dX1_newest_9 ⟨_, rfl, h⟩)
abbrev rm_X1_authorOf : Room := { frames := 0, cells := 0, slots := 0, locals := 0 }
def w_X1_authorOf (S : MS) (a0 : Nat) (a1 : Int32) (post : Nat → MS → Prop) : Prop := kT S a0 = 2 ∧ kT S (sR S a0 1) = 13 ∧ vp_in a1 (kL S (sR S a0 1)) ∧ post (sR S (sR S a0 1) (ix a1)) S
set_option maxHeartbeats 4000000 in
set_option maxRecDepth 100000 in
theorem ct_X1_authorOf (l : Launch) (G : GP) (S : MS) (a0 : Nat) (a1 : Int32) (post : Nat → MS → Prop) (h : w_X1_authorOf S a0 a1 post) : MetM l yX1_authorOf cX1_authorOf 2 (some (.object "OptimisticStore$Transaction")) rm_X1_authorOf [rf a0, .int a1] G S (pR_ post) := by
  refine met_of (by decide) (cat1_r (cat1_i cat1_n)) (Nat.le_of_ble_eq_true rfl) ?_
  intro p e s m args below meth c X hr hlk hin
  refine gd_aload_n (pc := 0) X 0 dX1_authorOf_0 rfl ?_
  obtain ⟨hk1, h⟩ := h
  refine gd_getR (pc := 1) (kf := 1) X ci1 (by decide) rfl tw_43 dX1_authorOf_1 hk1 ?_
  refine gd_iload_n (pc := 4) X 1 dX1_authorOf_4 rfl ?_
  obtain ⟨hk2, h⟩ := h
  obtain ⟨hi3, h⟩ := h
  refine gd_aald (pc := 5) (t := 5) X rfl rfl (by decide) (by decide) dX1_authorOf_5 hk2 hi3 ?_
  exact (gd_ret_a (pc := 6) X hr (Or.inl ⟨_, rfl⟩) hlk (by decide) (by decide) dX1_authorOf_6 ⟨_, rfl, h⟩)
abbrev rm_X4_hasWritten : Room := { frames := 0, cells := 0, slots := 0, locals := 0 }
def b_X4_hasWritten_16 (post : Int32 → MS → Prop) (S : MS) (l0 : Nat) (l1 : Int32) (s0 : Int32) : Prop := narrow .boolean (.int s0) = .int s0 ∧ post s0 S
def w_X4_hasWritten (S : MS) (a0 : Nat) (a1 : Int32) (post : Int32 → MS → Prop) : Prop := kT S a0 = 5 ∧ ((((sI S a0 7) &&& (1 <<< (a1 &&& 31))) = 0 → b_X4_hasWritten_16 post S a0 a1 0) ∧ (¬ ((sI S a0 7) &&& (1 <<< (a1 &&& 31))) = 0 → b_X4_hasWritten_16 post S a0 a1 1))
set_option maxHeartbeats 4000000 in
set_option maxRecDepth 100000 in
theorem ct_X4_hasWritten (l : Launch) (G : GP) (S : MS) (a0 : Nat) (a1 : Int32) (post : Int32 → MS → Prop) (h : w_X4_hasWritten S a0 a1 post) : MetM l yX4_hasWritten cX4_hasWritten 2 (some .boolean) rm_X4_hasWritten [rf a0, .int a1] G S (pI_ post) := by
  refine met_of (by decide) (cat1_r (cat1_i cat1_n)) (Nat.le_of_ble_eq_true rfl) ?_
  intro p e s m args below meth c X hr hlk hin
  revert h
  have g16 : ∀ (S : MS) (l0 : Nat) (l1 : Int32) (s0 : Int32), b_X4_hasWritten_16 post S l0 l1 s0 → Gd p l e rm_X4_hasWritten s m args below meth c 2 G (MQ below (QcM G (pI_ post)) args s rm_X4_hasWritten.cells rm_X4_hasWritten.slots (Ab G)) 0 0 S 16 [(0, rf l0), (1, .int l1)] [.int s0] := by
    intro S l0 l1 s0 h
    obtain ⟨hnz, h⟩ := h
    exact (gd_ret_i (pc := 16) X hr hlk hnz (by decide) (by decide) dX4_hasWritten_16 ⟨_, rfl, h⟩)
  intro h
  refine gd_aload_n (pc := 0) X 0 dX4_hasWritten_0 rfl ?_
  obtain ⟨hk1, h⟩ := h
  refine gd_getI (pc := 1) (kf := 7) X ci4 (by decide) rfl tw_359 dX4_hasWritten_1 hk1 ?_
  refine gd_iconst (pc := 4) X (1) dX4_hasWritten_4 (by decide) ?_
  refine gd_iload_n (pc := 5) X 1 dX4_hasWritten_5 rfl ?_
  refine gd_ishl (pc := 6) X dX4_hasWritten_6 ?_
  refine gd_iand (pc := 7) X dX4_hasWritten_7 ?_
  refine gd_if_eq (pc := 8) X 15 dX4_hasWritten_8 (by decide) (fun hc2 => ?_) (fun hc2 => ?_)
  · have h := h.1 hc2
    refine gd_iconst (pc := 15) X (0) dX4_hasWritten_15 (by decide) ?_
    exact g16 _ _ _ _ h
  · have h := h.2 hc2
    refine gd_iconst (pc := 11) X (1) dX4_hasWritten_11 (by decide) ?_
    refine gd_goto (pc := 12) X 16 dX4_hasWritten_12 (by decide) ?_
    exact g16 _ _ _ _ h
abbrev rm_X4_applyWrites : Room := { frames := 1, cells := 0, slots := 0, locals := 21 }
def b_X4_applyWrites_25 (KH2 : MS → Nat → Nat → Int32 → Prop) (post : MS → Prop) (S : MS) (l0 : Nat) (l1 : Nat) (l2 : Int32) : Prop := ∀ v1 : Int32, v1 = l2 + 1 → KH2 S l0 l1 v1
def b_X4_applyWrites_2 (post : MS → Prop) : Nat → MS → Nat → Nat → Int32 → Prop
  | 0 => fun _ _ _ _ => False
  | f + 1 => fun S l0 l1 l2 => ((32 ≤ l2 → post S) ∧ (¬ 32 ≤ l2 → kT S l0 = 5 ∧ w_X4_hasWritten S l0 l2 (fun r3 S2 => ((r3 = 0 → b_X4_applyWrites_25 (b_X4_applyWrites_2 post f) post S2 l0 l1 l2) ∧ (¬ r3 = 0 → kT S2 l0 = 5 ∧ kT S2 (sR S2 l0 4) = 9 ∧ vp_in l2 (kL S2 (sR S2 l0 4)) ∧ kT S2 l1 = 9 ∧ vp_in l2 (kL S2 l1) ∧ ∀ S9 : MS, S9 = pI S2 l1 (ix l2) (sI S2 (sR S2 l0 4) (ix l2)) → b_X4_applyWrites_25 (b_X4_applyWrites_2 post f) post S9 l0 l1 l2)))))
def w_X4_applyWrites (S : MS) (a0 : Nat) (a1 : Nat) (post : MS → Prop) : Prop := ∃ f2, b_X4_applyWrites_2 post f2 S a0 a1 0
set_option maxHeartbeats 4000000 in
set_option maxRecDepth 100000 in
theorem ct_X4_applyWrites (l : Launch) (G : GP) (S : MS) (a0 : Nat) (a1 : Nat) (post : MS → Prop) (h : w_X4_applyWrites S a0 a1 post) : MetM l yX4_applyWrites cX4_applyWrites 3 none rm_X4_applyWrites [rf a0, rf a1] G S (pV_ post) := by
  refine met_of (by decide) (cat1_r (cat1_r cat1_n)) (Nat.le_of_ble_eq_true rfl) ?_
  intro p e s m args below meth c X hr hlk hin
  revert h
  have g25 : ∀ (KH2 : MS → Nat → Nat → Int32 → Prop) (hKH2 : ∀ (S : MS) (l0 : Nat) (l1 : Nat) (l2 : Int32), KH2 S l0 l1 l2 → Gd p l e rm_X4_applyWrites s m args below meth c 3 G (MQ below (QcM G (pV_ post)) args s rm_X4_applyWrites.cells rm_X4_applyWrites.slots (Ab G)) 0 0 S 2 [(0, rf l0), (1, rf l1), (2, .int l2)] []) (S : MS) (l0 : Nat) (l1 : Nat) (l2 : Int32), b_X4_applyWrites_25 KH2 post S l0 l1 l2 → Gd p l e rm_X4_applyWrites s m args below meth c 3 G (MQ below (QcM G (pV_ post)) args s rm_X4_applyWrites.cells rm_X4_applyWrites.slots (Ab G)) 0 0 S 25 [(0, rf l0), (1, rf l1), (2, .int l2)] [] := by
    intro KH2 hKH2 S l0 l1 l2 h
    obtain ⟨v1, hv1⟩ : ∃ z : Int32, z = l2 + 1 := ⟨_, rfl⟩
    have h := h v1 hv1
    refine gd_iinc (pc := 25) (v := v1) X 2 dX4_applyWrites_25 rfl (by rw [hv1]; rfl) (by decide) (E2 := [(2, .int v1), (0, rf l0), (1, rf l1)]) (by simp [rf_cat, lv1, int_cat] <;> decide) ?_
    refine gd_goto (pc := 28) X 2 dX4_applyWrites_28 (by decide) ?_
    refine gd_sub [1, 2, 0] rfl ?_
    exact hKH2 _ _ _ _ h
  have g2 : ∀ (f : Nat) (S : MS) (l0 : Nat) (l1 : Nat) (l2 : Int32), b_X4_applyWrites_2 post f S l0 l1 l2 → Gd p l e rm_X4_applyWrites s m args below meth c 3 G (MQ below (QcM G (pV_ post)) args s rm_X4_applyWrites.cells rm_X4_applyWrites.slots (Ab G)) 0 0 S 2 [(0, rf l0), (1, rf l1), (2, .int l2)] [] := by
    intro f
    induction f with
    | zero => intro S l0 l1 l2 h; exact h.elim
    | succ f ih =>
      intro S l0 l1 l2 h
      refine gd_iload_n (pc := 2) X 2 dX4_applyWrites_2 rfl ?_
      refine gd_bipush (pc := 3) X (32) dX4_applyWrites_3 (by decide) ?_
      refine gd_icmp_ge (pc := 5) X 31 dX4_applyWrites_5 (by decide) (fun hc14 => ?_) (fun hc14 => ?_)
      · have h := h.1 hc14
        exact (gd_ret_v (pc := 31) X hr hlk (by decide) (by decide) dX4_applyWrites_31 ⟨rfl, h⟩)
      · have h := h.2 hc14
        refine gd_aload_n (pc := 8) X 0 dX4_applyWrites_8 rfl ?_
        refine gd_iload_n (pc := 9) X 2 dX4_applyWrites_9 rfl ?_
        obtain ⟨hk1, h⟩ := h
        refine gd_callV (pc := 10) (As := [.int l2]) (rest := []) X (ct_X4_hasWritten l G S l0 l2 _ h) mw_X4_hasWritten tw_507 ci4 rfl hk1 ⟨(Nat.le_of_ble_eq_true rfl), (Nat.le_of_ble_eq_true rfl)⟩ rfl rfl (Nat.le_of_ble_eq_true rfl) dX4_applyWrites_10 ⟨Nat.le_of_ble_eq_true rfl, Nat.le_of_ble_eq_true rfl⟩ (kI (fun r3 S2 h => ?_))
        refine gd_wide (k2 := 0) (j2 := 0) (Nat.le_of_ble_eq_true rfl) (Nat.le_of_ble_eq_true rfl) ?_
        refine gd_if_eq (pc := 13) X 25 dX4_applyWrites_13 (by decide) (fun hc13 => ?_) (fun hc13 => ?_)
        · have h := h.1 hc13
          exact g25 _ ih _ _ _ _ h
        · have h := h.2 hc13
          refine gd_aload_n (pc := 16) X 1 dX4_applyWrites_16 rfl ?_
          refine gd_iload_n (pc := 17) X 2 dX4_applyWrites_17 rfl ?_
          refine gd_aload_n (pc := 18) X 0 dX4_applyWrites_18 rfl ?_
          obtain ⟨hk4, h⟩ := h
          refine gd_getR (pc := 19) (kf := 4) X ci4 (by decide) rfl tw_351 dX4_applyWrites_19 hk4 ?_
          refine gd_iload_n (pc := 22) X 2 dX4_applyWrites_22 rfl ?_
          obtain ⟨hk5, h⟩ := h
          obtain ⟨hi6, h⟩ := h
          refine gd_iald (pc := 23) X dX4_applyWrites_23 hk5 hi6 ?_
          obtain ⟨hk7, h⟩ := h
          obtain ⟨hi8, h⟩ := h
          refine gd_iast (pc := 24) X dX4_applyWrites_24 hk7 hi8 ?_
          refine gd_topS (fun S9 hS9 => ?_)
          have h := h S9 hS9
          have hk10 : kT S9 l0 = 5 := by rw [hS9]; exact hk4
          have hk11 : kT S9 (sR S2 l0 4) = 9 := by rw [hS9]; exact hk5
          have hk12 : kT S9 l1 = 9 := by rw [hS9]; exact hk7
          exact g25 _ ih _ _ _ _ h
  intro h
  refine gd_iconst (pc := 0) X (0) dX4_applyWrites_0 (by decide) ?_
  refine gd_istore_n (pc := 1) X dX4_applyWrites_1 (by decide) (E2 := [(2, .int 0), (0, rf a0), (1, rf a1)]) (by simp [rf_cat, lv1, int_cat] <;> decide) ?_
  refine gd_sub [1, 2, 0] rfl ?_
  obtain ⟨f2, h⟩ := h
  exact g2 f2 _ _ _ _ h
abbrev rm_X1_append : Room := { frames := 2, cells := 0, slots := 0, locals := 100 }
def w_X1_append (S : MS) (a0 : Nat) (a1 : Nat) (post : MS → Prop) : Prop := kT S a0 = 2 ∧ w_X1_isFull S a0 (fun r3 S2 => ((r3 = 0 → kT S2 a0 = 2 ∧ kT S2 (sR S2 a0 0) = 14 ∧ vp_in (sI S2 a0 2) (kL S2 (sR S2 a0 0)) ∧ vp_in ((sI S2 a0 2) + 1) (kL S2 (sR S2 a0 0)) ∧ kT S2 (sR S2 (sR S2 a0 0) (ix (sI S2 a0 2))) = 9 ∧ kT S2 (sR S2 (sR S2 a0 0) (ix ((sI S2 a0 2) + 1))) = 9 ∧ ix 0 + ix 32 ≤ kL S2 (sR S2 (sR S2 a0 0) (ix (sI S2 a0 2))) ∧ ix 0 + ix 32 ≤ kL S2 (sR S2 (sR S2 a0 0) (ix ((sI S2 a0 2) + 1))) ∧ ∀ S12 : MS, S12 = cpI S2 (sR S2 (sR S2 a0 0) (ix (sI S2 a0 2))) (sR S2 (sR S2 a0 0) (ix ((sI S2 a0 2) + 1))) 32 → ∀ S17 : MS, S17 = pI S12 a0 2 ((sI S12 a0 2) + 1) → kT S17 (sR S17 a0 0) = 14 ∧ vp_in (sI S17 a0 2) (kL S17 (sR S17 a0 0)) ∧ kT S17 a1 = 5 ∧ w_X4_applyWrites S17 a1 (sR S17 (sR S17 a0 0) (ix (sI S17 a0 2))) (fun S25 => kT S25 a0 = 2 ∧ kT S25 (sR S25 a0 1) = 13 ∧ kT S25 a1 = 5 ∧ vp_in (sI S25 a0 2) (kL S25 (sR S25 a0 1)) ∧ ∀ S31 : MS, S31 = pR S25 (sR S25 a0 1) (ix (sI S25 a0 2)) a1 → ∀ S35 : MS, S35 = pI S31 a1 8 1 → ∀ S39 : MS, S39 = pI S35 a1 10 (sI S35 a0 2) → post S39)) ∧ (¬ r3 = 0 → post S2)))
set_option maxHeartbeats 4000000 in
set_option maxRecDepth 100000 in
theorem ct_X1_append (l : Launch) (G : GP) (S : MS) (a0 : Nat) (a1 : Nat) (post : MS → Prop) (h : w_X1_append S a0 a1 post) : MetM l yX1_append cX1_append 2 none rm_X1_append [rf a0, rf a1] G S (pV_ post) := by
  refine met_of (by decide) (cat1_r (cat1_r cat1_n)) (Nat.le_of_ble_eq_true rfl) ?_
  intro p e s m args below meth c X hr hlk hin
  refine gd_aload_n (pc := 0) X 0 dX1_append_0 rfl ?_
  obtain ⟨hk1, h⟩ := h
  refine gd_callV (pc := 1) (As := []) (rest := []) X (ct_X1_isFull l G S a0 _ h) mw_X1_isFull tw_662 ci1 rfl hk1 ⟨(Nat.le_of_ble_eq_true rfl), (Nat.le_of_ble_eq_true rfl)⟩ rfl rfl (Nat.le_of_ble_eq_true rfl) dX1_append_1 ⟨Nat.le_of_ble_eq_true rfl, Nat.le_of_ble_eq_true rfl⟩ (kI (fun r3 S2 h => ?_))
  refine gd_wide (k2 := 0) (j2 := 0) (Nat.le_of_ble_eq_true rfl) (Nat.le_of_ble_eq_true rfl) ?_
  refine gd_if_eq (pc := 4) X 8 dX1_append_4 (by decide) (fun hc43 => ?_) (fun hc43 => ?_)
  · have h := h.1 hc43
    refine gd_aload_n (pc := 8) X 0 dX1_append_8 rfl ?_
    obtain ⟨hk4, h⟩ := h
    refine gd_getR (pc := 9) (kf := 0) X ci1 (by decide) rfl tw_42 dX1_append_9 hk4 ?_
    refine gd_aload_n (pc := 12) X 0 dX1_append_12 rfl ?_
    refine gd_getI (pc := 13) (kf := 2) X ci1 (by decide) rfl tw_44 dX1_append_13 hk4 ?_
    obtain ⟨hk5, h⟩ := h
    obtain ⟨hi6, h⟩ := h
    refine gd_aald (pc := 16) (t := 6) X rfl rfl (by decide) (by decide) dX1_append_16 hk5 hi6 ?_
    refine gd_iconst (pc := 17) X (0) dX1_append_17 (by decide) ?_
    refine gd_aload_n (pc := 18) X 0 dX1_append_18 rfl ?_
    refine gd_getR (pc := 19) (kf := 0) X ci1 (by decide) rfl tw_42 dX1_append_19 hk4 ?_
    refine gd_aload_n (pc := 22) X 0 dX1_append_22 rfl ?_
    refine gd_getI (pc := 23) (kf := 2) X ci1 (by decide) rfl tw_44 dX1_append_23 hk4 ?_
    refine gd_iconst (pc := 26) X (1) dX1_append_26 (by decide) ?_
    refine gd_iadd (pc := 27) X dX1_append_27 ?_
    obtain ⟨hi7, h⟩ := h
    refine gd_aald (pc := 28) (t := 6) X rfl rfl (by decide) (by decide) dX1_append_28 hk5 hi7 ?_
    refine gd_iconst (pc := 29) X (0) dX1_append_29 (by decide) ?_
    refine gd_bipush (pc := 30) X (32) dX1_append_30 (by decide) ?_
    obtain ⟨hk8, h⟩ := h
    obtain ⟨hk9, h⟩ := h
    obtain ⟨hi10, hi11, h⟩ := h
    refine gd_copy (pc := 32) X tw_663 tw_195 tw_194 tw_16 dX1_append_32 hk8 hk9 (by decide) (by decide) (by decide) hi10 hi11 ⟨(Nat.le_of_ble_eq_true rfl), (Nat.le_of_ble_eq_true rfl)⟩ (Nat.le_of_ble_eq_true rfl) ?_
    refine gd_topS (fun S12 hS12 => ?_)
    have h := h S12 hS12
    have hk13 : kT S12 a0 = 2 := by rw [hS12]; exact hk4
    have hk14 : kT S12 (sR S2 a0 0) = 14 := by rw [hS12]; exact hk5
    have hk15 : kT S12 (sR S2 (sR S2 a0 0) (ix (sI S2 a0 2))) = 9 := by rw [hS12]; exact hk8
    have hk16 : kT S12 (sR S2 (sR S2 a0 0) (ix ((sI S2 a0 2) + 1))) = 9 := by rw [hS12]; exact hk9
    refine gd_aload_n (pc := 35) X 0 dX1_append_35 rfl ?_
    refine gd_dupR (pc := 36) X dX1_append_36 ?_
    refine gd_getI (pc := 37) (kf := 2) X ci1 (by decide) rfl tw_44 dX1_append_37 hk13 ?_
    refine gd_iconst (pc := 40) X (1) dX1_append_40 (by decide) ?_
    refine gd_iadd (pc := 41) X dX1_append_41 ?_
    refine gd_putI (pc := 42) (kf := 2) X ci1 (by decide) rfl rfl tw_44 rfl rfl dX1_append_42 hk13 ?_
    refine gd_topS (fun S17 hS17 => ?_)
    have h := h S17 hS17
    have hk18 : kT S17 a0 = 2 := by rw [hS17]; exact hk13
    have hk19 : kT S17 (sR S2 a0 0) = 14 := by rw [hS17]; exact hk14
    have hk20 : kT S17 (sR S2 (sR S2 a0 0) (ix (sI S2 a0 2))) = 9 := by rw [hS17]; exact hk15
    have hk21 : kT S17 (sR S2 (sR S2 a0 0) (ix ((sI S2 a0 2) + 1))) = 9 := by rw [hS17]; exact hk16
    refine gd_aload_n (pc := 45) X 1 dX1_append_45 rfl ?_
    refine gd_aload_n (pc := 46) X 0 dX1_append_46 rfl ?_
    refine gd_getR (pc := 47) (kf := 0) X ci1 (by decide) rfl tw_42 dX1_append_47 hk18 ?_
    refine gd_aload_n (pc := 50) X 0 dX1_append_50 rfl ?_
    refine gd_getI (pc := 51) (kf := 2) X ci1 (by decide) rfl tw_44 dX1_append_51 hk18 ?_
    obtain ⟨hk22, h⟩ := h
    obtain ⟨hi23, h⟩ := h
    refine gd_aald (pc := 54) (t := 6) X rfl rfl (by decide) (by decide) dX1_append_54 hk22 hi23 ?_
    obtain ⟨hk24, h⟩ := h
    refine gd_callV (pc := 55) (As := [rf (sR S17 (sR S17 a0 0) (ix (sI S17 a0 2)))]) (rest := []) X (ct_X4_applyWrites l G S17 a1 (sR S17 (sR S17 a0 0) (ix (sI S17 a0 2))) _ h) mw_X4_applyWrites tw_664 ci4 rfl hk24 ⟨(Nat.le_of_ble_eq_true rfl), (Nat.le_of_ble_eq_true rfl)⟩ rfl rfl (Nat.le_of_ble_eq_true rfl) dX1_append_55 ⟨Nat.le_of_ble_eq_true rfl, Nat.le_of_ble_eq_true rfl⟩ (kV (fun S25 h => ?_))
    refine gd_wide (k2 := 0) (j2 := 0) (Nat.le_of_ble_eq_true rfl) (Nat.le_of_ble_eq_true rfl) ?_
    refine gd_aload_n (pc := 58) X 0 dX1_append_58 rfl ?_
    obtain ⟨hk27, h⟩ := h
    refine gd_getR (pc := 59) (kf := 1) X ci1 (by decide) rfl tw_43 dX1_append_59 hk27 ?_
    refine gd_aload_n (pc := 62) X 0 dX1_append_62 rfl ?_
    refine gd_getI (pc := 63) (kf := 2) X ci1 (by decide) rfl tw_44 dX1_append_63 hk27 ?_
    refine gd_aload_n (pc := 66) X 1 dX1_append_66 rfl ?_
    obtain ⟨hk28, h⟩ := h
    obtain ⟨hk29, h⟩ := h
    obtain ⟨hi30, h⟩ := h
    refine gd_aast (pc := 67) (t := 5) X ci4 rfl (by decide) (by decide) dX1_append_67 hk28 hk29 hi30 ?_
    refine gd_topS (fun S31 hS31 => ?_)
    have h := h S31 hS31
    have hk32 : kT S31 a0 = 2 := by rw [hS31]; exact hk27
    have hk33 : kT S31 (sR S25 a0 1) = 13 := by rw [hS31]; exact hk28
    have hk34 : kT S31 a1 = 5 := by rw [hS31]; exact hk29
    refine gd_aload_n (pc := 68) X 1 dX1_append_68 rfl ?_
    refine gd_iconst (pc := 69) X (1) dX1_append_69 (by decide) ?_
    refine gd_putI (pc := 70) (kf := 8) X ci4 (by decide) rfl rfl tw_364 rfl rfl dX1_append_70 hk34 ?_
    refine gd_topS (fun S35 hS35 => ?_)
    have h := h S35 hS35
    have hk36 : kT S35 a0 = 2 := by rw [hS35]; exact hk32
    have hk37 : kT S35 (sR S25 a0 1) = 13 := by rw [hS35]; exact hk33
    have hk38 : kT S35 a1 = 5 := by rw [hS35]; exact hk34
    refine gd_aload_n (pc := 73) X 1 dX1_append_73 rfl ?_
    refine gd_aload_n (pc := 74) X 0 dX1_append_74 rfl ?_
    refine gd_getI (pc := 75) (kf := 2) X ci1 (by decide) rfl tw_44 dX1_append_75 hk36 ?_
    refine gd_putI (pc := 78) (kf := 10) X ci4 (by decide) rfl rfl tw_367 rfl rfl dX1_append_78 hk38 ?_
    refine gd_topS (fun S39 hS39 => ?_)
    have h := h S39 hS39
    have hk40 : kT S39 a0 = 2 := by rw [hS39]; exact hk36
    have hk41 : kT S39 (sR S25 a0 1) = 13 := by rw [hS39]; exact hk37
    have hk42 : kT S39 a1 = 5 := by rw [hS39]; exact hk38
    exact (gd_ret_v (pc := 81) X hr hlk (by decide) (by decide) dX1_append_81 ⟨rfl, h⟩)
  · have h := h.2 hc43
    exact (gd_ret_v (pc := 7) X hr hlk (by decide) (by decide) dX1_append_7 ⟨rfl, h⟩)
abbrev rm_X4_becomeAborted : Room := { frames := 0, cells := 0, slots := 0, locals := 0 }
def w_X4_becomeAborted (S : MS) (a0 : Nat) (a1 : Int32) (post : MS → Prop) : Prop := kT S a0 = 5 ∧ ∀ S2 : MS, S2 = pI S a0 8 2 → ∀ S4 : MS, S4 = pI S2 a0 9 a1 → post S4
set_option maxHeartbeats 4000000 in
set_option maxRecDepth 100000 in
theorem ct_X4_becomeAborted (l : Launch) (G : GP) (S : MS) (a0 : Nat) (a1 : Int32) (post : MS → Prop) (h : w_X4_becomeAborted S a0 a1 post) : MetM l yX4_becomeAborted cX4_becomeAborted 2 none rm_X4_becomeAborted [rf a0, .int a1] G S (pV_ post) := by
  refine met_of (by decide) (cat1_r (cat1_i cat1_n)) (Nat.le_of_ble_eq_true rfl) ?_
  intro p e s m args below meth c X hr hlk hin
  refine gd_aload_n (pc := 0) X 0 dX4_becomeAborted_0 rfl ?_
  refine gd_iconst (pc := 1) X (2) dX4_becomeAborted_1 (by decide) ?_
  obtain ⟨hk1, h⟩ := h
  refine gd_putI (pc := 2) (kf := 8) X ci4 (by decide) rfl rfl tw_362 rfl rfl dX4_becomeAborted_2 hk1 ?_
  refine gd_topS (fun S2 hS2 => ?_)
  have h := h S2 hS2
  have hk3 : kT S2 a0 = 5 := by rw [hS2]; exact hk1
  refine gd_aload_n (pc := 5) X 0 dX4_becomeAborted_5 rfl ?_
  refine gd_iload_n (pc := 6) X 1 dX4_becomeAborted_6 rfl ?_
  refine gd_putI (pc := 7) (kf := 9) X ci4 (by decide) rfl rfl tw_365 rfl rfl dX4_becomeAborted_7 hk3 ?_
  refine gd_topS (fun S4 hS4 => ?_)
  have h := h S4 hS4
  have hk5 : kT S4 a0 = 5 := by rw [hS4]; exact hk3
  exact (gd_ret_v (pc := 10) X hr hlk (by decide) (by decide) dX4_becomeAborted_10 ⟨rfl, h⟩)
abbrev rm_X1_takeBackAfter : Room := { frames := 1, cells := 0, slots := 0, locals := 21 }
def b_X1_takeBackAfter_39 (KH11 : MS → Nat → Int32 → Int32 → Int32 → Prop) (post : Int32 → MS → Prop) (S : MS) (l0 : Nat) (l1 : Int32) (l2 : Int32) (l3 : Int32) (l4 : Nat) : Prop := ∀ v1 : Int32, v1 = l3 + 1 → KH11 S l0 l1 l2 v1
def b_X1_takeBackAfter_11 (post : Int32 → MS → Prop) : Nat → MS → Nat → Int32 → Int32 → Int32 → Prop
  | 0 => fun _ _ _ _ _ => False
  | f + 1 => fun S l0 l1 l2 l3 => kT S l0 = 2 ∧ (((sI S l0 2) < l3 → ∀ S2 : MS, S2 = pI S l0 2 l1 → post l2 S2) ∧ (¬ (sI S l0 2) < l3 → kT S (sR S l0 1) = 13 ∧ vp_in l3 (kL S (sR S l0 1)) ∧ ∀ r6 : Nat, r6 = sR S (sR S l0 1) (ix l3) → ((r6 = 0 → b_X1_takeBackAfter_39 (b_X1_takeBackAfter_11 post f) post S l0 l1 l2 l3 r6) ∧ (¬ r6 = 0 → kT S r6 = 5 ∧ w_X4_becomeAborted S r6 6 (fun S8 => b_X1_takeBackAfter_39 (b_X1_takeBackAfter_11 post f) post S8 l0 l1 l2 l3 r6)))))
def w_X1_takeBackAfter (S : MS) (a0 : Nat) (a1 : Int32) (post : Int32 → MS → Prop) : Prop := kT S a0 = 2 ∧ ∀ v2 : Int32, v2 = (sI S a0 2) - a1 → ∀ v3 : Int32, v3 = a1 + 1 → ∃ f11, b_X1_takeBackAfter_11 post f11 S a0 a1 v2 v3
set_option maxHeartbeats 4000000 in
set_option maxRecDepth 100000 in
theorem ct_X1_takeBackAfter (l : Launch) (G : GP) (S : MS) (a0 : Nat) (a1 : Int32) (post : Int32 → MS → Prop) (h : w_X1_takeBackAfter S a0 a1 post) : MetM l yX1_takeBackAfter cX1_takeBackAfter 5 (some .int) rm_X1_takeBackAfter [rf a0, .int a1] G S (pI_ post) := by
  refine met_of (by decide) (cat1_r (cat1_i cat1_n)) (Nat.le_of_ble_eq_true rfl) ?_
  intro p e s m args below meth c X hr hlk hin
  revert h
  have g39 : ∀ (KH11 : MS → Nat → Int32 → Int32 → Int32 → Prop) (hKH11 : ∀ (S : MS) (l0 : Nat) (l1 : Int32) (l2 : Int32) (l3 : Int32), KH11 S l0 l1 l2 l3 → Gd p l e rm_X1_takeBackAfter s m args below meth c 5 G (MQ below (QcM G (pI_ post)) args s rm_X1_takeBackAfter.cells rm_X1_takeBackAfter.slots (Ab G)) 0 0 S 11 [(0, rf l0), (1, .int l1), (2, .int l2), (3, .int l3)] []) (S : MS) (l0 : Nat) (l1 : Int32) (l2 : Int32) (l3 : Int32) (l4 : Nat), b_X1_takeBackAfter_39 KH11 post S l0 l1 l2 l3 l4 → Gd p l e rm_X1_takeBackAfter s m args below meth c 5 G (MQ below (QcM G (pI_ post)) args s rm_X1_takeBackAfter.cells rm_X1_takeBackAfter.slots (Ab G)) 0 0 S 39 [(0, rf l0), (1, .int l1), (2, .int l2), (3, .int l3), (4, rf l4)] [] := by
    intro KH11 hKH11 S l0 l1 l2 l3 l4 h
    obtain ⟨v1, hv1⟩ : ∃ z : Int32, z = l3 + 1 := ⟨_, rfl⟩
    have h := h v1 hv1
    refine gd_iinc (pc := 39) (v := v1) X 3 dX1_takeBackAfter_39 rfl (by rw [hv1]; rfl) (by decide) (E2 := [(3, .int v1), (0, rf l0), (1, .int l1), (2, .int l2), (4, rf l4)]) rfl ?_
    refine gd_goto (pc := 42) X 11 dX1_takeBackAfter_42 (by decide) ?_
    refine gd_sub [1, 2, 3, 0] rfl ?_
    exact hKH11 _ _ _ _ _ h
  have g11 : ∀ (f : Nat) (S : MS) (l0 : Nat) (l1 : Int32) (l2 : Int32) (l3 : Int32), b_X1_takeBackAfter_11 post f S l0 l1 l2 l3 → Gd p l e rm_X1_takeBackAfter s m args below meth c 5 G (MQ below (QcM G (pI_ post)) args s rm_X1_takeBackAfter.cells rm_X1_takeBackAfter.slots (Ab G)) 0 0 S 11 [(0, rf l0), (1, .int l1), (2, .int l2), (3, .int l3)] [] := by
    intro f
    induction f with
    | zero => intro S l0 l1 l2 l3 h; exact h.elim
    | succ f ih =>
      intro S l0 l1 l2 l3 h
      refine gd_iload_n (pc := 11) X 3 dX1_takeBackAfter_11 rfl ?_
      refine gd_aload_n (pc := 12) X 0 dX1_takeBackAfter_12 rfl ?_
      obtain ⟨hk1, h⟩ := h
      refine gd_getI (pc := 13) (kf := 2) X ci1 (by decide) rfl tw_44 dX1_takeBackAfter_13 hk1 ?_
      refine gd_icmp_gt (pc := 16) X 45 dX1_takeBackAfter_16 (by decide) (fun hc11 => ?_) (fun hc11 => ?_)
      · have h := h.1 hc11
        refine gd_aload_n (pc := 45) X 0 dX1_takeBackAfter_45 rfl ?_
        refine gd_iload_n (pc := 46) X 1 dX1_takeBackAfter_46 rfl ?_
        refine gd_putI (pc := 47) (kf := 2) X ci1 (by decide) rfl rfl tw_44 rfl rfl dX1_takeBackAfter_47 hk1 ?_
        refine gd_topS (fun S2 hS2 => ?_)
        have h := h S2 hS2
        have hk3 : kT S2 l0 = 2 := by rw [hS2]; exact hk1
        refine gd_iload_n (pc := 50) X 2 dX1_takeBackAfter_50 rfl ?_
        exact (gd_ret_i (pc := 51) X hr hlk rfl (by decide) (by decide) dX1_takeBackAfter_51 ⟨_, rfl, h⟩)
      · have h := h.2 hc11
        refine gd_aload_n (pc := 19) X 0 dX1_takeBackAfter_19 rfl ?_
        refine gd_getR (pc := 20) (kf := 1) X ci1 (by decide) rfl tw_43 dX1_takeBackAfter_20 hk1 ?_
        refine gd_iload_n (pc := 23) X 3 dX1_takeBackAfter_23 rfl ?_
        obtain ⟨hk4, h⟩ := h
        obtain ⟨hi5, h⟩ := h
        refine gd_aald (pc := 24) (t := 5) X rfl rfl (by decide) (by decide) dX1_takeBackAfter_24 hk4 hi5 ?_
        refine gd_topR (fun r6 hr6 => ?_)
        have h := h r6 hr6
        refine gd_astore (pc := 25) X dX1_takeBackAfter_25 (by decide) (E2 := [(4, rf r6), (0, rf l0), (1, .int l1), (2, .int l2), (3, .int l3)]) rfl ?_
        refine gd_aload (pc := 27) X 0 dX1_takeBackAfter_27 rfl ?_
        refine gd_ifnull (pc := 29) X 39 dX1_takeBackAfter_29 (by decide) (fun hc10 => ?_) (fun hc10 => ?_)
        · have h := h.1 hc10
          refine gd_sub [1, 2, 3, 4, 0] rfl ?_
          exact g39 _ ih _ _ _ _ _ _ h
        · have h := h.2 hc10
          refine gd_aload (pc := 32) X 0 dX1_takeBackAfter_32 rfl ?_
          refine gd_bipush (pc := 34) X (6) dX1_takeBackAfter_34 (by decide) ?_
          obtain ⟨hk7, h⟩ := h
          refine gd_callV (pc := 36) (As := [.int 6]) (rest := []) X (ct_X4_becomeAborted l G S r6 6 _ h) mw_X4_becomeAborted tw_840 ci4 rfl hk7 ⟨(Nat.le_of_ble_eq_true rfl), (Nat.le_of_ble_eq_true rfl)⟩ rfl rfl (Nat.le_of_ble_eq_true rfl) dX1_takeBackAfter_36 ⟨Nat.le_of_ble_eq_true rfl, Nat.le_of_ble_eq_true rfl⟩ (kV (fun S8 h => ?_))
          refine gd_wide (k2 := 0) (j2 := 0) (Nat.le_of_ble_eq_true rfl) (Nat.le_of_ble_eq_true rfl) ?_
          refine gd_sub [1, 2, 3, 4, 0] rfl ?_
          exact g39 _ ih _ _ _ _ _ _ h
  intro h
  refine gd_aload_n (pc := 0) X 0 dX1_takeBackAfter_0 rfl ?_
  obtain ⟨hk1, h⟩ := h
  refine gd_getI (pc := 1) (kf := 2) X ci1 (by decide) rfl tw_44 dX1_takeBackAfter_1 hk1 ?_
  refine gd_iload_n (pc := 4) X 1 dX1_takeBackAfter_4 rfl ?_
  refine gd_isub (pc := 5) X dX1_takeBackAfter_5 ?_
  refine gd_topI (fun v2 hv2 => ?_)
  have h := h v2 hv2
  refine gd_istore_n (pc := 6) X dX1_takeBackAfter_6 (by decide) (E2 := [(2, .int v2), (0, rf a0), (1, .int a1)]) rfl ?_
  refine gd_iload_n (pc := 7) X 2 dX1_takeBackAfter_7 rfl ?_
  refine gd_iconst (pc := 8) X (1) dX1_takeBackAfter_8 (by decide) ?_
  refine gd_iadd (pc := 9) X dX1_takeBackAfter_9 ?_
  refine gd_topI (fun v3 hv3 => ?_)
  have h := h v3 hv3
  refine gd_istore_n (pc := 10) X dX1_takeBackAfter_10 (by decide) (E2 := [(3, .int v3), (2, .int v2), (0, rf a0), (1, .int a1)]) rfl ?_
  refine gd_sub [2, 3, 1, 0] rfl ?_
  obtain ⟨f11, h⟩ := h
  exact g11 f11 _ _ _ _ _ h
abbrev rm_X1_writtenBy : Room := { frames := 0, cells := 0, slots := 0, locals := 0 }
def b_X1_writtenBy_19 (post : Int32 → MS → Prop) (S : MS) (l0 : Nat) (l1 : Int32) (l2 : Nat) (s0 : Int32) : Prop := post s0 S
def w_X1_writtenBy (S : MS) (a0 : Nat) (a1 : Int32) (post : Int32 → MS → Prop) : Prop := kT S a0 = 2 ∧ kT S (sR S a0 1) = 13 ∧ vp_in a1 (kL S (sR S a0 1)) ∧ ∀ r4 : Nat, r4 = sR S (sR S a0 1) (ix a1) → ((¬ r4 = 0 → kT S r4 = 5 ∧ b_X1_writtenBy_19 post S a0 a1 r4 (sI S r4 7)) ∧ (r4 = 0 → b_X1_writtenBy_19 post S a0 a1 r4 0))
set_option maxHeartbeats 4000000 in
set_option maxRecDepth 100000 in
theorem ct_X1_writtenBy (l : Launch) (G : GP) (S : MS) (a0 : Nat) (a1 : Int32) (post : Int32 → MS → Prop) (h : w_X1_writtenBy S a0 a1 post) : MetM l yX1_writtenBy cX1_writtenBy 3 (some .int) rm_X1_writtenBy [rf a0, .int a1] G S (pI_ post) := by
  refine met_of (by decide) (cat1_r (cat1_i cat1_n)) (Nat.le_of_ble_eq_true rfl) ?_
  intro p e s m args below meth c X hr hlk hin
  revert h
  have g19 : ∀ (S : MS) (l0 : Nat) (l1 : Int32) (l2 : Nat) (s0 : Int32), b_X1_writtenBy_19 post S l0 l1 l2 s0 → Gd p l e rm_X1_writtenBy s m args below meth c 3 G (MQ below (QcM G (pI_ post)) args s rm_X1_writtenBy.cells rm_X1_writtenBy.slots (Ab G)) 0 0 S 19 [(0, rf l0), (1, .int l1), (2, rf l2)] [.int s0] := by
    intro S l0 l1 l2 s0 h
    exact (gd_ret_i (pc := 19) X hr hlk rfl (by decide) (by decide) dX1_writtenBy_19 ⟨_, rfl, h⟩)
  intro h
  refine gd_aload_n (pc := 0) X 0 dX1_writtenBy_0 rfl ?_
  obtain ⟨hk1, h⟩ := h
  refine gd_getR (pc := 1) (kf := 1) X ci1 (by decide) rfl tw_43 dX1_writtenBy_1 hk1 ?_
  refine gd_iload_n (pc := 4) X 1 dX1_writtenBy_4 rfl ?_
  obtain ⟨hk2, h⟩ := h
  obtain ⟨hi3, h⟩ := h
  refine gd_aald (pc := 5) (t := 5) X rfl rfl (by decide) (by decide) dX1_writtenBy_5 hk2 hi3 ?_
  refine gd_topR (fun r4 hr4 => ?_)
  have h := h r4 hr4
  refine gd_astore_n (pc := 6) X dX1_writtenBy_6 (by decide) (E2 := [(2, rf r4), (0, rf a0), (1, .int a1)]) rfl ?_
  refine gd_aload_n (pc := 7) X 0 dX1_writtenBy_7 rfl ?_
  refine gd_ifnonnull (pc := 8) X 15 dX1_writtenBy_8 (by decide) (fun hc6 => ?_) (fun hc6 => ?_)
  · have h := h.1 hc6
    refine gd_aload_n (pc := 15) X 0 dX1_writtenBy_15 rfl ?_
    obtain ⟨hk5, h⟩ := h
    refine gd_getI (pc := 16) (kf := 7) X ci4 (by decide) rfl tw_360 dX1_writtenBy_16 hk5 ?_
    refine gd_sub [1, 2, 0] rfl ?_
    exact g19 _ _ _ _ _ h
  · have h := h.2 hc6
    refine gd_iconst (pc := 11) X (0) dX1_writtenBy_11 (by decide) ?_
    refine gd_goto (pc := 12) X 19 dX1_writtenBy_12 (by decide) ?_
    refine gd_sub [1, 2, 0] rfl ?_
    exact g19 _ _ _ _ _ h
abbrev rm_X1_latestWriter : Room := { frames := 1, cells := 0, slots := 0, locals := 22 }
def b_X1_latestWriter_5 (post : Int32 → MS → Prop) : Nat → MS → Nat → Int32 → Int32 → Prop
  | 0 => fun _ _ _ _ => False
  | f + 1 => fun S l0 l1 l2 => ((l2 ≤ 0 → post 0 S) ∧ (¬ l2 ≤ 0 → kT S l0 = 2 ∧ w_X1_writtenBy S l0 l2 (fun r3 S2 => (((r3 &&& (1 <<< (l1 &&& 31))) = 0 → ∀ v4 : Int32, v4 = l2 + (-1) → b_X1_latestWriter_5 post f S2 l0 l1 v4) ∧ (¬ (r3 &&& (1 <<< (l1 &&& 31))) = 0 → post l2 S2)))))
def w_X1_latestWriter (S : MS) (a0 : Nat) (a1 : Int32) (post : Int32 → MS → Prop) : Prop := kT S a0 = 2 ∧ ∀ v2 : Int32, v2 = sI S a0 2 → ∃ f5, b_X1_latestWriter_5 post f5 S a0 a1 v2
set_option maxHeartbeats 4000000 in
set_option maxRecDepth 100000 in
theorem ct_X1_latestWriter (l : Launch) (G : GP) (S : MS) (a0 : Nat) (a1 : Int32) (post : Int32 → MS → Prop) (h : w_X1_latestWriter S a0 a1 post) : MetM l yX1_latestWriter cX1_latestWriter 3 (some .int) rm_X1_latestWriter [rf a0, .int a1] G S (pI_ post) := by
  refine met_of (by decide) (cat1_r (cat1_i cat1_n)) (Nat.le_of_ble_eq_true rfl) ?_
  intro p e s m args below meth c X hr hlk hin
  revert h
  have g5 : ∀ (f : Nat) (S : MS) (l0 : Nat) (l1 : Int32) (l2 : Int32), b_X1_latestWriter_5 post f S l0 l1 l2 → Gd p l e rm_X1_latestWriter s m args below meth c 3 G (MQ below (QcM G (pI_ post)) args s rm_X1_latestWriter.cells rm_X1_latestWriter.slots (Ab G)) 0 0 S 5 [(0, rf l0), (1, .int l1), (2, .int l2)] [] := by
    intro f
    induction f with
    | zero => intro S l0 l1 l2 h; exact h.elim
    | succ f ih =>
      intro S l0 l1 l2 h
      refine gd_iload_n (pc := 5) X 2 dX1_latestWriter_5 rfl ?_
      refine gd_if_le (pc := 6) X 29 dX1_latestWriter_6 (by decide) (fun hc6 => ?_) (fun hc6 => ?_)
      · have h := h.1 hc6
        refine gd_iconst (pc := 29) X (0) dX1_latestWriter_29 (by decide) ?_
        exact (gd_ret_i (pc := 30) X hr hlk rfl (by decide) (by decide) dX1_latestWriter_30 ⟨_, rfl, h⟩)
      · have h := h.2 hc6
        refine gd_aload_n (pc := 9) X 0 dX1_latestWriter_9 rfl ?_
        refine gd_iload_n (pc := 10) X 2 dX1_latestWriter_10 rfl ?_
        obtain ⟨hk1, h⟩ := h
        refine gd_callV (pc := 11) (As := [.int l2]) (rest := []) X (ct_X1_writtenBy l G S l0 l2 _ h) mw_X1_writtenBy tw_153 ci1 rfl hk1 ⟨(Nat.le_of_ble_eq_true rfl), (Nat.le_of_ble_eq_true rfl)⟩ rfl rfl (Nat.le_of_ble_eq_true rfl) dX1_latestWriter_11 ⟨Nat.le_of_ble_eq_true rfl, Nat.le_of_ble_eq_true rfl⟩ (kI (fun r3 S2 h => ?_))
        refine gd_wide (k2 := 0) (j2 := 0) (Nat.le_of_ble_eq_true rfl) (Nat.le_of_ble_eq_true rfl) ?_
        refine gd_iconst (pc := 14) X (1) dX1_latestWriter_14 (by decide) ?_
        refine gd_iload_n (pc := 15) X 1 dX1_latestWriter_15 rfl ?_
        refine gd_ishl (pc := 16) X dX1_latestWriter_16 ?_
        refine gd_iand (pc := 17) X dX1_latestWriter_17 ?_
        refine gd_if_eq (pc := 18) X 23 dX1_latestWriter_18 (by decide) (fun hc5 => ?_) (fun hc5 => ?_)
        · have h := h.1 hc5
          obtain ⟨v4, hv4⟩ : ∃ z : Int32, z = l2 + (-1) := ⟨_, rfl⟩
          have h := h v4 hv4
          refine gd_iinc (pc := 23) (v := v4) X 2 dX1_latestWriter_23 rfl (by rw [hv4]; rfl) (by decide) (E2 := [(2, .int v4), (0, rf l0), (1, .int l1)]) rfl ?_
          refine gd_goto (pc := 26) X 5 dX1_latestWriter_26 (by decide) ?_
          refine gd_sub [1, 2, 0] rfl ?_
          exact ih _ _ _ _ h
        · have h := h.2 hc5
          refine gd_iload_n (pc := 21) X 2 dX1_latestWriter_21 rfl ?_
          exact (gd_ret_i (pc := 22) X hr hlk rfl (by decide) (by decide) dX1_latestWriter_22 ⟨_, rfl, h⟩)
  intro h
  refine gd_aload_n (pc := 0) X 0 dX1_latestWriter_0 rfl ?_
  obtain ⟨hk1, h⟩ := h
  refine gd_getI (pc := 1) (kf := 2) X ci1 (by decide) rfl tw_44 dX1_latestWriter_1 hk1 ?_
  refine gd_topI (fun v2 hv2 => ?_)
  have h := h v2 hv2
  refine gd_istore_n (pc := 4) X dX1_latestWriter_4 (by decide) (E2 := [(2, .int v2), (0, rf a0), (1, .int a1)]) rfl ?_
  refine gd_sub [1, 2, 0] rfl ?_
  obtain ⟨f5, h⟩ := h
  exact g5 f5 _ _ _ _ h
abbrev rm_X4_hasRecorded : Room := { frames := 0, cells := 0, slots := 0, locals := 0 }
def b_X4_hasRecorded_16 (post : Int32 → MS → Prop) (S : MS) (l0 : Nat) (l1 : Int32) (s0 : Int32) : Prop := narrow .boolean (.int s0) = .int s0 ∧ post s0 S
def w_X4_hasRecorded (S : MS) (a0 : Nat) (a1 : Int32) (post : Int32 → MS → Prop) : Prop := kT S a0 = 5 ∧ ((((sI S a0 6) &&& (1 <<< (a1 &&& 31))) = 0 → b_X4_hasRecorded_16 post S a0 a1 0) ∧ (¬ ((sI S a0 6) &&& (1 <<< (a1 &&& 31))) = 0 → b_X4_hasRecorded_16 post S a0 a1 1))
set_option maxHeartbeats 4000000 in
set_option maxRecDepth 100000 in
theorem ct_X4_hasRecorded (l : Launch) (G : GP) (S : MS) (a0 : Nat) (a1 : Int32) (post : Int32 → MS → Prop) (h : w_X4_hasRecorded S a0 a1 post) : MetM l yX4_hasRecorded cX4_hasRecorded 2 (some .boolean) rm_X4_hasRecorded [rf a0, .int a1] G S (pI_ post) := by
  refine met_of (by decide) (cat1_r (cat1_i cat1_n)) (Nat.le_of_ble_eq_true rfl) ?_
  intro p e s m args below meth c X hr hlk hin
  revert h
  have g16 : ∀ (S : MS) (l0 : Nat) (l1 : Int32) (s0 : Int32), b_X4_hasRecorded_16 post S l0 l1 s0 → Gd p l e rm_X4_hasRecorded s m args below meth c 2 G (MQ below (QcM G (pI_ post)) args s rm_X4_hasRecorded.cells rm_X4_hasRecorded.slots (Ab G)) 0 0 S 16 [(0, rf l0), (1, .int l1)] [.int s0] := by
    intro S l0 l1 s0 h
    obtain ⟨hnz, h⟩ := h
    exact (gd_ret_i (pc := 16) X hr hlk hnz (by decide) (by decide) dX4_hasRecorded_16 ⟨_, rfl, h⟩)
  intro h
  refine gd_aload_n (pc := 0) X 0 dX4_hasRecorded_0 rfl ?_
  obtain ⟨hk1, h⟩ := h
  refine gd_getI (pc := 1) (kf := 6) X ci4 (by decide) rfl tw_356 dX4_hasRecorded_1 hk1 ?_
  refine gd_iconst (pc := 4) X (1) dX4_hasRecorded_4 (by decide) ?_
  refine gd_iload_n (pc := 5) X 1 dX4_hasRecorded_5 rfl ?_
  refine gd_ishl (pc := 6) X dX4_hasRecorded_6 ?_
  refine gd_iand (pc := 7) X dX4_hasRecorded_7 ?_
  refine gd_if_eq (pc := 8) X 15 dX4_hasRecorded_8 (by decide) (fun hc2 => ?_) (fun hc2 => ?_)
  · have h := h.1 hc2
    refine gd_iconst (pc := 15) X (0) dX4_hasRecorded_15 (by decide) ?_
    exact g16 _ _ _ _ h
  · have h := h.2 hc2
    refine gd_iconst (pc := 11) X (1) dX4_hasRecorded_11 (by decide) ?_
    refine gd_goto (pc := 12) X 16 dX4_hasRecorded_12 (by decide) ?_
    exact g16 _ _ _ _ h
abbrev rm_X2_isPredicate : Room := { frames := 0, cells := 0, slots := 0, locals := 0 }
def b_X2_isPredicate_21 (post : Int32 → MS → Prop) (S : MS) (l0 : Nat) (s0 : Int32) : Prop := narrow .boolean (.int s0) = .int s0 ∧ post s0 S
def b_X2_isPredicate_16 (post : Int32 → MS → Prop) (S : MS) (l0 : Nat) : Prop := b_X2_isPredicate_21 post S l0 1
def w_X2_isPredicate (S : MS) (a0 : Nat) (post : Int32 → MS → Prop) : Prop := kT S a0 = 3 ∧ (((sI S a0 0) = 1 → b_X2_isPredicate_16 post S a0) ∧ (¬ (sI S a0 0) = 1 → ((¬ (sI S a0 0) = 2 → b_X2_isPredicate_21 post S a0 0) ∧ ((sI S a0 0) = 2 → b_X2_isPredicate_16 post S a0))))
set_option maxHeartbeats 4000000 in
set_option maxRecDepth 100000 in
theorem ct_X2_isPredicate (l : Launch) (G : GP) (S : MS) (a0 : Nat) (post : Int32 → MS → Prop) (h : w_X2_isPredicate S a0 post) : MetM l yX2_isPredicate cX2_isPredicate 1 (some .boolean) rm_X2_isPredicate [rf a0] G S (pI_ post) := by
  refine met_of (by decide) (cat1_r cat1_n) (Nat.le_of_ble_eq_true rfl) ?_
  intro p e s m args below meth c X hr hlk hin
  revert h
  have g21 : ∀ (S : MS) (l0 : Nat) (s0 : Int32), b_X2_isPredicate_21 post S l0 s0 → Gd p l e rm_X2_isPredicate s m args below meth c 1 G (MQ below (QcM G (pI_ post)) args s rm_X2_isPredicate.cells rm_X2_isPredicate.slots (Ab G)) 0 0 S 21 [(0, rf l0)] [.int s0] := by
    intro S l0 s0 h
    obtain ⟨hnz, h⟩ := h
    exact (gd_ret_i (pc := 21) X hr hlk hnz (by decide) (by decide) dX2_isPredicate_21 ⟨_, rfl, h⟩)
  have g16 : ∀ (S : MS) (l0 : Nat), b_X2_isPredicate_16 post S l0 → Gd p l e rm_X2_isPredicate s m args below meth c 1 G (MQ below (QcM G (pI_ post)) args s rm_X2_isPredicate.cells rm_X2_isPredicate.slots (Ab G)) 0 0 S 16 [(0, rf l0)] [] := by
    intro S l0 h
    refine gd_iconst (pc := 16) X (1) dX2_isPredicate_16 (by decide) ?_
    refine gd_goto (pc := 17) X 21 dX2_isPredicate_17 (by decide) ?_
    exact g21 _ _ _ h
  intro h
  refine gd_aload_n (pc := 0) X 0 dX2_isPredicate_0 rfl ?_
  obtain ⟨hk1, h⟩ := h
  refine gd_getI (pc := 1) (kf := 0) X ci2 (by decide) rfl tw_456 dX2_isPredicate_1 hk1 ?_
  refine gd_iconst (pc := 4) X (1) dX2_isPredicate_4 (by decide) ?_
  refine gd_icmp_eq (pc := 5) X 16 dX2_isPredicate_5 (by decide) (fun hc3 => ?_) (fun hc3 => ?_)
  · have h := h.1 hc3
    exact g16 _ _ h
  · have h := h.2 hc3
    refine gd_aload_n (pc := 8) X 0 dX2_isPredicate_8 rfl ?_
    refine gd_getI (pc := 9) (kf := 0) X ci2 (by decide) rfl tw_456 dX2_isPredicate_9 hk1 ?_
    refine gd_iconst (pc := 12) X (2) dX2_isPredicate_12 (by decide) ?_
    refine gd_icmp_ne (pc := 13) X 20 dX2_isPredicate_13 (by decide) (fun hc2 => ?_) (fun hc2 => ?_)
    · have h := h.1 hc2
      refine gd_iconst (pc := 20) X (0) dX2_isPredicate_20 (by decide) ?_
      exact g21 _ _ _ h
    · have h := h.2 hc2
      exact g16 _ _ h
abbrev rm_X2_admits : Room := { frames := 0, cells := 0, slots := 0, locals := 0 }
def b_X2_admits_20 (post : Int32 → MS → Prop) (S : MS) (l0 : Nat) (l1 : Int32) (s0 : Int32) : Prop := narrow .boolean (.int s0) = .int s0 ∧ post s0 S
def b_X2_admits_19 (post : Int32 → MS → Prop) (S : MS) (l0 : Nat) (l1 : Int32) : Prop := b_X2_admits_20 post S l0 l1 0
def w_X2_admits (S : MS) (a0 : Nat) (a1 : Int32) (post : Int32 → MS → Prop) : Prop := ((a1 = ((-1000)) → b_X2_admits_19 post S a0 a1) ∧ (¬ a1 = ((-1000)) → kT S a0 = 3 ∧ ((a1 < (sI S a0 3) → b_X2_admits_19 post S a0 a1) ∧ (¬ a1 < (sI S a0 3) → b_X2_admits_20 post S a0 a1 1))))
set_option maxHeartbeats 4000000 in
set_option maxRecDepth 100000 in
theorem ct_X2_admits (l : Launch) (G : GP) (S : MS) (a0 : Nat) (a1 : Int32) (post : Int32 → MS → Prop) (h : w_X2_admits S a0 a1 post) : MetM l yX2_admits cX2_admits 2 (some .boolean) rm_X2_admits [rf a0, .int a1] G S (pI_ post) := by
  refine met_of (by decide) (cat1_r (cat1_i cat1_n)) (Nat.le_of_ble_eq_true rfl) ?_
  intro p e s m args below meth c X hr hlk hin
  revert h
  have g20 : ∀ (S : MS) (l0 : Nat) (l1 : Int32) (s0 : Int32), b_X2_admits_20 post S l0 l1 s0 → Gd p l e rm_X2_admits s m args below meth c 2 G (MQ below (QcM G (pI_ post)) args s rm_X2_admits.cells rm_X2_admits.slots (Ab G)) 0 0 S 20 [(0, rf l0), (1, .int l1)] [.int s0] := by
    intro S l0 l1 s0 h
    obtain ⟨hnz, h⟩ := h
    exact (gd_ret_i (pc := 20) X hr hlk hnz (by decide) (by decide) dX2_admits_20 ⟨_, rfl, h⟩)
  have g19 : ∀ (S : MS) (l0 : Nat) (l1 : Int32), b_X2_admits_19 post S l0 l1 → Gd p l e rm_X2_admits s m args below meth c 2 G (MQ below (QcM G (pI_ post)) args s rm_X2_admits.cells rm_X2_admits.slots (Ab G)) 0 0 S 19 [(0, rf l0), (1, .int l1)] [] := by
    intro S l0 l1 h
    refine gd_iconst (pc := 19) X (0) dX2_admits_19 (by decide) ?_
    exact g20 _ _ _ _ h
  intro h
  refine gd_iload_n (pc := 0) X 1 dX2_admits_0 rfl ?_
  refine gd_sipush (pc := 1) X (-1000) dX2_admits_1 (by decide) ?_
  refine gd_icmp_eq (pc := 4) X 19 dX2_admits_4 (by decide) (fun hc3 => ?_) (fun hc3 => ?_)
  · have h := h.1 hc3
    exact g19 _ _ _ h
  · have h := h.2 hc3
    refine gd_iload_n (pc := 7) X 1 dX2_admits_7 rfl ?_
    refine gd_aload_n (pc := 8) X 0 dX2_admits_8 rfl ?_
    obtain ⟨hk1, h⟩ := h
    refine gd_getI (pc := 9) (kf := 3) X ci2 (by decide) rfl tw_460 dX2_admits_9 hk1 ?_
    refine gd_icmp_lt (pc := 12) X 19 dX2_admits_12 (by decide) (fun hc2 => ?_) (fun hc2 => ?_)
    · have h := h.1 hc2
      exact g19 _ _ _ h
    · have h := h.2 hc2
      refine gd_iconst (pc := 15) X (1) dX2_admits_15 (by decide) ?_
      refine gd_goto (pc := 16) X 20 dX2_admits_16 (by decide) ?_
      exact g20 _ _ _ _ h
abbrev rm_X2_isTouchedBy : Room := { frames := 1, cells := 0, slots := 0, locals := 21 }
def b_X2_isTouchedBy_55 (KH14 : MS → Nat → Nat → Nat → Int32 → Prop) (post : Int32 → MS → Prop) (S : MS) (l0 : Nat) (l1 : Nat) (l2 : Nat) (l3 : Int32) : Prop := ∀ v1 : Int32, v1 = l3 + 1 → KH14 S l0 l1 l2 v1
def b_X2_isTouchedBy_53 (post : Int32 → MS → Prop) (S : MS) (l0 : Nat) (l1 : Nat) (l2 : Nat) (l3 : Int32) : Prop := post 1 S
def b_X2_isTouchedBy_14 (post : Int32 → MS → Prop) : Nat → MS → Nat → Nat → Nat → Int32 → Prop
  | 0 => fun _ _ _ _ _ => False
  | f + 1 => fun S l0 l1 l2 l3 => kT S l0 = 3 ∧ (((sI S l0 2) < l3 → post 0 S) ∧ (¬ (sI S l0 2) < l3 → kT S l1 = 5 ∧ w_X4_hasWritten S l1 l3 (fun r4 S3 => ((r4 = 0 → b_X2_isTouchedBy_55 (b_X2_isTouchedBy_14 post f) post S3 l0 l1 l2 l3) ∧ (¬ r4 = 0 → kT S3 l2 = 9 ∧ vp_in l3 (kL S3 l2) ∧ kT S3 l0 = 3 ∧ w_X2_admits S3 l0 (sI S3 l2 (ix l3)) (fun r9 S8 => ((¬ r9 = 0 → b_X2_isTouchedBy_53 post S8 l0 l1 l2 l3) ∧ (r9 = 0 → kT S8 l1 = 5 ∧ kT S8 (sR S8 l1 4) = 9 ∧ vp_in l3 (kL S8 (sR S8 l1 4)) ∧ kT S8 l0 = 3 ∧ w_X2_admits S8 l0 (sI S8 (sR S8 l1 4) (ix l3)) (fun r15 S14 => ((r15 = 0 → b_X2_isTouchedBy_55 (b_X2_isTouchedBy_14 post f) post S14 l0 l1 l2 l3) ∧ (¬ r15 = 0 → b_X2_isTouchedBy_53 post S14 l0 l1 l2 l3)))))))))))
def w_X2_isTouchedBy (S : MS) (a0 : Nat) (a1 : Nat) (a2 : Nat) (post : Int32 → MS → Prop) : Prop := kT S a0 = 3 ∧ w_X2_isPredicate S a0 (fun r3 S2 => ((¬ r3 = 0 → kT S2 a0 = 3 ∧ ∀ v5 : Int32, v5 = sI S2 a0 1 → ∃ f14, b_X2_isTouchedBy_14 post f14 S2 a0 a1 a2 v5) ∧ (r3 = 0 → post 0 S2)))
set_option maxHeartbeats 4000000 in
set_option maxRecDepth 100000 in
theorem ct_X2_isTouchedBy (l : Launch) (G : GP) (S : MS) (a0 : Nat) (a1 : Nat) (a2 : Nat) (post : Int32 → MS → Prop) (h : w_X2_isTouchedBy S a0 a1 a2 post) : MetM l yX2_isTouchedBy cX2_isTouchedBy 4 (some .boolean) rm_X2_isTouchedBy [rf a0, rf a1, rf a2] G S (pI_ post) := by
  refine met_of (by decide) (cat1_r (cat1_r (cat1_r cat1_n))) (Nat.le_of_ble_eq_true rfl) ?_
  intro p e s m args below meth c X hr hlk hin
  revert h
  have g55 : ∀ (KH14 : MS → Nat → Nat → Nat → Int32 → Prop) (hKH14 : ∀ (S : MS) (l0 : Nat) (l1 : Nat) (l2 : Nat) (l3 : Int32), KH14 S l0 l1 l2 l3 → Gd p l e rm_X2_isTouchedBy s m args below meth c 4 G (MQ below (QcM G (pI_ post)) args s rm_X2_isTouchedBy.cells rm_X2_isTouchedBy.slots (Ab G)) 0 0 S 14 [(0, rf l0), (1, rf l1), (2, rf l2), (3, .int l3)] []) (S : MS) (l0 : Nat) (l1 : Nat) (l2 : Nat) (l3 : Int32), b_X2_isTouchedBy_55 KH14 post S l0 l1 l2 l3 → Gd p l e rm_X2_isTouchedBy s m args below meth c 4 G (MQ below (QcM G (pI_ post)) args s rm_X2_isTouchedBy.cells rm_X2_isTouchedBy.slots (Ab G)) 0 0 S 55 [(0, rf l0), (1, rf l1), (2, rf l2), (3, .int l3)] [] := by
    intro KH14 hKH14 S l0 l1 l2 l3 h
    obtain ⟨v1, hv1⟩ : ∃ z : Int32, z = l3 + 1 := ⟨_, rfl⟩
    have h := h v1 hv1
    refine gd_iinc (pc := 55) (v := v1) X 3 dX2_isTouchedBy_55 rfl (by rw [hv1]; rfl) (by decide) (E2 := [(3, .int v1), (0, rf l0), (1, rf l1), (2, rf l2)]) (by simp [rf_cat, lv1, int_cat] <;> decide) ?_
    refine gd_goto (pc := 58) X 14 dX2_isTouchedBy_58 (by decide) ?_
    refine gd_sub [1, 2, 3, 0] rfl ?_
    exact hKH14 _ _ _ _ _ h
  have g53 : ∀ (S : MS) (l0 : Nat) (l1 : Nat) (l2 : Nat) (l3 : Int32), b_X2_isTouchedBy_53 post S l0 l1 l2 l3 → Gd p l e rm_X2_isTouchedBy s m args below meth c 4 G (MQ below (QcM G (pI_ post)) args s rm_X2_isTouchedBy.cells rm_X2_isTouchedBy.slots (Ab G)) 0 0 S 53 [(0, rf l0), (1, rf l1), (2, rf l2), (3, .int l3)] [] := by
    intro S l0 l1 l2 l3 h
    refine gd_iconst (pc := 53) X (1) dX2_isTouchedBy_53 (by decide) ?_
    exact (gd_ret_i (pc := 54) X hr hlk rfl (by decide) (by decide) dX2_isTouchedBy_54 ⟨_, rfl, h⟩)
  have g14 : ∀ (f : Nat) (S : MS) (l0 : Nat) (l1 : Nat) (l2 : Nat) (l3 : Int32), b_X2_isTouchedBy_14 post f S l0 l1 l2 l3 → Gd p l e rm_X2_isTouchedBy s m args below meth c 4 G (MQ below (QcM G (pI_ post)) args s rm_X2_isTouchedBy.cells rm_X2_isTouchedBy.slots (Ab G)) 0 0 S 14 [(0, rf l0), (1, rf l1), (2, rf l2), (3, .int l3)] [] := by
    intro f
    induction f with
    | zero => intro S l0 l1 l2 l3 h; exact h.elim
    | succ f ih =>
      intro S l0 l1 l2 l3 h
      refine gd_iload_n (pc := 14) X 3 dX2_isTouchedBy_14 rfl ?_
      refine gd_aload_n (pc := 15) X 0 dX2_isTouchedBy_15 rfl ?_
      obtain ⟨hk1, h⟩ := h
      refine gd_getI (pc := 16) (kf := 2) X ci2 (by decide) rfl tw_459 dX2_isTouchedBy_16 hk1 ?_
      refine gd_icmp_gt (pc := 19) X 61 dX2_isTouchedBy_19 (by decide) (fun hc19 => ?_) (fun hc19 => ?_)
      · have h := h.1 hc19
        refine gd_iconst (pc := 61) X (0) dX2_isTouchedBy_61 (by decide) ?_
        exact (gd_ret_i (pc := 62) X hr hlk rfl (by decide) (by decide) dX2_isTouchedBy_62 ⟨_, rfl, h⟩)
      · have h := h.2 hc19
        refine gd_aload_n (pc := 22) X 1 dX2_isTouchedBy_22 rfl ?_
        refine gd_iload_n (pc := 23) X 3 dX2_isTouchedBy_23 rfl ?_
        obtain ⟨hk2, h⟩ := h
        refine gd_callV (pc := 24) (As := [.int l3]) (rest := []) X (ct_X4_hasWritten l G S l1 l3 _ h) mw_X4_hasWritten tw_169 ci4 rfl hk2 ⟨(Nat.le_of_ble_eq_true rfl), (Nat.le_of_ble_eq_true rfl)⟩ rfl rfl (Nat.le_of_ble_eq_true rfl) dX2_isTouchedBy_24 ⟨Nat.le_of_ble_eq_true rfl, Nat.le_of_ble_eq_true rfl⟩ (kI (fun r4 S3 h => ?_))
        refine gd_wide (k2 := 0) (j2 := 0) (Nat.le_of_ble_eq_true rfl) (Nat.le_of_ble_eq_true rfl) ?_
        refine gd_if_eq (pc := 27) X 55 dX2_isTouchedBy_27 (by decide) (fun hc18 => ?_) (fun hc18 => ?_)
        · have h := h.1 hc18
          exact g55 _ ih _ _ _ _ _ h
        · have h := h.2 hc18
          refine gd_aload_n (pc := 30) X 0 dX2_isTouchedBy_30 rfl ?_
          refine gd_aload_n (pc := 31) X 2 dX2_isTouchedBy_31 rfl ?_
          refine gd_iload_n (pc := 32) X 3 dX2_isTouchedBy_32 rfl ?_
          obtain ⟨hk5, h⟩ := h
          obtain ⟨hi6, h⟩ := h
          refine gd_iald (pc := 33) X dX2_isTouchedBy_33 hk5 hi6 ?_
          obtain ⟨hk7, h⟩ := h
          refine gd_callV (pc := 34) (As := [.int (sI S3 l2 (ix l3))]) (rest := []) X (ct_X2_admits l G S3 l0 (sI S3 l2 (ix l3)) _ h) mw_X2_admits tw_173 ci2 rfl hk7 ⟨(Nat.le_of_ble_eq_true rfl), (Nat.le_of_ble_eq_true rfl)⟩ rfl rfl (Nat.le_of_ble_eq_true rfl) dX2_isTouchedBy_34 ⟨Nat.le_of_ble_eq_true rfl, Nat.le_of_ble_eq_true rfl⟩ (kI (fun r9 S8 h => ?_))
          refine gd_wide (k2 := 0) (j2 := 0) (Nat.le_of_ble_eq_true rfl) (Nat.le_of_ble_eq_true rfl) ?_
          refine gd_if_ne (pc := 37) X 53 dX2_isTouchedBy_37 (by decide) (fun hc17 => ?_) (fun hc17 => ?_)
          · have h := h.1 hc17
            exact g53 _ _ _ _ _ h
          · have h := h.2 hc17
            refine gd_aload_n (pc := 40) X 0 dX2_isTouchedBy_40 rfl ?_
            refine gd_aload_n (pc := 41) X 1 dX2_isTouchedBy_41 rfl ?_
            obtain ⟨hk10, h⟩ := h
            refine gd_getR (pc := 42) (kf := 4) X ci4 (by decide) rfl tw_352 dX2_isTouchedBy_42 hk10 ?_
            refine gd_iload_n (pc := 45) X 3 dX2_isTouchedBy_45 rfl ?_
            obtain ⟨hk11, h⟩ := h
            obtain ⟨hi12, h⟩ := h
            refine gd_iald (pc := 46) X dX2_isTouchedBy_46 hk11 hi12 ?_
            obtain ⟨hk13, h⟩ := h
            refine gd_callV (pc := 47) (As := [.int (sI S8 (sR S8 l1 4) (ix l3))]) (rest := []) X (ct_X2_admits l G S8 l0 (sI S8 (sR S8 l1 4) (ix l3)) _ h) mw_X2_admits tw_173 ci2 rfl hk13 ⟨(Nat.le_of_ble_eq_true rfl), (Nat.le_of_ble_eq_true rfl)⟩ rfl rfl (Nat.le_of_ble_eq_true rfl) dX2_isTouchedBy_47 ⟨Nat.le_of_ble_eq_true rfl, Nat.le_of_ble_eq_true rfl⟩ (kI (fun r15 S14 h => ?_))
            refine gd_wide (k2 := 0) (j2 := 0) (Nat.le_of_ble_eq_true rfl) (Nat.le_of_ble_eq_true rfl) ?_
            refine gd_if_eq (pc := 50) X 55 dX2_isTouchedBy_50 (by decide) (fun hc16 => ?_) (fun hc16 => ?_)
            · have h := h.1 hc16
              exact g55 _ ih _ _ _ _ _ h
            · have h := h.2 hc16
              exact g53 _ _ _ _ _ h
  intro h
  refine gd_aload_n (pc := 0) X 0 dX2_isTouchedBy_0 rfl ?_
  obtain ⟨hk1, h⟩ := h
  refine gd_callV (pc := 1) (As := []) (rest := []) X (ct_X2_isPredicate l G S a0 _ h) mw_X2_isPredicate tw_165 ci2 rfl hk1 ⟨(Nat.le_of_ble_eq_true rfl), (Nat.le_of_ble_eq_true rfl)⟩ rfl rfl (Nat.le_of_ble_eq_true rfl) dX2_isTouchedBy_1 ⟨Nat.le_of_ble_eq_true rfl, Nat.le_of_ble_eq_true rfl⟩ (kI (fun r3 S2 h => ?_))
  refine gd_wide (k2 := 0) (j2 := 0) (Nat.le_of_ble_eq_true rfl) (Nat.le_of_ble_eq_true rfl) ?_
  refine gd_if_ne (pc := 4) X 9 dX2_isTouchedBy_4 (by decide) (fun hc6 => ?_) (fun hc6 => ?_)
  · have h := h.1 hc6
    refine gd_aload_n (pc := 9) X 0 dX2_isTouchedBy_9 rfl ?_
    obtain ⟨hk4, h⟩ := h
    refine gd_getI (pc := 10) (kf := 1) X ci2 (by decide) rfl tw_457 dX2_isTouchedBy_10 hk4 ?_
    refine gd_topI (fun v5 hv5 => ?_)
    have h := h v5 hv5
    refine gd_istore_n (pc := 13) X dX2_isTouchedBy_13 (by decide) (E2 := [(3, .int v5), (0, rf a0), (1, rf a1), (2, rf a2)]) (by simp [rf_cat, lv1, int_cat] <;> decide) ?_
    refine gd_sub [1, 2, 3, 0] rfl ?_
    obtain ⟨f14, h⟩ := h
    exact g14 f14 _ _ _ _ _ h
  · have h := h.2 hc6
    refine gd_iconst (pc := 7) X (0) dX2_isTouchedBy_7 (by decide) ?_
    exact (gd_ret_i (pc := 8) X hr hlk rfl (by decide) (by decide) dX2_isTouchedBy_8 ⟨_, rfl, h⟩)
abbrev rm_X1_isTouchedSince : Room := { frames := 2, cells := 0, slots := 0, locals := 44 }
def b_X1_isTouchedSince_50 (KH13 : MS → Nat → Nat → Int32 → Prop) (post : Int32 → MS → Prop) (S : MS) (l0 : Nat) (l1 : Nat) (l2 : Int32) (l3 : Nat) : Prop := ∀ v1 : Int32, v1 = l2 + 1 → KH13 S l0 l1 v1
def b_X1_isTouchedSince_13 (post : Int32 → MS → Prop) : Nat → MS → Nat → Nat → Int32 → Prop
  | 0 => fun _ _ _ _ => False
  | f + 1 => fun S l0 l1 l2 => kT S l0 = 2 ∧ (((sI S l0 2) < l2 → post 0 S) ∧ (¬ (sI S l0 2) < l2 → kT S (sR S l0 1) = 13 ∧ vp_in l2 (kL S (sR S l0 1)) ∧ ∀ r4 : Nat, r4 = sR S (sR S l0 1) (ix l2) → ((r4 = 0 → b_X1_isTouchedSince_50 (b_X1_isTouchedSince_13 post f) post S l0 l1 l2 r4) ∧ (¬ r4 = 0 → kT S (sR S l0 0) = 14 ∧ vp_in (l2 - 1) (kL S (sR S l0 0)) ∧ kT S l1 = 3 ∧ w_X2_isTouchedBy S l1 r4 (sR S (sR S l0 0) (ix (l2 - 1))) (fun r9 S8 => ((r9 = 0 → b_X1_isTouchedSince_50 (b_X1_isTouchedSince_13 post f) post S8 l0 l1 l2 r4) ∧ (¬ r9 = 0 → post 1 S8)))))))
def w_X1_isTouchedSince (S : MS) (a0 : Nat) (a1 : Nat) (post : Int32 → MS → Prop) : Prop := ((¬ a1 = 0 → kT S a1 = 3 ∧ ∀ v2 : Int32, v2 = (sI S a1 4) + 1 → ∃ f13, b_X1_isTouchedSince_13 post f13 S a0 a1 v2) ∧ (a1 = 0 → post 0 S))
set_option maxHeartbeats 4000000 in
set_option maxRecDepth 100000 in
theorem ct_X1_isTouchedSince (l : Launch) (G : GP) (S : MS) (a0 : Nat) (a1 : Nat) (post : Int32 → MS → Prop) (h : w_X1_isTouchedSince S a0 a1 post) : MetM l yX1_isTouchedSince cX1_isTouchedSince 4 (some .boolean) rm_X1_isTouchedSince [rf a0, rf a1] G S (pI_ post) := by
  refine met_of (by decide) (cat1_r (cat1_r cat1_n)) (Nat.le_of_ble_eq_true rfl) ?_
  intro p e s m args below meth c X hr hlk hin
  revert h
  have g50 : ∀ (KH13 : MS → Nat → Nat → Int32 → Prop) (hKH13 : ∀ (S : MS) (l0 : Nat) (l1 : Nat) (l2 : Int32), KH13 S l0 l1 l2 → Gd p l e rm_X1_isTouchedSince s m args below meth c 4 G (MQ below (QcM G (pI_ post)) args s rm_X1_isTouchedSince.cells rm_X1_isTouchedSince.slots (Ab G)) 0 0 S 13 [(0, rf l0), (1, rf l1), (2, .int l2)] []) (S : MS) (l0 : Nat) (l1 : Nat) (l2 : Int32) (l3 : Nat), b_X1_isTouchedSince_50 KH13 post S l0 l1 l2 l3 → Gd p l e rm_X1_isTouchedSince s m args below meth c 4 G (MQ below (QcM G (pI_ post)) args s rm_X1_isTouchedSince.cells rm_X1_isTouchedSince.slots (Ab G)) 0 0 S 50 [(0, rf l0), (1, rf l1), (2, .int l2), (3, rf l3)] [] := by
    intro KH13 hKH13 S l0 l1 l2 l3 h
    obtain ⟨v1, hv1⟩ : ∃ z : Int32, z = l2 + 1 := ⟨_, rfl⟩
    have h := h v1 hv1
    refine gd_iinc (pc := 50) (v := v1) X 2 dX1_isTouchedSince_50 rfl (by rw [hv1]; rfl) (by decide) (E2 := [(2, .int v1), (0, rf l0), (1, rf l1), (3, rf l3)]) (by simp [rf_cat, lv1, int_cat] <;> decide) ?_
    refine gd_goto (pc := 53) X 13 dX1_isTouchedSince_53 (by decide) ?_
    refine gd_sub [1, 2, 0] rfl ?_
    exact hKH13 _ _ _ _ h
  have g13 : ∀ (f : Nat) (S : MS) (l0 : Nat) (l1 : Nat) (l2 : Int32), b_X1_isTouchedSince_13 post f S l0 l1 l2 → Gd p l e rm_X1_isTouchedSince s m args below meth c 4 G (MQ below (QcM G (pI_ post)) args s rm_X1_isTouchedSince.cells rm_X1_isTouchedSince.slots (Ab G)) 0 0 S 13 [(0, rf l0), (1, rf l1), (2, .int l2)] [] := by
    intro f
    induction f with
    | zero => intro S l0 l1 l2 h; exact h.elim
    | succ f ih =>
      intro S l0 l1 l2 h
      refine gd_iload_n (pc := 13) X 2 dX1_isTouchedSince_13 rfl ?_
      refine gd_aload_n (pc := 14) X 0 dX1_isTouchedSince_14 rfl ?_
      obtain ⟨hk1, h⟩ := h
      refine gd_getI (pc := 15) (kf := 2) X ci1 (by decide) rfl tw_44 dX1_isTouchedSince_15 hk1 ?_
      refine gd_icmp_gt (pc := 18) X 56 dX1_isTouchedSince_18 (by decide) (fun hc12 => ?_) (fun hc12 => ?_)
      · have h := h.1 hc12
        refine gd_iconst (pc := 56) X (0) dX1_isTouchedSince_56 (by decide) ?_
        exact (gd_ret_i (pc := 57) X hr hlk rfl (by decide) (by decide) dX1_isTouchedSince_57 ⟨_, rfl, h⟩)
      · have h := h.2 hc12
        refine gd_aload_n (pc := 21) X 0 dX1_isTouchedSince_21 rfl ?_
        refine gd_getR (pc := 22) (kf := 1) X ci1 (by decide) rfl tw_43 dX1_isTouchedSince_22 hk1 ?_
        refine gd_iload_n (pc := 25) X 2 dX1_isTouchedSince_25 rfl ?_
        obtain ⟨hk2, h⟩ := h
        obtain ⟨hi3, h⟩ := h
        refine gd_aald (pc := 26) (t := 5) X rfl rfl (by decide) (by decide) dX1_isTouchedSince_26 hk2 hi3 ?_
        refine gd_topR (fun r4 hr4 => ?_)
        have h := h r4 hr4
        refine gd_astore_n (pc := 27) X dX1_isTouchedSince_27 (by decide) (E2 := [(3, rf r4), (0, rf l0), (1, rf l1), (2, .int l2)]) rfl ?_
        refine gd_aload_n (pc := 28) X 0 dX1_isTouchedSince_28 rfl ?_
        refine gd_ifnull (pc := 29) X 50 dX1_isTouchedSince_29 (by decide) (fun hc11 => ?_) (fun hc11 => ?_)
        · have h := h.1 hc11
          refine gd_sub [1, 2, 3, 0] rfl ?_
          exact g50 _ ih _ _ _ _ _ h
        · have h := h.2 hc11
          refine gd_aload_n (pc := 32) X 2 dX1_isTouchedSince_32 rfl ?_
          refine gd_aload_n (pc := 33) X 0 dX1_isTouchedSince_33 rfl ?_
          refine gd_aload_n (pc := 34) X 1 dX1_isTouchedSince_34 rfl ?_
          refine gd_getR (pc := 35) (kf := 0) X ci1 (by decide) rfl tw_42 dX1_isTouchedSince_35 hk1 ?_
          refine gd_iload_n (pc := 38) X 3 dX1_isTouchedSince_38 rfl ?_
          refine gd_iconst (pc := 39) X (1) dX1_isTouchedSince_39 (by decide) ?_
          refine gd_isub (pc := 40) X dX1_isTouchedSince_40 ?_
          obtain ⟨hk5, h⟩ := h
          obtain ⟨hi6, h⟩ := h
          refine gd_aald (pc := 41) (t := 6) X rfl rfl (by decide) (by decide) dX1_isTouchedSince_41 hk5 hi6 ?_
          obtain ⟨hk7, h⟩ := h
          refine gd_callV (pc := 42) (As := [rf r4, rf (sR S (sR S l0 0) (ix (l2 - 1)))]) (rest := []) X (ct_X2_isTouchedBy l G S l1 r4 (sR S (sR S l0 0) (ix (l2 - 1))) _ h) mw_X2_isTouchedBy tw_627 ci2 rfl hk7 ⟨(Nat.le_of_ble_eq_true rfl), (Nat.le_of_ble_eq_true rfl)⟩ rfl rfl (Nat.le_of_ble_eq_true rfl) dX1_isTouchedSince_42 ⟨Nat.le_of_ble_eq_true rfl, Nat.le_of_ble_eq_true rfl⟩ (kI (fun r9 S8 h => ?_))
          refine gd_wide (k2 := 0) (j2 := 0) (Nat.le_of_ble_eq_true rfl) (Nat.le_of_ble_eq_true rfl) ?_
          refine gd_if_eq (pc := 45) X 50 dX1_isTouchedSince_45 (by decide) (fun hc10 => ?_) (fun hc10 => ?_)
          · have h := h.1 hc10
            refine gd_sub [1, 2, 3, 0] rfl ?_
            exact g50 _ ih _ _ _ _ _ h
          · have h := h.2 hc10
            refine gd_iconst (pc := 48) X (1) dX1_isTouchedSince_48 (by decide) ?_
            exact (gd_ret_i (pc := 49) X hr hlk rfl (by decide) (by decide) dX1_isTouchedSince_49 ⟨_, rfl, h⟩)
  intro h
  refine gd_aload_n (pc := 0) X 1 dX1_isTouchedSince_0 rfl ?_
  refine gd_ifnonnull (pc := 1) X 6 dX1_isTouchedSince_1 (by decide) (fun hc3 => ?_) (fun hc3 => ?_)
  · have h := h.1 hc3
    refine gd_aload_n (pc := 6) X 1 dX1_isTouchedSince_6 rfl ?_
    obtain ⟨hk1, h⟩ := h
    refine gd_getI (pc := 7) (kf := 4) X ci2 (by decide) rfl tw_462 dX1_isTouchedSince_7 hk1 ?_
    refine gd_iconst (pc := 10) X (1) dX1_isTouchedSince_10 (by decide) ?_
    refine gd_iadd (pc := 11) X dX1_isTouchedSince_11 ?_
    refine gd_topI (fun v2 hv2 => ?_)
    have h := h v2 hv2
    refine gd_istore_n (pc := 12) X dX1_isTouchedSince_12 (by decide) (E2 := [(2, .int v2), (0, rf a0), (1, rf a1)]) (by simp [rf_cat, lv1, int_cat] <;> decide) ?_
    refine gd_sub [1, 2, 0] rfl ?_
    obtain ⟨f13, h⟩ := h
    exact g13 f13 _ _ _ _ h
  · have h := h.2 hc3
    refine gd_iconst (pc := 4) X (0) dX1_isTouchedSince_4 (by decide) ?_
    exact (gd_ret_i (pc := 5) X hr hlk rfl (by decide) (by decide) dX1_isTouchedSince_5 ⟨_, rfl, h⟩)
