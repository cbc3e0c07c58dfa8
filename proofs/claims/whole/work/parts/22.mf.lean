abbrev rm_X6_hasFault : Room := { frames := 2, cells := 0, slots := 0, locals := 47 }
def b_X6_hasFault_37 (post : Int32 → MS → Prop) : Nat → MS → Nat → Int32 → Int32 → Int32 → Prop
  | 0 => fun _ _ _ _ _ => False
  | f + 1 => fun S l0 l1 l2 l3 => kT S l0 = 7 ∧ kT S (sR S l0 7) = 9 ∧ vp_in l2 (kL S (sR S l0 7)) ∧ (((sI S (sR S l0 7) (ix l2)) ≤ l3 → post 0 S) ∧ (¬ (sI S (sR S l0 7) (ix l2)) ≤ l3 → ∀ v4 : Int32, v4 = 5 * ((24 * l2) + l3) → w_X6_again S l0 v4 (fun r6 S5 => kT S5 l0 = 7 ∧ kT S5 (sR S5 l0 8) = 9 ∧ vp_in (v4 + 4) (kL S5 (sR S5 l0 8)) ∧ ((r6 = (sI S5 (sR S5 l0 8) (ix (v4 + 4))) → ∀ v10 : Int32, v10 = l3 + 1 → b_X6_hasFault_37 post f S5 l0 l1 l2 v10) ∧ (¬ r6 = (sI S5 (sR S5 l0 8) (ix (v4 + 4))) → post 1 S5)))))
def b_X6_hasFault_9 (post : Int32 → MS → Prop) : Nat → MS → Nat → Int32 → Int32 → Int32 → Prop
  | 0 => fun _ _ _ _ _ => False
  | f + 1 => fun S l0 l1 l2 l3 => ((32 ≤ l3 → ∃ f37, b_X6_hasFault_37 post f37 S l0 l1 l2 0) ∧ (¬ 32 ≤ l3 → kT S l0 = 7 ∧ w_X6_stored S l0 (l1 - 1) l3 (fun r3 S2 => kT S2 (sR S l0 23) = 9 ∧ vp_in l3 (kL S2 (sR S l0 23)) ∧ ∀ S6 : MS, S6 = pI S2 (sR S l0 23) (ix l3) r3 → ∀ v8 : Int32, v8 = l3 + 1 → b_X6_hasFault_9 post f S6 l0 l1 l2 v8)))
def w_X6_hasFault (S : MS) (a0 : Nat) (a1 : Int32) (post : Int32 → MS → Prop) : Prop := kT S a0 = 7 ∧ kT S (sR S a0 16) = 9 ∧ vp_in a1 (kL S (sR S a0 16)) ∧ ∀ v4 : Int32, v4 = sI S (sR S a0 16) (ix a1) → ∃ f9, b_X6_hasFault_9 post f9 S a0 a1 v4 0
set_option maxHeartbeats 4000000 in
set_option maxRecDepth 100000 in
theorem ct_X6_hasFault (l : Launch) (G : GP) (S : MS) (a0 : Nat) (a1 : Int32) (post : Int32 → MS → Prop) (h : w_X6_hasFault S a0 a1 post) : MetM l yX6_hasFault cX6_hasFault 5 (some .boolean) rm_X6_hasFault [rf a0, .int a1] G S (pI_ post) := by
  refine met_of (by decide) (cat1_r (cat1_i cat1_n)) (Nat.le_of_ble_eq_true rfl) ?_
  intro p e s m args below meth c X hr hlk hin
  revert h
  have g37 : ∀ (f : Nat) (S : MS) (l0 : Nat) (l1 : Int32) (l2 : Int32) (l3 : Int32), b_X6_hasFault_37 post f S l0 l1 l2 l3 → Gd p l e rm_X6_hasFault s m args below meth c 5 G (MQ below (QcM G (pI_ post)) args s rm_X6_hasFault.cells rm_X6_hasFault.slots (Ab G)) 0 0 S 37 [(0, rf l0), (1, .int l1), (2, .int l2), (3, .int l3)] [] := by
    intro f
    induction f with
    | zero => intro S l0 l1 l2 l3 h; exact h.elim
    | succ f ih =>
      intro S l0 l1 l2 l3 h
      refine gd_iload_n (pc := 37) X 3 dX6_hasFault_37 rfl ?_
      refine gd_aload_n (pc := 38) X 0 dX6_hasFault_38 rfl ?_
      obtain ⟨hk1, h⟩ := h
      refine gd_getR (pc := 39) (kf := 7) X ci6 (by decide) rfl tw_990 dX6_hasFault_39 hk1 ?_
      refine gd_iload_n (pc := 42) X 2 dX6_hasFault_42 rfl ?_
      obtain ⟨hk2, h⟩ := h
      obtain ⟨hi3, h⟩ := h
      refine gd_iald (pc := 43) X dX6_hasFault_43 hk2 hi3 ?_
      refine gd_icmp_ge (pc := 44) X 83 dX6_hasFault_44 (by decide) (fun hc12 => ?_) (fun hc12 => ?_)
      · have h := h.1 hc12
        refine gd_iconst (pc := 83) X (0) dX6_hasFault_83 (by decide) ?_
        exact (gd_ret_i (pc := 84) X hr hlk rfl (by decide) (by decide) dX6_hasFault_84 ⟨_, rfl, h⟩)
      · have h := h.2 hc12
        refine gd_iconst (pc := 47) X (5) dX6_hasFault_47 (by decide) ?_
        refine gd_bipush (pc := 48) X (24) dX6_hasFault_48 (by decide) ?_
        refine gd_iload_n (pc := 50) X 2 dX6_hasFault_50 rfl ?_
        refine gd_imul (pc := 51) X dX6_hasFault_51 ?_
        refine gd_iload_n (pc := 52) X 3 dX6_hasFault_52 rfl ?_
        refine gd_iadd (pc := 53) X dX6_hasFault_53 ?_
        refine gd_imul (pc := 54) X dX6_hasFault_54 ?_
        refine gd_topI (fun v4 hv4 => ?_)
        have h := h v4 hv4
        refine gd_istore (pc := 55) X dX6_hasFault_55 (by decide) (E2 := [(4, .int v4), (0, rf l0), (1, .int l1), (2, .int l2), (3, .int l3)]) rfl ?_
        refine gd_aload_n (pc := 57) X 1 dX6_hasFault_57 rfl ?_
        refine gd_iload (pc := 58) X 0 dX6_hasFault_58 rfl ?_
        refine gd_callV (pc := 60) (As := [.int v4]) (rest := []) X (ct_X6_again l G S l0 v4 _ h) mw_X6_again tw_1340 ci6 rfl hk1 ⟨(Nat.le_of_ble_eq_true rfl), (Nat.le_of_ble_eq_true rfl)⟩ rfl rfl (Nat.le_of_ble_eq_true rfl) dX6_hasFault_60 ⟨Nat.le_of_ble_eq_true rfl, Nat.le_of_ble_eq_true rfl⟩ (kI (fun r6 S5 h => ?_))
        refine gd_wide (k2 := 0) (j2 := 0) (Nat.le_of_ble_eq_true rfl) (Nat.le_of_ble_eq_true rfl) ?_
        refine gd_aload_n (pc := 63) X 1 dX6_hasFault_63 rfl ?_
        obtain ⟨hk7, h⟩ := h
        refine gd_getR (pc := 64) (kf := 8) X ci6 (by decide) rfl tw_991 dX6_hasFault_64 hk7 ?_
        refine gd_iload (pc := 67) X 0 dX6_hasFault_67 rfl ?_
        refine gd_iconst (pc := 69) X (4) dX6_hasFault_69 (by decide) ?_
        refine gd_iadd (pc := 70) X dX6_hasFault_70 ?_
        obtain ⟨hk8, h⟩ := h
        obtain ⟨hi9, h⟩ := h
        refine gd_iald (pc := 71) X dX6_hasFault_71 hk8 hi9 ?_
        refine gd_icmp_eq (pc := 72) X 77 dX6_hasFault_72 (by decide) (fun hc11 => ?_) (fun hc11 => ?_)
        · have h := h.1 hc11
          obtain ⟨v10, hv10⟩ : ∃ z : Int32, z = l3 + 1 := ⟨_, rfl⟩
          have h := h v10 hv10
          refine gd_iinc (pc := 77) (v := v10) X 4 dX6_hasFault_77 rfl (by rw [hv10]; rfl) (by decide) (E2 := [(3, .int v10), (4, .int v4), (0, rf l0), (1, .int l1), (2, .int l2)]) rfl ?_
          refine gd_goto (pc := 80) X 37 dX6_hasFault_80 (by decide) ?_
          refine gd_sub [2, 3, 4, 0] rfl ?_
          exact ih _ _ _ _ _ h
        · have h := h.2 hc11
          refine gd_iconst (pc := 75) X (1) dX6_hasFault_75 (by decide) ?_
          exact (gd_ret_i (pc := 76) X hr hlk rfl (by decide) (by decide) dX6_hasFault_76 ⟨_, rfl, h⟩)
  have g9 : ∀ (f : Nat) (S : MS) (l0 : Nat) (l1 : Int32) (l2 : Int32) (l3 : Int32), b_X6_hasFault_9 post f S l0 l1 l2 l3 → Gd p l e rm_X6_hasFault s m args below meth c 5 G (MQ below (QcM G (pI_ post)) args s rm_X6_hasFault.cells rm_X6_hasFault.slots (Ab G)) 0 0 S 9 [(0, rf l0), (1, .int l1), (2, .int l2), (3, .int l3)] [] := by
    intro f
    induction f with
    | zero => intro S l0 l1 l2 l3 h; exact h.elim
    | succ f ih =>
      intro S l0 l1 l2 l3 h
      refine gd_iload_n (pc := 9) X 3 dX6_hasFault_9 rfl ?_
      refine gd_bipush (pc := 10) X (32) dX6_hasFault_10 (by decide) ?_
      refine gd_icmp_ge (pc := 12) X 35 dX6_hasFault_12 (by decide) (fun hc9 => ?_) (fun hc9 => ?_)
      · have h := h.1 hc9
        refine gd_iconst (pc := 35) X (0) dX6_hasFault_35 (by decide) ?_
        refine gd_istore_n (pc := 36) X dX6_hasFault_36 (by decide) (E2 := [(3, .int 0), (0, rf l0), (1, .int l1), (2, .int l2)]) rfl ?_
        refine gd_sub [1, 2, 3, 0] rfl ?_
        obtain ⟨f37, h⟩ := h
        exact g37 f37 _ _ _ _ _ h
      · have h := h.2 hc9
        refine gd_aload_n (pc := 15) X 0 dX6_hasFault_15 rfl ?_
        obtain ⟨hk1, h⟩ := h
        refine gd_getR (pc := 16) (kf := 23) X ci6 (by decide) rfl tw_1006 dX6_hasFault_16 hk1 ?_
        refine gd_iload_n (pc := 19) X 3 dX6_hasFault_19 rfl ?_
        refine gd_aload_n (pc := 20) X 0 dX6_hasFault_20 rfl ?_
        refine gd_iload_n (pc := 21) X 1 dX6_hasFault_21 rfl ?_
        refine gd_iconst (pc := 22) X (1) dX6_hasFault_22 (by decide) ?_
        refine gd_isub (pc := 23) X dX6_hasFault_23 ?_
        refine gd_iload_n (pc := 24) X 3 dX6_hasFault_24 rfl ?_
        refine gd_callV (pc := 25) (As := [.int (l1 - 1), .int l3]) (rest := [.int l3, rf (sR S l0 23)]) X (ct_X6_stored l G S l0 (l1 - 1) l3 _ h) mw_X6_stored tw_1132 ci6 rfl hk1 ⟨(Nat.le_of_ble_eq_true rfl), (Nat.le_of_ble_eq_true rfl)⟩ rfl rfl (Nat.le_of_ble_eq_true rfl) dX6_hasFault_25 ⟨Nat.le_of_ble_eq_true rfl, Nat.le_of_ble_eq_true rfl⟩ (kI (fun r3 S2 h => ?_))
        refine gd_wide (k2 := 0) (j2 := 0) (Nat.le_of_ble_eq_true rfl) (Nat.le_of_ble_eq_true rfl) ?_
        obtain ⟨hk4, h⟩ := h
        obtain ⟨hi5, h⟩ := h
        refine gd_iast (pc := 28) X dX6_hasFault_28 hk4 hi5 ?_
        refine gd_topS (fun S6 hS6 => ?_)
        have h := h S6 hS6
        have hk7 : kT S6 (sR S l0 23) = 9 := by rw [hS6]; exact hk4
        obtain ⟨v8, hv8⟩ : ∃ z : Int32, z = l3 + 1 := ⟨_, rfl⟩
        have h := h v8 hv8
        refine gd_iinc (pc := 29) (v := v8) X 3 dX6_hasFault_29 rfl (by rw [hv8]; rfl) (by decide) (E2 := [(3, .int v8), (0, rf l0), (1, .int l1), (2, .int l2)]) rfl ?_
        refine gd_goto (pc := 32) X 9 dX6_hasFault_32 (by decide) ?_
        refine gd_sub [1, 2, 3, 0] rfl ?_
        exact ih _ _ _ _ _ h
  intro h
  refine gd_aload_n (pc := 0) X 0 dX6_hasFault_0 rfl ?_
  obtain ⟨hk1, h⟩ := h
  refine gd_getR (pc := 1) (kf := 16) X ci6 (by decide) rfl tw_999 dX6_hasFault_1 hk1 ?_
  refine gd_iload_n (pc := 4) X 1 dX6_hasFault_4 rfl ?_
  obtain ⟨hk2, h⟩ := h
  obtain ⟨hi3, h⟩ := h
  refine gd_iald (pc := 5) X dX6_hasFault_5 hk2 hi3 ?_
  refine gd_topI (fun v4 hv4 => ?_)
  have h := h v4 hv4
  refine gd_istore_n (pc := 6) X dX6_hasFault_6 (by decide) (E2 := [(2, .int v4), (0, rf a0), (1, .int a1)]) rfl ?_
  refine gd_iconst (pc := 7) X (0) dX6_hasFault_7 (by decide) ?_
  refine gd_istore_n (pc := 8) X dX6_hasFault_8 (by decide) (E2 := [(3, .int 0), (2, .int v4), (0, rf a0), (1, .int a1)]) rfl ?_
  refine gd_sub [2, 3, 1, 0] rfl ?_
  obtain ⟨f9, h⟩ := h
  exact g9 f9 _ _ _ _ _ h
abbrev rm_X6_serialFaults : Room := { frames := 3, cells := 0, slots := 0, locals := 71 }
def b_X6_serialFaults_31 (KH9 : MS → Nat → Int32 → Int32 → Prop) (post : Int32 → MS → Prop) (S : MS) (l0 : Nat) (l1 : Int32) (l2 : Int32) (s0 : Int32) (s1 : Int32) : Prop := ∀ v1 : Int32, v1 = s1 + s0 → ∀ v2 : Int32, v2 = l2 + 1 → KH9 S l0 v1 v2
def b_X6_serialFaults_9 (post : Int32 → MS → Prop) : Nat → MS → Nat → Int32 → Int32 → Prop
  | 0 => fun _ _ _ _ => False
  | f + 1 => fun S l0 l1 l2 => kT S l0 = 7 ∧ (((sI S l0 14) < l2 → post l1 S) ∧ (¬ (sI S l0 14) < l2 → w_X6_hasFault S l0 l2 (fun r3 S2 => ((r3 = 0 → b_X6_serialFaults_31 (b_X6_serialFaults_9 post f) post S2 l0 l1 l2 0 l1) ∧ (¬ r3 = 0 → b_X6_serialFaults_31 (b_X6_serialFaults_9 post f) post S2 l0 l1 l2 1 l1)))))
def w_X6_serialFaults (S : MS) (a0 : Nat) (post : Int32 → MS → Prop) : Prop := kT S a0 = 7 ∧ ∀ S2 : MS, S2 = pI S a0 0 0 → ∃ f9, b_X6_serialFaults_9 post f9 S2 a0 0 1
set_option maxHeartbeats 4000000 in
set_option maxRecDepth 100000 in
theorem ct_X6_serialFaults (l : Launch) (G : GP) (S : MS) (a0 : Nat) (post : Int32 → MS → Prop) (h : w_X6_serialFaults S a0 post) : MetM l yX6_serialFaults cX6_serialFaults 3 (some .int) rm_X6_serialFaults [rf a0] G S (pI_ post) := by
  refine met_of (by decide) (cat1_r cat1_n) (Nat.le_of_ble_eq_true rfl) ?_
  intro p e s m args below meth c X hr hlk hin
  revert h
  have g31 : ∀ (KH9 : MS → Nat → Int32 → Int32 → Prop) (hKH9 : ∀ (S : MS) (l0 : Nat) (l1 : Int32) (l2 : Int32), KH9 S l0 l1 l2 → Gd p l e rm_X6_serialFaults s m args below meth c 3 G (MQ below (QcM G (pI_ post)) args s rm_X6_serialFaults.cells rm_X6_serialFaults.slots (Ab G)) 0 0 S 9 [(0, rf l0), (1, .int l1), (2, .int l2)] []) (S : MS) (l0 : Nat) (l1 : Int32) (l2 : Int32) (s0 : Int32) (s1 : Int32), b_X6_serialFaults_31 KH9 post S l0 l1 l2 s0 s1 → Gd p l e rm_X6_serialFaults s m args below meth c 3 G (MQ below (QcM G (pI_ post)) args s rm_X6_serialFaults.cells rm_X6_serialFaults.slots (Ab G)) 0 0 S 31 [(0, rf l0), (1, .int l1), (2, .int l2)] [.int s0, .int s1] := by
    intro KH9 hKH9 S l0 l1 l2 s0 s1 h
    refine gd_iadd (pc := 31) X dX6_serialFaults_31 ?_
    refine gd_topI (fun v1 hv1 => ?_)
    have h := h v1 hv1
    refine gd_istore_n (pc := 32) X dX6_serialFaults_32 (by decide) (E2 := [(1, .int v1), (0, rf l0), (2, .int l2)]) (by simp [rf_cat, lv1, int_cat] <;> decide) ?_
    obtain ⟨v2, hv2⟩ : ∃ z : Int32, z = l2 + 1 := ⟨_, rfl⟩
    have h := h v2 hv2
    refine gd_iinc (pc := 33) (v := v2) X 2 dX6_serialFaults_33 rfl (by rw [hv2]; rfl) (by decide) (E2 := [(2, .int v2), (1, .int v1), (0, rf l0)]) rfl ?_
    refine gd_goto (pc := 36) X 9 dX6_serialFaults_36 (by decide) ?_
    refine gd_sub [2, 1, 0] rfl ?_
    exact hKH9 _ _ _ _ h
  have g9 : ∀ (f : Nat) (S : MS) (l0 : Nat) (l1 : Int32) (l2 : Int32), b_X6_serialFaults_9 post f S l0 l1 l2 → Gd p l e rm_X6_serialFaults s m args below meth c 3 G (MQ below (QcM G (pI_ post)) args s rm_X6_serialFaults.cells rm_X6_serialFaults.slots (Ab G)) 0 0 S 9 [(0, rf l0), (1, .int l1), (2, .int l2)] [] := by
    intro f
    induction f with
    | zero => intro S l0 l1 l2 h; exact h.elim
    | succ f ih =>
      intro S l0 l1 l2 h
      refine gd_iload_n (pc := 9) X 2 dX6_serialFaults_9 rfl ?_
      refine gd_aload_n (pc := 10) X 0 dX6_serialFaults_10 rfl ?_
      obtain ⟨hk1, h⟩ := h
      refine gd_getI (pc := 11) (kf := 14) X ci6 (by decide) rfl tw_997 dX6_serialFaults_11 hk1 ?_
      refine gd_icmp_gt (pc := 14) X 39 dX6_serialFaults_14 (by decide) (fun hc5 => ?_) (fun hc5 => ?_)
      · have h := h.1 hc5
        refine gd_iload_n (pc := 39) X 1 dX6_serialFaults_39 rfl ?_
        exact (gd_ret_i (pc := 40) X hr hlk rfl (by decide) (by decide) dX6_serialFaults_40 ⟨_, rfl, h⟩)
      · have h := h.2 hc5
        refine gd_iload_n (pc := 17) X 1 dX6_serialFaults_17 rfl ?_
        refine gd_aload_n (pc := 18) X 0 dX6_serialFaults_18 rfl ?_
        refine gd_iload_n (pc := 19) X 2 dX6_serialFaults_19 rfl ?_
        refine gd_callV (pc := 20) (As := [.int l2]) (rest := [.int l1]) X (ct_X6_hasFault l G S l0 l2 _ h) mw_X6_hasFault tw_1336 ci6 rfl hk1 ⟨(Nat.le_of_ble_eq_true rfl), (Nat.le_of_ble_eq_true rfl)⟩ rfl rfl (Nat.le_of_ble_eq_true rfl) dX6_serialFaults_20 ⟨Nat.le_of_ble_eq_true rfl, Nat.le_of_ble_eq_true rfl⟩ (kI (fun r3 S2 h => ?_))
        refine gd_wide (k2 := 0) (j2 := 0) (Nat.le_of_ble_eq_true rfl) (Nat.le_of_ble_eq_true rfl) ?_
        refine gd_if_eq (pc := 23) X 30 dX6_serialFaults_23 (by decide) (fun hc4 => ?_) (fun hc4 => ?_)
        · have h := h.1 hc4
          refine gd_iconst (pc := 30) X (0) dX6_serialFaults_30 (by decide) ?_
          exact g31 _ ih _ _ _ _ _ _ h
        · have h := h.2 hc4
          refine gd_iconst (pc := 26) X (1) dX6_serialFaults_26 (by decide) ?_
          refine gd_goto (pc := 27) X 31 dX6_serialFaults_27 (by decide) ?_
          exact g31 _ ih _ _ _ _ _ _ h
  intro h
  refine gd_aload_n (pc := 0) X 0 dX6_serialFaults_0 rfl ?_
  refine gd_iconst (pc := 1) X (0) dX6_serialFaults_1 (by decide) ?_
  obtain ⟨hk1, h⟩ := h
  refine gd_putI (pc := 2) (kf := 0) X ci6 (by decide) rfl rfl tw_983 rfl rfl dX6_serialFaults_2 hk1 ?_
  refine gd_topS (fun S2 hS2 => ?_)
  have h := h S2 hS2
  have hk3 : kT S2 a0 = 7 := by rw [hS2]; exact hk1
  refine gd_iconst (pc := 5) X (0) dX6_serialFaults_5 (by decide) ?_
  refine gd_istore_n (pc := 6) X dX6_serialFaults_6 (by decide) (E2 := [(1, .int 0), (0, rf a0)]) (by simp [rf_cat, lv1, int_cat] <;> decide) ?_
  refine gd_iconst (pc := 7) X (1) dX6_serialFaults_7 (by decide) ?_
  refine gd_istore_n (pc := 8) X dX6_serialFaults_8 (by decide) (E2 := [(2, .int 1), (1, .int 0), (0, rf a0)]) rfl ?_
  refine gd_sub [2, 1, 0] rfl ?_
  obtain ⟨f9, h⟩ := h
  exact g9 f9 _ _ _ _ h
abbrev rm_X6_rewind : Room := { frames := 1, cells := 0, slots := 0, locals := 22 }
def b_X6_rewind_52 (post : Int32 → MS → Prop) : Nat → MS → Nat → Int32 → Int32 → Int32 → Prop
  | 0 => fun _ _ _ _ _ => False
  | f + 1 => fun S l0 l1 l2 l3 => kT S l0 = 7 ∧ (((sI S l0 14) < l3 → ∀ S2 : MS, S2 = pI S l0 14 l1 → post l2 S2) ∧ (¬ (sI S l0 14) < l3 → kT S (sR S l0 16) = 9 ∧ vp_in l3 (kL S (sR S l0 16)) ∧ w_X6_endWith S l0 (sI S (sR S l0 16) (ix l3)) 6 (fun S6 => ∀ v8 : Int32, v8 = l3 + 1 → b_X6_rewind_52 post f S6 l0 l1 l2 v8)))
def b_X6_rewind_29 (post : Int32 → MS → Prop) (S : MS) (l0 : Nat) (l1 : Int32) (s0 : Int32) (s1 : Nat) : Prop := kT S s1 = 7 ∧ ∀ S2 : MS, S2 = pI S s1 0 s0 → kT S2 l0 = 7 ∧ (((sI S2 l0 0) = 0 → ∀ v5 : Int32, v5 = (sI S2 l0 14) - l1 → ∀ v6 : Int32, v6 = l1 + 1 → ∃ f52, b_X6_rewind_52 post f52 S2 l0 l1 v5 v6) ∧ (¬ (sI S2 l0 0) = 0 → post 0 S2))
def w_X6_rewind (S : MS) (a0 : Nat) (a1 : Int32) (post : Int32 → MS → Prop) : Prop := kT S a0 = 7 ∧ w_X6_isIn S a1 0 (sI S a0 14) (fun r3 S2 => ((¬ r3 = 0 → kT S2 a0 = 7 ∧ w_X6_activeNow S2 a0 (fun r6 S5 => ((r6 ≤ 0 → b_X6_rewind_29 post S5 a0 a1 0 a0) ∧ (¬ r6 ≤ 0 → b_X6_rewind_29 post S5 a0 a1 2 a0)))) ∧ (r3 = 0 → b_X6_rewind_29 post S2 a0 a1 1 a0)))
set_option maxHeartbeats 4000000 in
set_option maxRecDepth 100000 in
theorem ct_X6_rewind (l : Launch) (G : GP) (S : MS) (a0 : Nat) (a1 : Int32) (post : Int32 → MS → Prop) (h : w_X6_rewind S a0 a1 post) : MetM l yX6_rewind cX6_rewind 4 (some .int) rm_X6_rewind [rf a0, .int a1] G S (pI_ post) := by
  refine met_of (by decide) (cat1_r (cat1_i cat1_n)) (Nat.le_of_ble_eq_true rfl) ?_
  intro p e s m args below meth c X hr hlk hin
  revert h
  have g52 : ∀ (f : Nat) (S : MS) (l0 : Nat) (l1 : Int32) (l2 : Int32) (l3 : Int32), b_X6_rewind_52 post f S l0 l1 l2 l3 → Gd p l e rm_X6_rewind s m args below meth c 4 G (MQ below (QcM G (pI_ post)) args s rm_X6_rewind.cells rm_X6_rewind.slots (Ab G)) 0 0 S 52 [(0, rf l0), (1, .int l1), (2, .int l2), (3, .int l3)] [] := by
    intro f
    induction f with
    | zero => intro S l0 l1 l2 l3 h; exact h.elim
    | succ f ih =>
      intro S l0 l1 l2 l3 h
      refine gd_iload_n (pc := 52) X 3 dX6_rewind_52 rfl ?_
      refine gd_aload_n (pc := 53) X 0 dX6_rewind_53 rfl ?_
      obtain ⟨hk1, h⟩ := h
      refine gd_getI (pc := 54) (kf := 14) X ci6 (by decide) rfl tw_997 dX6_rewind_54 hk1 ?_
      refine gd_icmp_gt (pc := 57) X 78 dX6_rewind_57 (by decide) (fun hc9 => ?_) (fun hc9 => ?_)
      · have h := h.1 hc9
        refine gd_aload_n (pc := 78) X 0 dX6_rewind_78 rfl ?_
        refine gd_iload_n (pc := 79) X 1 dX6_rewind_79 rfl ?_
        refine gd_putI (pc := 80) (kf := 14) X ci6 (by decide) rfl rfl tw_997 rfl rfl dX6_rewind_80 hk1 ?_
        refine gd_topS (fun S2 hS2 => ?_)
        have h := h S2 hS2
        have hk3 : kT S2 l0 = 7 := by rw [hS2]; exact hk1
        refine gd_iload_n (pc := 83) X 2 dX6_rewind_83 rfl ?_
        exact (gd_ret_i (pc := 84) X hr hlk rfl (by decide) (by decide) dX6_rewind_84 ⟨_, rfl, h⟩)
      · have h := h.2 hc9
        refine gd_aload_n (pc := 60) X 0 dX6_rewind_60 rfl ?_
        refine gd_aload_n (pc := 61) X 0 dX6_rewind_61 rfl ?_
        refine gd_getR (pc := 62) (kf := 16) X ci6 (by decide) rfl tw_999 dX6_rewind_62 hk1 ?_
        refine gd_iload_n (pc := 65) X 3 dX6_rewind_65 rfl ?_
        obtain ⟨hk4, h⟩ := h
        obtain ⟨hi5, h⟩ := h
        refine gd_iald (pc := 66) X dX6_rewind_66 hk4 hi5 ?_
        refine gd_bipush (pc := 67) X (6) dX6_rewind_67 (by decide) ?_
        refine gd_callV (pc := 69) (As := [.int (sI S (sR S l0 16) (ix l3)), .int 6]) (rest := []) X (ct_X6_endWith l G S l0 (sI S (sR S l0 16) (ix l3)) 6 _ h) mw_X6_endWith tw_1239 ci6 rfl hk1 ⟨(Nat.le_of_ble_eq_true rfl), (Nat.le_of_ble_eq_true rfl)⟩ rfl rfl (Nat.le_of_ble_eq_true rfl) dX6_rewind_69 ⟨Nat.le_of_ble_eq_true rfl, Nat.le_of_ble_eq_true rfl⟩ (kV (fun S6 h => ?_))
        refine gd_wide (k2 := 0) (j2 := 0) (Nat.le_of_ble_eq_true rfl) (Nat.le_of_ble_eq_true rfl) ?_
        obtain ⟨v8, hv8⟩ : ∃ z : Int32, z = l3 + 1 := ⟨_, rfl⟩
        have h := h v8 hv8
        refine gd_iinc (pc := 72) (v := v8) X 3 dX6_rewind_72 rfl (by rw [hv8]; rfl) (by decide) (E2 := [(3, .int v8), (0, rf l0), (1, .int l1), (2, .int l2)]) rfl ?_
        refine gd_goto (pc := 75) X 52 dX6_rewind_75 (by decide) ?_
        refine gd_sub [1, 2, 3, 0] rfl ?_
        exact ih _ _ _ _ _ h
  have g29 : ∀ (S : MS) (l0 : Nat) (l1 : Int32) (s0 : Int32) (s1 : Nat), b_X6_rewind_29 post S l0 l1 s0 s1 → Gd p l e rm_X6_rewind s m args below meth c 4 G (MQ below (QcM G (pI_ post)) args s rm_X6_rewind.cells rm_X6_rewind.slots (Ab G)) 0 0 S 29 [(0, rf l0), (1, .int l1)] [.int s0, rf s1] := by
    intro S l0 l1 s0 s1 h
    obtain ⟨hk1, h⟩ := h
    refine gd_putI (pc := 29) (kf := 0) X ci6 (by decide) rfl rfl tw_983 rfl rfl dX6_rewind_29 hk1 ?_
    refine gd_topS (fun S2 hS2 => ?_)
    have h := h S2 hS2
    have hk3 : kT S2 s1 = 7 := by rw [hS2]; exact hk1
    refine gd_aload_n (pc := 32) X 0 dX6_rewind_32 rfl ?_
    obtain ⟨hk4, h⟩ := h
    refine gd_getI (pc := 33) (kf := 0) X ci6 (by decide) rfl tw_983 dX6_rewind_33 hk4 ?_
    refine gd_if_eq (pc := 36) X 41 dX6_rewind_36 (by decide) (fun hc7 => ?_) (fun hc7 => ?_)
    · have h := h.1 hc7
      refine gd_aload_n (pc := 41) X 0 dX6_rewind_41 rfl ?_
      refine gd_getI (pc := 42) (kf := 14) X ci6 (by decide) rfl tw_997 dX6_rewind_42 hk4 ?_
      refine gd_iload_n (pc := 45) X 1 dX6_rewind_45 rfl ?_
      refine gd_isub (pc := 46) X dX6_rewind_46 ?_
      refine gd_topI (fun v5 hv5 => ?_)
      have h := h v5 hv5
      refine gd_istore_n (pc := 47) X dX6_rewind_47 (by decide) (E2 := [(2, .int v5), (0, rf l0), (1, .int l1)]) rfl ?_
      refine gd_iload_n (pc := 48) X 2 dX6_rewind_48 rfl ?_
      refine gd_iconst (pc := 49) X (1) dX6_rewind_49 (by decide) ?_
      refine gd_iadd (pc := 50) X dX6_rewind_50 ?_
      refine gd_topI (fun v6 hv6 => ?_)
      have h := h v6 hv6
      refine gd_istore_n (pc := 51) X dX6_rewind_51 (by decide) (E2 := [(3, .int v6), (2, .int v5), (0, rf l0), (1, .int l1)]) rfl ?_
      refine gd_sub [2, 3, 1, 0] rfl ?_
      obtain ⟨f52, h⟩ := h
      exact g52 f52 _ _ _ _ _ h
    · have h := h.2 hc7
      refine gd_iconst (pc := 39) X (0) dX6_rewind_39 (by decide) ?_
      exact (gd_ret_i (pc := 40) X hr hlk rfl (by decide) (by decide) dX6_rewind_40 ⟨_, rfl, h⟩)
  intro h
  refine gd_aload_n (pc := 0) X 0 dX6_rewind_0 rfl ?_
  refine gd_iload_n (pc := 1) X 1 dX6_rewind_1 rfl ?_
  refine gd_iconst (pc := 2) X (0) dX6_rewind_2 (by decide) ?_
  refine gd_aload_n (pc := 3) X 0 dX6_rewind_3 rfl ?_
  obtain ⟨hk1, h⟩ := h
  refine gd_getI (pc := 4) (kf := 14) X ci6 (by decide) rfl tw_997 dX6_rewind_4 hk1 ?_
  refine gd_callS (pc := 7) (As := [.int a1, .int 0, .int (sI S a0 14)]) (rest := [rf a0]) X (ct_X6_isIn l G S a1 0 (sI S a0 14) _ h) mw_X6_isIn tw_1082 ⟨(Nat.le_of_ble_eq_true rfl), (Nat.le_of_ble_eq_true rfl)⟩ rfl rfl (Nat.le_of_ble_eq_true rfl) dX6_rewind_7 ⟨Nat.le_of_ble_eq_true rfl, Nat.le_of_ble_eq_true rfl⟩ (kI (fun r3 S2 h => ?_))
  refine gd_wide (k2 := 0) (j2 := 0) (Nat.le_of_ble_eq_true rfl) (Nat.le_of_ble_eq_true rfl) ?_
  refine gd_if_ne (pc := 10) X 17 dX6_rewind_10 (by decide) (fun hc8 => ?_) (fun hc8 => ?_)
  · have h := h.1 hc8
    refine gd_aload_n (pc := 17) X 0 dX6_rewind_17 rfl ?_
    obtain ⟨hk4, h⟩ := h
    refine gd_callV (pc := 18) (As := []) (rest := [rf a0]) X (ct_X6_activeNow l G S2 a0 _ h) mw_X6_activeNow tw_1085 ci6 rfl hk4 ⟨(Nat.le_of_ble_eq_true rfl), (Nat.le_of_ble_eq_true rfl)⟩ rfl rfl (Nat.le_of_ble_eq_true rfl) dX6_rewind_18 ⟨Nat.le_of_ble_eq_true rfl, Nat.le_of_ble_eq_true rfl⟩ (kI (fun r6 S5 h => ?_))
    refine gd_wide (k2 := 0) (j2 := 0) (Nat.le_of_ble_eq_true rfl) (Nat.le_of_ble_eq_true rfl) ?_
    refine gd_if_le (pc := 21) X 28 dX6_rewind_21 (by decide) (fun hc7 => ?_) (fun hc7 => ?_)
    · have h := h.1 hc7
      refine gd_iconst (pc := 28) X (0) dX6_rewind_28 (by decide) ?_
      exact g29 _ _ _ _ _ h
    · have h := h.2 hc7
      refine gd_iconst (pc := 24) X (2) dX6_rewind_24 (by decide) ?_
      refine gd_goto (pc := 25) X 29 dX6_rewind_25 (by decide) ?_
      exact g29 _ _ _ _ _ h
  · have h := h.2 hc8
    refine gd_iconst (pc := 13) X (1) dX6_rewind_13 (by decide) ?_
    refine gd_goto (pc := 14) X 29 dX6_rewind_14 (by decide) ?_
    exact g29 _ _ _ _ _ h
abbrev rm_X6_addConstraint : Room := { frames := 3, cells := 0, slots := 0, locals := 72 }
def b_X6_addConstraint_22 (post : Int32 → MS → Prop) (S : MS) (l0 : Nat) (l1 : Int32) (l2 : Int32) (l3 : Int32) (l4 : Int32) : Prop := kT S l0 = 7 ∧ w_X6_fail S l0 1 (fun r3 S2 => post r3 S2)
def w_X6_addConstraint (S : MS) (a0 : Nat) (a1 : Int32) (a2 : Int32) (a3 : Int32) (a4 : Int32) (post : Int32 → MS → Prop) : Prop := kT S a0 = 7 ∧ ∀ S2 : MS, S2 = pI S a0 0 0 → w_X6_isIn S2 a1 0 2 (fun r5 S4 => ((r5 = 0 → b_X6_addConstraint_22 post S4 a0 a1 a2 a3 a4) ∧ (¬ r5 = 0 → w_X6_isRange S4 a2 a3 (fun r7 S6 => ((¬ r7 = 0 → kT S6 a0 = 7 ∧ ((¬ (sI S6 a0 21) = 3 → ∀ v9 : Int32, v9 = 4 * (sI S6 a0 21) → kT S6 (sR S6 a0 20) = 9 ∧ vp_in v9 (kL S6 (sR S6 a0 20)) ∧ ∀ S12 : MS, S12 = pI S6 (sR S6 a0 20) (ix v9) a1 → kT S12 (sR S12 a0 20) = 9 ∧ vp_in (v9 + 1) (kL S12 (sR S12 a0 20)) ∧ ∀ S17 : MS, S17 = pI S12 (sR S12 a0 20) (ix (v9 + 1)) a2 → kT S17 (sR S17 a0 20) = 9 ∧ vp_in (v9 + 2) (kL S17 (sR S17 a0 20)) ∧ ∀ S23 : MS, S23 = pI S17 (sR S17 a0 20) (ix (v9 + 2)) a3 → kT S23 (sR S23 a0 20) = 9 ∧ vp_in (v9 + 3) (kL S23 (sR S23 a0 20)) ∧ ∀ S30 : MS, S30 = pI S23 (sR S23 a0 20) (ix (v9 + 3)) a4 → w_X6_isViolated S30 a0 (sI S30 a0 21) ((-1)) (fun r37 S36 => ((r37 = 0 → kT S36 a0 = 7 ∧ ∀ S39 : MS, S39 = pI S36 a0 21 ((sI S36 a0 21) + 1) → post ((sI S39 a0 21) - 1) S39) ∧ (¬ r37 = 0 → kT S36 a0 = 7 ∧ w_X6_fail S36 a0 2 (fun r43 S42 => post r43 S42))))) ∧ ((sI S6 a0 21) = 3 → w_X6_fail S6 a0 2 (fun r46 S45 => post r46 S45)))) ∧ (r7 = 0 → b_X6_addConstraint_22 post S6 a0 a1 a2 a3 a4))))))
set_option maxHeartbeats 4000000 in
set_option maxRecDepth 100000 in
theorem ct_X6_addConstraint (l : Launch) (G : GP) (S : MS) (a0 : Nat) (a1 : Int32) (a2 : Int32) (a3 : Int32) (a4 : Int32) (post : Int32 → MS → Prop) (h : w_X6_addConstraint S a0 a1 a2 a3 a4 post) : MetM l yX6_addConstraint cX6_addConstraint 6 (some .int) rm_X6_addConstraint [rf a0, .int a1, .int a2, .int a3, .int a4] G S (pI_ post) := by
  refine met_of (by decide) (cat1_r (cat1_i (cat1_i (cat1_i (cat1_i cat1_n))))) (Nat.le_of_ble_eq_true rfl) ?_
  intro p e s m args below meth c X hr hlk hin
  revert h
  have g22 : ∀ (S : MS) (l0 : Nat) (l1 : Int32) (l2 : Int32) (l3 : Int32) (l4 : Int32), b_X6_addConstraint_22 post S l0 l1 l2 l3 l4 → Gd p l e rm_X6_addConstraint s m args below meth c 6 G (MQ below (QcM G (pI_ post)) args s rm_X6_addConstraint.cells rm_X6_addConstraint.slots (Ab G)) 0 0 S 22 [(0, rf l0), (1, .int l1), (2, .int l2), (3, .int l3), (4, .int l4)] [] := by
    intro S l0 l1 l2 l3 l4 h
    refine gd_aload_n (pc := 22) X 0 dX6_addConstraint_22 rfl ?_
    refine gd_iconst (pc := 23) X (1) dX6_addConstraint_23 (by decide) ?_
    obtain ⟨hk1, h⟩ := h
    refine gd_callV (pc := 24) (As := [.int 1]) (rest := []) X (ct_X6_fail l G S l0 1 _ h) mw_X6_fail tw_1101 ci6 rfl hk1 ⟨(Nat.le_of_ble_eq_true rfl), (Nat.le_of_ble_eq_true rfl)⟩ rfl rfl (Nat.le_of_ble_eq_true rfl) dX6_addConstraint_24 ⟨Nat.le_of_ble_eq_true rfl, Nat.le_of_ble_eq_true rfl⟩ (kI (fun r3 S2 h => ?_))
    refine gd_wide (k2 := 0) (j2 := 0) (Nat.le_of_ble_eq_true rfl) (Nat.le_of_ble_eq_true rfl) ?_
    exact (gd_ret_i (pc := 27) X hr hlk rfl (by decide) (by decide) dX6_addConstraint_27 ⟨_, rfl, h⟩)
  intro h
  refine gd_aload_n (pc := 0) X 0 dX6_addConstraint_0 rfl ?_
  refine gd_iconst (pc := 1) X (0) dX6_addConstraint_1 (by decide) ?_
  obtain ⟨hk1, h⟩ := h
  refine gd_putI (pc := 2) (kf := 0) X ci6 (by decide) rfl rfl tw_983 rfl rfl dX6_addConstraint_2 hk1 ?_
  refine gd_topS (fun S2 hS2 => ?_)
  have h := h S2 hS2
  have hk3 : kT S2 a0 = 7 := by rw [hS2]; exact hk1
  refine gd_iload_n (pc := 5) X 1 dX6_addConstraint_5 rfl ?_
  refine gd_iconst (pc := 6) X (0) dX6_addConstraint_6 (by decide) ?_
  refine gd_iconst (pc := 7) X (2) dX6_addConstraint_7 (by decide) ?_
  refine gd_callS (pc := 8) (As := [.int a1, .int 0, .int 2]) (rest := []) X (ct_X6_isIn l G S2 a1 0 2 _ h) mw_X6_isIn tw_1082 ⟨(Nat.le_of_ble_eq_true rfl), (Nat.le_of_ble_eq_true rfl)⟩ rfl rfl (Nat.le_of_ble_eq_true rfl) dX6_addConstraint_8 ⟨Nat.le_of_ble_eq_true rfl, Nat.le_of_ble_eq_true rfl⟩ (kI (fun r5 S4 h => ?_))
  refine gd_wide (k2 := 0) (j2 := 0) (Nat.le_of_ble_eq_true rfl) (Nat.le_of_ble_eq_true rfl) ?_
  refine gd_if_eq (pc := 11) X 22 dX6_addConstraint_11 (by decide) (fun hc49 => ?_) (fun hc49 => ?_)
  · have h := h.1 hc49
    exact g22 _ _ _ _ _ _ h
  · have h := h.2 hc49
    refine gd_iload_n (pc := 14) X 2 dX6_addConstraint_14 rfl ?_
    refine gd_iload_n (pc := 15) X 3 dX6_addConstraint_15 rfl ?_
    refine gd_callS (pc := 16) (As := [.int a2, .int a3]) (rest := []) X (ct_X6_isRange l G S4 a2 a3 _ h) mw_X6_isRange tw_1144 ⟨(Nat.le_of_ble_eq_true rfl), (Nat.le_of_ble_eq_true rfl)⟩ rfl rfl (Nat.le_of_ble_eq_true rfl) dX6_addConstraint_16 ⟨Nat.le_of_ble_eq_true rfl, Nat.le_of_ble_eq_true rfl⟩ (kI (fun r7 S6 h => ?_))
    refine gd_wide (k2 := 0) (j2 := 0) (Nat.le_of_ble_eq_true rfl) (Nat.le_of_ble_eq_true rfl) ?_
    refine gd_if_ne (pc := 19) X 28 dX6_addConstraint_19 (by decide) (fun hc48 => ?_) (fun hc48 => ?_)
    · have h := h.1 hc48
      refine gd_aload_n (pc := 28) X 0 dX6_addConstraint_28 rfl ?_
      obtain ⟨hk8, h⟩ := h
      refine gd_getI (pc := 29) (kf := 21) X ci6 (by decide) rfl tw_1004 dX6_addConstraint_29 hk8 ?_
      refine gd_iconst (pc := 32) X (3) dX6_addConstraint_32 (by decide) ?_
      refine gd_icmp_ne (pc := 33) X 42 dX6_addConstraint_33 (by decide) (fun hc47 => ?_) (fun hc47 => ?_)
      · have h := h.1 hc47
        refine gd_iconst (pc := 42) X (4) dX6_addConstraint_42 (by decide) ?_
        refine gd_aload_n (pc := 43) X 0 dX6_addConstraint_43 rfl ?_
        refine gd_getI (pc := 44) (kf := 21) X ci6 (by decide) rfl tw_1004 dX6_addConstraint_44 hk8 ?_
        refine gd_imul (pc := 47) X dX6_addConstraint_47 ?_
        refine gd_topI (fun v9 hv9 => ?_)
        have h := h v9 hv9
        refine gd_istore (pc := 48) X dX6_addConstraint_48 (by decide) (E2 := [(5, .int v9), (0, rf a0), (1, .int a1), (2, .int a2), (3, .int a3), (4, .int a4)]) rfl ?_
        refine gd_aload_n (pc := 50) X 1 dX6_addConstraint_50 rfl ?_
        refine gd_getR (pc := 51) (kf := 20) X ci6 (by decide) rfl tw_1003 dX6_addConstraint_51 hk8 ?_
        refine gd_iload (pc := 54) X 0 dX6_addConstraint_54 rfl ?_
        refine gd_iload_n (pc := 56) X 2 dX6_addConstraint_56 rfl ?_
        obtain ⟨hk10, h⟩ := h
        obtain ⟨hi11, h⟩ := h
        refine gd_iast (pc := 57) X dX6_addConstraint_57 hk10 hi11 ?_
        refine gd_topS (fun S12 hS12 => ?_)
        have h := h S12 hS12
        have hk13 : kT S12 a0 = 7 := by rw [hS12]; exact hk8
        have hk14 : kT S12 (sR S6 a0 20) = 9 := by rw [hS12]; exact hk10
        refine gd_aload_n (pc := 58) X 1 dX6_addConstraint_58 rfl ?_
        refine gd_getR (pc := 59) (kf := 20) X ci6 (by decide) rfl tw_1003 dX6_addConstraint_59 hk13 ?_
        refine gd_iload (pc := 62) X 0 dX6_addConstraint_62 rfl ?_
        refine gd_iconst (pc := 64) X (1) dX6_addConstraint_64 (by decide) ?_
        refine gd_iadd (pc := 65) X dX6_addConstraint_65 ?_
        refine gd_iload_n (pc := 66) X 3 dX6_addConstraint_66 rfl ?_
        obtain ⟨hk15, h⟩ := h
        obtain ⟨hi16, h⟩ := h
        refine gd_iast (pc := 67) X dX6_addConstraint_67 hk15 hi16 ?_
        refine gd_topS (fun S17 hS17 => ?_)
        have h := h S17 hS17
        have hk18 : kT S17 a0 = 7 := by rw [hS17]; exact hk13
        have hk19 : kT S17 (sR S6 a0 20) = 9 := by rw [hS17]; exact hk14
        have hk20 : kT S17 (sR S12 a0 20) = 9 := by rw [hS17]; exact hk15
        refine gd_aload_n (pc := 68) X 1 dX6_addConstraint_68 rfl ?_
        refine gd_getR (pc := 69) (kf := 20) X ci6 (by decide) rfl tw_1003 dX6_addConstraint_69 hk18 ?_
        refine gd_iload (pc := 72) X 0 dX6_addConstraint_72 rfl ?_
        refine gd_iconst (pc := 74) X (2) dX6_addConstraint_74 (by decide) ?_
        refine gd_iadd (pc := 75) X dX6_addConstraint_75 ?_
        refine gd_iload_n (pc := 76) X 4 dX6_addConstraint_76 rfl ?_
        obtain ⟨hk21, h⟩ := h
        obtain ⟨hi22, h⟩ := h
        refine gd_iast (pc := 77) X dX6_addConstraint_77 hk21 hi22 ?_
        refine gd_topS (fun S23 hS23 => ?_)
        have h := h S23 hS23
        have hk24 : kT S23 a0 = 7 := by rw [hS23]; exact hk18
        have hk25 : kT S23 (sR S6 a0 20) = 9 := by rw [hS23]; exact hk19
        have hk26 : kT S23 (sR S12 a0 20) = 9 := by rw [hS23]; exact hk20
        have hk27 : kT S23 (sR S17 a0 20) = 9 := by rw [hS23]; exact hk21
        refine gd_aload_n (pc := 78) X 1 dX6_addConstraint_78 rfl ?_
        refine gd_getR (pc := 79) (kf := 20) X ci6 (by decide) rfl tw_1003 dX6_addConstraint_79 hk24 ?_
        refine gd_iload (pc := 82) X 0 dX6_addConstraint_82 rfl ?_
        refine gd_iconst (pc := 84) X (3) dX6_addConstraint_84 (by decide) ?_
        refine gd_iadd (pc := 85) X dX6_addConstraint_85 ?_
        refine gd_iload (pc := 86) X 5 dX6_addConstraint_86 rfl ?_
        obtain ⟨hk28, h⟩ := h
        obtain ⟨hi29, h⟩ := h
        refine gd_iast (pc := 88) X dX6_addConstraint_88 hk28 hi29 ?_
        refine gd_topS (fun S30 hS30 => ?_)
        have h := h S30 hS30
        have hk31 : kT S30 a0 = 7 := by rw [hS30]; exact hk24
        have hk32 : kT S30 (sR S6 a0 20) = 9 := by rw [hS30]; exact hk25
        have hk33 : kT S30 (sR S12 a0 20) = 9 := by rw [hS30]; exact hk26
        have hk34 : kT S30 (sR S17 a0 20) = 9 := by rw [hS30]; exact hk27
        have hk35 : kT S30 (sR S23 a0 20) = 9 := by rw [hS30]; exact hk28
        refine gd_aload_n (pc := 89) X 1 dX6_addConstraint_89 rfl ?_
        refine gd_aload_n (pc := 90) X 1 dX6_addConstraint_90 rfl ?_
        refine gd_getI (pc := 91) (kf := 21) X ci6 (by decide) rfl tw_1004 dX6_addConstraint_91 hk31 ?_
        refine gd_iconst (pc := 94) X (-1) dX6_addConstraint_94 (by decide) ?_
        refine gd_callV (pc := 95) (As := [.int (sI S30 a0 21), .int ((-1))]) (rest := []) X (ct_X6_isViolated l G S30 a0 (sI S30 a0 21) ((-1)) _ h) mw_X6_isViolated tw_1235 ci6 rfl hk31 ⟨(Nat.le_of_ble_eq_true rfl), (Nat.le_of_ble_eq_true rfl)⟩ rfl rfl (Nat.le_of_ble_eq_true rfl) dX6_addConstraint_95 ⟨Nat.le_of_ble_eq_true rfl, Nat.le_of_ble_eq_true rfl⟩ (kI (fun r37 S36 h => ?_))
        refine gd_wide (k2 := 0) (j2 := 0) (Nat.le_of_ble_eq_true rfl) (Nat.le_of_ble_eq_true rfl) ?_
        refine gd_if_eq (pc := 98) X 107 dX6_addConstraint_98 (by decide) (fun hc44 => ?_) (fun hc44 => ?_)
        · have h := h.1 hc44
          refine gd_aload_n (pc := 107) X 1 dX6_addConstraint_107 rfl ?_
          refine gd_dupR (pc := 108) X dX6_addConstraint_108 ?_
          obtain ⟨hk38, h⟩ := h
          refine gd_getI (pc := 109) (kf := 21) X ci6 (by decide) rfl tw_1004 dX6_addConstraint_109 hk38 ?_
          refine gd_iconst (pc := 112) X (1) dX6_addConstraint_112 (by decide) ?_
          refine gd_iadd (pc := 113) X dX6_addConstraint_113 ?_
          refine gd_putI (pc := 114) (kf := 21) X ci6 (by decide) rfl rfl tw_1004 rfl rfl dX6_addConstraint_114 hk38 ?_
          refine gd_topS (fun S39 hS39 => ?_)
          have h := h S39 hS39
          have hk40 : kT S39 a0 = 7 := by rw [hS39]; exact hk38
          refine gd_aload_n (pc := 117) X 1 dX6_addConstraint_117 rfl ?_
          refine gd_getI (pc := 118) (kf := 21) X ci6 (by decide) rfl tw_1004 dX6_addConstraint_118 hk40 ?_
          refine gd_iconst (pc := 121) X (1) dX6_addConstraint_121 (by decide) ?_
          refine gd_isub (pc := 122) X dX6_addConstraint_122 ?_
          exact (gd_ret_i (pc := 123) X hr hlk rfl (by decide) (by decide) dX6_addConstraint_123 ⟨_, rfl, h⟩)
        · have h := h.2 hc44
          refine gd_aload_n (pc := 101) X 1 dX6_addConstraint_101 rfl ?_
          refine gd_iconst (pc := 102) X (2) dX6_addConstraint_102 (by decide) ?_
          obtain ⟨hk41, h⟩ := h
          refine gd_callV (pc := 103) (As := [.int 2]) (rest := []) X (ct_X6_fail l G S36 a0 2 _ h) mw_X6_fail tw_1101 ci6 rfl hk41 ⟨(Nat.le_of_ble_eq_true rfl), (Nat.le_of_ble_eq_true rfl)⟩ rfl rfl (Nat.le_of_ble_eq_true rfl) dX6_addConstraint_103 ⟨Nat.le_of_ble_eq_true rfl, Nat.le_of_ble_eq_true rfl⟩ (kI (fun r43 S42 h => ?_))
          refine gd_wide (k2 := 0) (j2 := 0) (Nat.le_of_ble_eq_true rfl) (Nat.le_of_ble_eq_true rfl) ?_
          exact (gd_ret_i (pc := 106) X hr hlk rfl (by decide) (by decide) dX6_addConstraint_106 ⟨_, rfl, h⟩)
      · have h := h.2 hc47
        refine gd_aload_n (pc := 36) X 0 dX6_addConstraint_36 rfl ?_
        refine gd_iconst (pc := 37) X (2) dX6_addConstraint_37 (by decide) ?_
        refine gd_callV (pc := 38) (As := [.int 2]) (rest := []) X (ct_X6_fail l G S6 a0 2 _ h) mw_X6_fail tw_1101 ci6 rfl hk8 ⟨(Nat.le_of_ble_eq_true rfl), (Nat.le_of_ble_eq_true rfl)⟩ rfl rfl (Nat.le_of_ble_eq_true rfl) dX6_addConstraint_38 ⟨Nat.le_of_ble_eq_true rfl, Nat.le_of_ble_eq_true rfl⟩ (kI (fun r46 S45 h => ?_))
        refine gd_wide (k2 := 0) (j2 := 0) (Nat.le_of_ble_eq_true rfl) (Nat.le_of_ble_eq_true rfl) ?_
        exact (gd_ret_i (pc := 41) X hr hlk rfl (by decide) (by decide) dX6_addConstraint_41 ⟨_, rfl, h⟩)
    · have h := h.2 hc48
      exact g22 _ _ _ _ _ _ h
abbrev rm_X6_clearConstraints : Room := { frames := 0, cells := 0, slots := 0, locals := 0 }
def w_X6_clearConstraints (S : MS) (a0 : Nat) (post : Int32 → MS → Prop) : Prop := kT S a0 = 7 ∧ ∀ S2 : MS, S2 = pI S a0 0 0 → ∀ v4 : Int32, v4 = sI S2 a0 21 → ∀ S5 : MS, S5 = pI S2 a0 21 0 → post v4 S5
set_option maxHeartbeats 4000000 in
set_option maxRecDepth 100000 in
theorem ct_X6_clearConstraints (l : Launch) (G : GP) (S : MS) (a0 : Nat) (post : Int32 → MS → Prop) (h : w_X6_clearConstraints S a0 post) : MetM l yX6_clearConstraints cX6_clearConstraints 2 (some .int) rm_X6_clearConstraints [rf a0] G S (pI_ post) := by
  refine met_of (by decide) (cat1_r cat1_n) (Nat.le_of_ble_eq_true rfl) ?_
  intro p e s m args below meth c X hr hlk hin
  refine gd_aload_n (pc := 0) X 0 dX6_clearConstraints_0 rfl ?_
  refine gd_iconst (pc := 1) X (0) dX6_clearConstraints_1 (by decide) ?_
  obtain ⟨hk1, h⟩ := h
  refine gd_putI (pc := 2) (kf := 0) X ci6 (by decide) rfl rfl tw_983 rfl rfl dX6_clearConstraints_2 hk1 ?_
  refine gd_topS (fun S2 hS2 => ?_)
  have h := h S2 hS2
  have hk3 : kT S2 a0 = 7 := by rw [hS2]; exact hk1
  refine gd_aload_n (pc := 5) X 0 dX6_clearConstraints_5 rfl ?_
  refine gd_getI (pc := 6) (kf := 21) X ci6 (by decide) rfl tw_1004 dX6_clearConstraints_6 hk3 ?_
  refine gd_topI (fun v4 hv4 => ?_)
  have h := h v4 hv4
  refine gd_istore_n (pc := 9) X dX6_clearConstraints_9 (by decide) (E2 := [(1, .int v4), (0, rf a0)]) (by simp [rf_cat, lv1, int_cat] <;> decide) ?_
  refine gd_aload_n (pc := 10) X 1 dX6_clearConstraints_10 rfl ?_
  refine gd_iconst (pc := 11) X (0) dX6_clearConstraints_11 (by decide) ?_
  refine gd_putI (pc := 12) (kf := 21) X ci6 (by decide) rfl rfl tw_1004 rfl rfl dX6_clearConstraints_12 hk3 ?_
  refine gd_topS (fun S5 hS5 => ?_)
  have h := h S5 hS5
  have hk6 : kT S5 a0 = 7 := by rw [hS5]; exact hk3
  refine gd_iload_n (pc := 15) X 0 dX6_clearConstraints_15 rfl ?_
  exact (gd_ret_i (pc := 16) X hr hlk rfl (by decide) (by decide) dX6_clearConstraints_16 ⟨_, rfl, h⟩)
abbrev rm_X6_countOf : Room := { frames := 0, cells := 0, slots := 0, locals := 0 }
def b_X6_countOf_46 (KH5 : MS → Nat → Int32 → Int32 → Int32 → Int32 → Prop) (post : Int32 → MS → Prop) (S : MS) (l0 : Nat) (l1 : Int32) (l2 : Int32) (l3 : Int32) (l4 : Int32) (s0 : Int32) (s1 : Int32) : Prop := ∀ v1 : Int32, v1 = s1 + s0 → ∀ v2 : Int32, v2 = l4 + 1 → KH5 S l0 l1 l2 v1 v2
def b_X6_countOf_45 (KH5 : MS → Nat → Int32 → Int32 → Int32 → Int32 → Prop) (post : Int32 → MS → Prop) (S : MS) (l0 : Nat) (l1 : Int32) (l2 : Int32) (l3 : Int32) (l4 : Int32) (s0 : Int32) : Prop := b_X6_countOf_46 KH5 post S l0 l1 l2 l3 l4 0 s0
def b_X6_countOf_41 (KH5 : MS → Nat → Int32 → Int32 → Int32 → Int32 → Prop) (post : Int32 → MS → Prop) (S : MS) (l0 : Nat) (l1 : Int32) (l2 : Int32) (l3 : Int32) (l4 : Int32) (s0 : Int32) : Prop := b_X6_countOf_46 KH5 post S l0 l1 l2 l3 l4 1 s0
def b_X6_countOf_5 (post : Int32 → MS → Prop) : Nat → MS → Nat → Int32 → Int32 → Int32 → Int32 → Prop
  | 0 => fun _ _ _ _ _ _ => False
  | f + 1 => fun S l0 l1 l2 l3 l4 => kT S l0 = 7 ∧ (((sI S l0 1) ≤ l4 → post l3 S) ∧ (¬ (sI S l0 1) ≤ l4 → kT S (sR S l0 2) = 9 ∧ vp_in l4 (kL S (sR S l0 2)) ∧ ((¬ (sI S (sR S l0 2) (ix l4)) = l1 → b_X6_countOf_45 (b_X6_countOf_5 post f) post S l0 l1 l2 l3 l4 l3) ∧ ((sI S (sR S l0 2) (ix l4)) = l1 → ((l2 = 0 → b_X6_countOf_41 (b_X6_countOf_5 post f) post S l0 l1 l2 l3 l4 l3) ∧ (¬ l2 = 0 → kT S (sR S l0 4) = 9 ∧ vp_in l4 (kL S (sR S l0 4)) ∧ ((¬ (sI S (sR S l0 4) (ix l4)) = l2 → b_X6_countOf_45 (b_X6_countOf_5 post f) post S l0 l1 l2 l3 l4 l3) ∧ ((sI S (sR S l0 4) (ix l4)) = l2 → b_X6_countOf_41 (b_X6_countOf_5 post f) post S l0 l1 l2 l3 l4 l3))))))))
def w_X6_countOf (S : MS) (a0 : Nat) (a1 : Int32) (a2 : Int32) (post : Int32 → MS → Prop) : Prop := ∃ f5, b_X6_countOf_5 post f5 S a0 a1 a2 0 0
set_option maxHeartbeats 4000000 in
set_option maxRecDepth 100000 in
theorem ct_X6_countOf (l : Launch) (G : GP) (S : MS) (a0 : Nat) (a1 : Int32) (a2 : Int32) (post : Int32 → MS → Prop) (h : w_X6_countOf S a0 a1 a2 post) : MetM l yX6_countOf cX6_countOf 5 (some .int) rm_X6_countOf [rf a0, .int a1, .int a2] G S (pI_ post) := by
  refine met_of (by decide) (cat1_r (cat1_i (cat1_i cat1_n))) (Nat.le_of_ble_eq_true rfl) ?_
  intro p e s m args below meth c X hr hlk hin
  revert h
  have g46 : ∀ (KH5 : MS → Nat → Int32 → Int32 → Int32 → Int32 → Prop) (hKH5 : ∀ (S : MS) (l0 : Nat) (l1 : Int32) (l2 : Int32) (l3 : Int32) (l4 : Int32), KH5 S l0 l1 l2 l3 l4 → Gd p l e rm_X6_countOf s m args below meth c 5 G (MQ below (QcM G (pI_ post)) args s rm_X6_countOf.cells rm_X6_countOf.slots (Ab G)) 0 0 S 5 [(0, rf l0), (1, .int l1), (2, .int l2), (3, .int l3), (4, .int l4)] []) (S : MS) (l0 : Nat) (l1 : Int32) (l2 : Int32) (l3 : Int32) (l4 : Int32) (s0 : Int32) (s1 : Int32), b_X6_countOf_46 KH5 post S l0 l1 l2 l3 l4 s0 s1 → Gd p l e rm_X6_countOf s m args below meth c 5 G (MQ below (QcM G (pI_ post)) args s rm_X6_countOf.cells rm_X6_countOf.slots (Ab G)) 0 0 S 46 [(0, rf l0), (1, .int l1), (2, .int l2), (3, .int l3), (4, .int l4)] [.int s0, .int s1] := by
    intro KH5 hKH5 S l0 l1 l2 l3 l4 s0 s1 h
    refine gd_iadd (pc := 46) X dX6_countOf_46 ?_
    refine gd_topI (fun v1 hv1 => ?_)
    have h := h v1 hv1
    refine gd_istore_n (pc := 47) X dX6_countOf_47 (by decide) (E2 := [(3, .int v1), (0, rf l0), (1, .int l1), (2, .int l2), (4, .int l4)]) rfl ?_
    obtain ⟨v2, hv2⟩ : ∃ z : Int32, z = l4 + 1 := ⟨_, rfl⟩
    have h := h v2 hv2
    refine gd_iinc (pc := 48) (v := v2) X 4 dX6_countOf_48 rfl (by rw [hv2]; rfl) (by decide) (E2 := [(4, .int v2), (3, .int v1), (0, rf l0), (1, .int l1), (2, .int l2)]) rfl ?_
    refine gd_goto (pc := 51) X 5 dX6_countOf_51 (by decide) ?_
    refine gd_sub [2, 3, 4, 1, 0] rfl ?_
    exact hKH5 _ _ _ _ _ _ h
  have g45 : ∀ (KH5 : MS → Nat → Int32 → Int32 → Int32 → Int32 → Prop) (hKH5 : ∀ (S : MS) (l0 : Nat) (l1 : Int32) (l2 : Int32) (l3 : Int32) (l4 : Int32), KH5 S l0 l1 l2 l3 l4 → Gd p l e rm_X6_countOf s m args below meth c 5 G (MQ below (QcM G (pI_ post)) args s rm_X6_countOf.cells rm_X6_countOf.slots (Ab G)) 0 0 S 5 [(0, rf l0), (1, .int l1), (2, .int l2), (3, .int l3), (4, .int l4)] []) (S : MS) (l0 : Nat) (l1 : Int32) (l2 : Int32) (l3 : Int32) (l4 : Int32) (s0 : Int32), b_X6_countOf_45 KH5 post S l0 l1 l2 l3 l4 s0 → Gd p l e rm_X6_countOf s m args below meth c 5 G (MQ below (QcM G (pI_ post)) args s rm_X6_countOf.cells rm_X6_countOf.slots (Ab G)) 0 0 S 45 [(0, rf l0), (1, .int l1), (2, .int l2), (3, .int l3), (4, .int l4)] [.int s0] := by
    intro KH5 hKH5 S l0 l1 l2 l3 l4 s0 h
    refine gd_iconst (pc := 45) X (0) dX6_countOf_45 (by decide) ?_
    exact g46 _ hKH5 _ _ _ _ _ _ _ _ h
  have g41 : ∀ (KH5 : MS → Nat → Int32 → Int32 → Int32 → Int32 → Prop) (hKH5 : ∀ (S : MS) (l0 : Nat) (l1 : Int32) (l2 : Int32) (l3 : Int32) (l4 : Int32), KH5 S l0 l1 l2 l3 l4 → Gd p l e rm_X6_countOf s m args below meth c 5 G (MQ below (QcM G (pI_ post)) args s rm_X6_countOf.cells rm_X6_countOf.slots (Ab G)) 0 0 S 5 [(0, rf l0), (1, .int l1), (2, .int l2), (3, .int l3), (4, .int l4)] []) (S : MS) (l0 : Nat) (l1 : Int32) (l2 : Int32) (l3 : Int32) (l4 : Int32) (s0 : Int32), b_X6_countOf_41 KH5 post S l0 l1 l2 l3 l4 s0 → Gd p l e rm_X6_countOf s m args below meth c 5 G (MQ below (QcM G (pI_ post)) args s rm_X6_countOf.cells rm_X6_countOf.slots (Ab G)) 0 0 S 41 [(0, rf l0), (1, .int l1), (2, .int l2), (3, .int l3), (4, .int l4)] [.int s0] := by
    intro KH5 hKH5 S l0 l1 l2 l3 l4 s0 h
    refine gd_iconst (pc := 41) X (1) dX6_countOf_41 (by decide) ?_
    refine gd_goto (pc := 42) X 46 dX6_countOf_42 (by decide) ?_
    exact g46 _ hKH5 _ _ _ _ _ _ _ _ h
  have g5 : ∀ (f : Nat) (S : MS) (l0 : Nat) (l1 : Int32) (l2 : Int32) (l3 : Int32) (l4 : Int32), b_X6_countOf_5 post f S l0 l1 l2 l3 l4 → Gd p l e rm_X6_countOf s m args below meth c 5 G (MQ below (QcM G (pI_ post)) args s rm_X6_countOf.cells rm_X6_countOf.slots (Ab G)) 0 0 S 5 [(0, rf l0), (1, .int l1), (2, .int l2), (3, .int l3), (4, .int l4)] [] := by
    intro f
    induction f with
    | zero => intro S l0 l1 l2 l3 l4 h; exact h.elim
    | succ f ih =>
      intro S l0 l1 l2 l3 l4 h
      refine gd_iload (pc := 5) X 4 dX6_countOf_5 rfl ?_
      refine gd_aload_n (pc := 7) X 0 dX6_countOf_7 rfl ?_
      obtain ⟨hk1, h⟩ := h
      refine gd_getI (pc := 8) (kf := 1) X ci6 (by decide) rfl tw_984 dX6_countOf_8 hk1 ?_
      refine gd_icmp_ge (pc := 11) X 54 dX6_countOf_11 (by decide) (fun hc9 => ?_) (fun hc9 => ?_)
      · have h := h.1 hc9
        refine gd_iload_n (pc := 54) X 3 dX6_countOf_54 rfl ?_
        exact (gd_ret_i (pc := 55) X hr hlk rfl (by decide) (by decide) dX6_countOf_55 ⟨_, rfl, h⟩)
      · have h := h.2 hc9
        refine gd_iload_n (pc := 14) X 3 dX6_countOf_14 rfl ?_
        refine gd_aload_n (pc := 15) X 0 dX6_countOf_15 rfl ?_
        refine gd_getR (pc := 16) (kf := 2) X ci6 (by decide) rfl tw_985 dX6_countOf_16 hk1 ?_
        refine gd_iload (pc := 19) X 4 dX6_countOf_19 rfl ?_
        obtain ⟨hk2, h⟩ := h
        obtain ⟨hi3, h⟩ := h
        refine gd_iald (pc := 21) X dX6_countOf_21 hk2 hi3 ?_
        refine gd_iload_n (pc := 22) X 1 dX6_countOf_22 rfl ?_
        refine gd_icmp_ne (pc := 23) X 45 dX6_countOf_23 (by decide) (fun hc8 => ?_) (fun hc8 => ?_)
        · have h := h.1 hc8
          exact g45 _ ih _ _ _ _ _ _ _ h
        · have h := h.2 hc8
          refine gd_iload_n (pc := 26) X 2 dX6_countOf_26 rfl ?_
          refine gd_if_eq (pc := 27) X 41 dX6_countOf_27 (by decide) (fun hc7 => ?_) (fun hc7 => ?_)
          · have h := h.1 hc7
            exact g41 _ ih _ _ _ _ _ _ _ h
          · have h := h.2 hc7
            refine gd_aload_n (pc := 30) X 0 dX6_countOf_30 rfl ?_
            refine gd_getR (pc := 31) (kf := 4) X ci6 (by decide) rfl tw_987 dX6_countOf_31 hk1 ?_
            refine gd_iload (pc := 34) X 4 dX6_countOf_34 rfl ?_
            obtain ⟨hk4, h⟩ := h
            obtain ⟨hi5, h⟩ := h
            refine gd_iald (pc := 36) X dX6_countOf_36 hk4 hi5 ?_
            refine gd_iload_n (pc := 37) X 2 dX6_countOf_37 rfl ?_
            refine gd_icmp_ne (pc := 38) X 45 dX6_countOf_38 (by decide) (fun hc6 => ?_) (fun hc6 => ?_)
            · have h := h.1 hc6
              exact g45 _ ih _ _ _ _ _ _ _ h
            · have h := h.2 hc6
              exact g41 _ ih _ _ _ _ _ _ _ h
  intro h
  refine gd_iconst (pc := 0) X (0) dX6_countOf_0 (by decide) ?_
  refine gd_istore_n (pc := 1) X dX6_countOf_1 (by decide) (E2 := [(3, .int 0), (0, rf a0), (1, .int a1), (2, .int a2)]) rfl ?_
  refine gd_iconst (pc := 2) X (0) dX6_countOf_2 (by decide) ?_
  refine gd_istore (pc := 3) X dX6_countOf_3 (by decide) (E2 := [(4, .int 0), (3, .int 0), (0, rf a0), (1, .int a1), (2, .int a2)]) rfl ?_
  refine gd_sub [2, 3, 4, 1, 0] rfl ?_
  obtain ⟨f5, h⟩ := h
  exact g5 f5 _ _ _ _ _ _ h
abbrev rm_X6_aborts : Room := { frames := 1, cells := 0, slots := 0, locals := 24 }
def b_X6_aborts_29 (post : Int32 → MS → Prop) (S : MS) (l0 : Nat) (l1 : Int32) (s0 : Int32) : Prop := post s0 S
def w_X6_aborts (S : MS) (a0 : Nat) (a1 : Int32) (post : Int32 → MS → Prop) : Prop := kT S a0 = 7 ∧ ∀ S2 : MS, S2 = pI S a0 0 0 → w_X6_isIn S2 a1 1 6 (fun r5 S4 => ((r5 = 0 → kT S4 a0 = 7 ∧ w_X6_fail S4 a0 1 (fun r8 S7 => b_X6_aborts_29 post S7 a0 a1 r8)) ∧ (¬ r5 = 0 → kT S4 a0 = 7 ∧ w_X6_countOf S4 a0 2 a1 (fun r11 S10 => b_X6_aborts_29 post S10 a0 a1 r11))))
set_option maxHeartbeats 4000000 in
set_option maxRecDepth 100000 in
theorem ct_X6_aborts (l : Launch) (G : GP) (S : MS) (a0 : Nat) (a1 : Int32) (post : Int32 → MS → Prop) (h : w_X6_aborts S a0 a1 post) : MetM l yX6_aborts cX6_aborts 2 (some .int) rm_X6_aborts [rf a0, .int a1] G S (pI_ post) := by
  refine met_of (by decide) (cat1_r (cat1_i cat1_n)) (Nat.le_of_ble_eq_true rfl) ?_
  intro p e s m args below meth c X hr hlk hin
  revert h
  have g29 : ∀ (S : MS) (l0 : Nat) (l1 : Int32) (s0 : Int32), b_X6_aborts_29 post S l0 l1 s0 → Gd p l e rm_X6_aborts s m args below meth c 2 G (MQ below (QcM G (pI_ post)) args s rm_X6_aborts.cells rm_X6_aborts.slots (Ab G)) 0 0 S 29 [(0, rf l0), (1, .int l1)] [.int s0] := by
    intro S l0 l1 s0 h
    exact (gd_ret_i (pc := 29) X hr hlk rfl (by decide) (by decide) dX6_aborts_29 ⟨_, rfl, h⟩)
  intro h
  refine gd_aload_n (pc := 0) X 0 dX6_aborts_0 rfl ?_
  refine gd_iconst (pc := 1) X (0) dX6_aborts_1 (by decide) ?_
  obtain ⟨hk1, h⟩ := h
  refine gd_putI (pc := 2) (kf := 0) X ci6 (by decide) rfl rfl tw_983 rfl rfl dX6_aborts_2 hk1 ?_
  refine gd_topS (fun S2 hS2 => ?_)
  have h := h S2 hS2
  have hk3 : kT S2 a0 = 7 := by rw [hS2]; exact hk1
  refine gd_iload_n (pc := 5) X 1 dX6_aborts_5 rfl ?_
  refine gd_iconst (pc := 6) X (1) dX6_aborts_6 (by decide) ?_
  refine gd_bipush (pc := 7) X (6) dX6_aborts_7 (by decide) ?_
  refine gd_callS (pc := 9) (As := [.int a1, .int 1, .int 6]) (rest := []) X (ct_X6_isIn l G S2 a1 1 6 _ h) mw_X6_isIn tw_1082 ⟨(Nat.le_of_ble_eq_true rfl), (Nat.le_of_ble_eq_true rfl)⟩ rfl rfl (Nat.le_of_ble_eq_true rfl) dX6_aborts_9 ⟨Nat.le_of_ble_eq_true rfl, Nat.le_of_ble_eq_true rfl⟩ (kI (fun r5 S4 h => ?_))
  refine gd_wide (k2 := 0) (j2 := 0) (Nat.le_of_ble_eq_true rfl) (Nat.le_of_ble_eq_true rfl) ?_
  refine gd_if_eq (pc := 12) X 24 dX6_aborts_12 (by decide) (fun hc12 => ?_) (fun hc12 => ?_)
  · have h := h.1 hc12
    refine gd_aload_n (pc := 24) X 0 dX6_aborts_24 rfl ?_
    refine gd_iconst (pc := 25) X (1) dX6_aborts_25 (by decide) ?_
    obtain ⟨hk6, h⟩ := h
    refine gd_callV (pc := 26) (As := [.int 1]) (rest := []) X (ct_X6_fail l G S4 a0 1 _ h) mw_X6_fail tw_1101 ci6 rfl hk6 ⟨(Nat.le_of_ble_eq_true rfl), (Nat.le_of_ble_eq_true rfl)⟩ rfl rfl (Nat.le_of_ble_eq_true rfl) dX6_aborts_26 ⟨Nat.le_of_ble_eq_true rfl, Nat.le_of_ble_eq_true rfl⟩ (kI (fun r8 S7 h => ?_))
    refine gd_wide (k2 := 0) (j2 := 0) (Nat.le_of_ble_eq_true rfl) (Nat.le_of_ble_eq_true rfl) ?_
    exact g29 _ _ _ _ h
  · have h := h.2 hc12
    refine gd_aload_n (pc := 15) X 0 dX6_aborts_15 rfl ?_
    refine gd_iconst (pc := 16) X (2) dX6_aborts_16 (by decide) ?_
    refine gd_iload_n (pc := 17) X 1 dX6_aborts_17 rfl ?_
    obtain ⟨hk9, h⟩ := h
    refine gd_callV (pc := 18) (As := [.int 2, .int a1]) (rest := []) X (ct_X6_countOf l G S4 a0 2 a1 _ h) mw_X6_countOf tw_1360 ci6 rfl hk9 ⟨(Nat.le_of_ble_eq_true rfl), (Nat.le_of_ble_eq_true rfl)⟩ rfl rfl (Nat.le_of_ble_eq_true rfl) dX6_aborts_18 ⟨Nat.le_of_ble_eq_true rfl, Nat.le_of_ble_eq_true rfl⟩ (kI (fun r11 S10 h => ?_))
    refine gd_wide (k2 := 0) (j2 := 0) (Nat.le_of_ble_eq_true rfl) (Nat.le_of_ble_eq_true rfl) ?_
    refine gd_goto (pc := 21) X 29 dX6_aborts_21 (by decide) ?_
    exact g29 _ _ _ _ h
abbrev rm_X6_averageAttempts : Room := { frames := 1, cells := 0, slots := 0, locals := 24 }
def b_X6_averageAttempts_71 (post : UInt64 → MS → Prop) (S : MS) (l0 : Nat) (l1 : Int32) (l2 : Int32) (s0 : UInt64) : Prop := post s0 S
def b_X6_averageAttempts_38 (KH9 : MS → Nat → Int32 → Int32 → Prop) (post : UInt64 → MS → Prop) (S : MS) (l0 : Nat) (l1 : Int32) (l2 : Int32) (s0 : Int32) (s1 : Int32) : Prop := ∀ v1 : Int32, v1 = s1 + s0 → ∀ v2 : Int32, v2 = l2 + 1 → KH9 S l0 v1 v2
def b_X6_averageAttempts_9 (post : UInt64 → MS → Prop) : Nat → MS → Nat → Int32 → Int32 → Prop
  | 0 => fun _ _ _ _ => False
  | f + 1 => fun S l0 l1 l2 => kT S l0 = 7 ∧ (((sI S l0 1) ≤ l2 → w_X6_countOf S l0 1 0 (fun r3 S2 => ((¬ r3 = 0 → vf_n64 (FP.ddiv (FP.i2d l1) (FP.i2d r3)) ∧ b_X6_averageAttempts_71 post S2 l0 l1 r3 (FP.ddiv (FP.i2d l1) (FP.i2d r3))) ∧ (r3 = 0 → kT S2 l0 = 7 ∧ w_X6_fail S2 l0 1 (fun r7 S6 => b_X6_averageAttempts_71 post S6 l0 l1 r3 (FP.i2d r7)))))) ∧ (¬ (sI S l0 1) ≤ l2 → kT S (sR S l0 2) = 9 ∧ vp_in l2 (kL S (sR S l0 2)) ∧ ((¬ (sI S (sR S l0 2) (ix l2)) = 1 → b_X6_averageAttempts_38 (b_X6_averageAttempts_9 post f) post S l0 l1 l2 0 l1) ∧ ((sI S (sR S l0 2) (ix l2)) = 1 → kT S (sR S l0 3) = 9 ∧ vp_in l2 (kL S (sR S l0 3)) ∧ b_X6_averageAttempts_38 (b_X6_averageAttempts_9 post f) post S l0 l1 l2 (sI S (sR S l0 3) (ix l2)) l1))))
def w_X6_averageAttempts (S : MS) (a0 : Nat) (post : UInt64 → MS → Prop) : Prop := kT S a0 = 7 ∧ ∀ S2 : MS, S2 = pI S a0 0 0 → ∃ f9, b_X6_averageAttempts_9 post f9 S2 a0 0 0
set_option maxHeartbeats 4000000 in
set_option maxRecDepth 100000 in
theorem ct_X6_averageAttempts (l : Launch) (G : GP) (S : MS) (a0 : Nat) (post : UInt64 → MS → Prop) (h : w_X6_averageAttempts S a0 post) : MetM l yX6_averageAttempts cX6_averageAttempts 3 (some .double) rm_X6_averageAttempts [rf a0] G S (pD_ post) := by
  refine met_of (by decide) (cat1_r cat1_n) (Nat.le_of_ble_eq_true rfl) ?_
  intro p e s m args below meth c X hr hlk hin
  revert h
  have g71 : ∀ (S : MS) (l0 : Nat) (l1 : Int32) (l2 : Int32) (s0 : UInt64), b_X6_averageAttempts_71 post S l0 l1 l2 s0 → Gd p l e rm_X6_averageAttempts s m args below meth c 3 G (MQ below (QcM G (pD_ post)) args s rm_X6_averageAttempts.cells rm_X6_averageAttempts.slots (Ab G)) 0 0 S 71 [(0, rf l0), (1, .int l1), (2, .int l2)] [.double s0] := by
    intro S l0 l1 l2 s0 h
    exact (gd_ret_d (pc := 71) X hr hlk (by decide) (by decide) dX6_averageAttempts_71 ⟨_, rfl, h⟩)
  have g38 : ∀ (KH9 : MS → Nat → Int32 → Int32 → Prop) (hKH9 : ∀ (S : MS) (l0 : Nat) (l1 : Int32) (l2 : Int32), KH9 S l0 l1 l2 → Gd p l e rm_X6_averageAttempts s m args below meth c 3 G (MQ below (QcM G (pD_ post)) args s rm_X6_averageAttempts.cells rm_X6_averageAttempts.slots (Ab G)) 0 0 S 9 [(0, rf l0), (1, .int l1), (2, .int l2)] []) (S : MS) (l0 : Nat) (l1 : Int32) (l2 : Int32) (s0 : Int32) (s1 : Int32), b_X6_averageAttempts_38 KH9 post S l0 l1 l2 s0 s1 → Gd p l e rm_X6_averageAttempts s m args below meth c 3 G (MQ below (QcM G (pD_ post)) args s rm_X6_averageAttempts.cells rm_X6_averageAttempts.slots (Ab G)) 0 0 S 38 [(0, rf l0), (1, .int l1), (2, .int l2)] [.int s0, .int s1] := by
    intro KH9 hKH9 S l0 l1 l2 s0 s1 h
    refine gd_iadd (pc := 38) X dX6_averageAttempts_38 ?_
    refine gd_topI (fun v1 hv1 => ?_)
    have h := h v1 hv1
    refine gd_istore_n (pc := 39) X dX6_averageAttempts_39 (by decide) (E2 := [(1, .int v1), (0, rf l0), (2, .int l2)]) (by simp [rf_cat, lv1, int_cat] <;> decide) ?_
    obtain ⟨v2, hv2⟩ : ∃ z : Int32, z = l2 + 1 := ⟨_, rfl⟩
    have h := h v2 hv2
    refine gd_iinc (pc := 40) (v := v2) X 2 dX6_averageAttempts_40 rfl (by rw [hv2]; rfl) (by decide) (E2 := [(2, .int v2), (1, .int v1), (0, rf l0)]) rfl ?_
    refine gd_goto (pc := 43) X 9 dX6_averageAttempts_43 (by decide) ?_
    refine gd_sub [2, 1, 0] rfl ?_
    exact hKH9 _ _ _ _ h
  have g9 : ∀ (f : Nat) (S : MS) (l0 : Nat) (l1 : Int32) (l2 : Int32), b_X6_averageAttempts_9 post f S l0 l1 l2 → Gd p l e rm_X6_averageAttempts s m args below meth c 3 G (MQ below (QcM G (pD_ post)) args s rm_X6_averageAttempts.cells rm_X6_averageAttempts.slots (Ab G)) 0 0 S 9 [(0, rf l0), (1, .int l1), (2, .int l2)] [] := by
    intro f
    induction f with
    | zero => intro S l0 l1 l2 h; exact h.elim
    | succ f ih =>
      intro S l0 l1 l2 h
      refine gd_iload_n (pc := 9) X 2 dX6_averageAttempts_9 rfl ?_
      refine gd_aload_n (pc := 10) X 0 dX6_averageAttempts_10 rfl ?_
      obtain ⟨hk1, h⟩ := h
      refine gd_getI (pc := 11) (kf := 1) X ci6 (by decide) rfl tw_984 dX6_averageAttempts_11 hk1 ?_
      refine gd_icmp_ge (pc := 14) X 46 dX6_averageAttempts_14 (by decide) (fun hc14 => ?_) (fun hc14 => ?_)
      · have h := h.1 hc14
        refine gd_aload_n (pc := 46) X 0 dX6_averageAttempts_46 rfl ?_
        refine gd_iconst (pc := 47) X (1) dX6_averageAttempts_47 (by decide) ?_
        refine gd_iconst (pc := 48) X (0) dX6_averageAttempts_48 (by decide) ?_
        refine gd_callV (pc := 49) (As := [.int 1, .int 0]) (rest := []) X (ct_X6_countOf l G S l0 1 0 _ h) mw_X6_countOf tw_1360 ci6 rfl hk1 ⟨(Nat.le_of_ble_eq_true rfl), (Nat.le_of_ble_eq_true rfl)⟩ rfl rfl (Nat.le_of_ble_eq_true rfl) dX6_averageAttempts_49 ⟨Nat.le_of_ble_eq_true rfl, Nat.le_of_ble_eq_true rfl⟩ (kI (fun r3 S2 h => ?_))
        refine gd_wide (k2 := 0) (j2 := 0) (Nat.le_of_ble_eq_true rfl) (Nat.le_of_ble_eq_true rfl) ?_
        refine gd_istore_n (pc := 52) X dX6_averageAttempts_52 (by decide) (E2 := [(2, .int r3), (0, rf l0), (1, .int l1)]) rfl ?_
        refine gd_iload_n (pc := 53) X 0 dX6_averageAttempts_53 rfl ?_
        refine gd_if_ne (pc := 54) X 66 dX6_averageAttempts_54 (by decide) (fun hc8 => ?_) (fun hc8 => ?_)
        · have h := h.1 hc8
          refine gd_iload_n (pc := 66) X 2 dX6_averageAttempts_66 rfl ?_
          refine gd_i2d (pc := 67) X dX6_averageAttempts_67 ?_
          refine gd_iload_n (pc := 68) X 0 dX6_averageAttempts_68 rfl ?_
          refine gd_i2d (pc := 69) X dX6_averageAttempts_69 ?_
          obtain ⟨hn4, h⟩ := h
          refine gd_ddiv (pc := 70) X dX6_averageAttempts_70 hn4 ?_
          refine gd_sub [1, 2, 0] rfl ?_
          exact g71 _ _ _ _ _ h
        · have h := h.2 hc8
          refine gd_aload_n (pc := 57) X 1 dX6_averageAttempts_57 rfl ?_
          refine gd_iconst (pc := 58) X (1) dX6_averageAttempts_58 (by decide) ?_
          obtain ⟨hk5, h⟩ := h
          refine gd_callV (pc := 59) (As := [.int 1]) (rest := []) X (ct_X6_fail l G S2 l0 1 _ h) mw_X6_fail tw_1101 ci6 rfl hk5 ⟨(Nat.le_of_ble_eq_true rfl), (Nat.le_of_ble_eq_true rfl)⟩ rfl rfl (Nat.le_of_ble_eq_true rfl) dX6_averageAttempts_59 ⟨Nat.le_of_ble_eq_true rfl, Nat.le_of_ble_eq_true rfl⟩ (kI (fun r7 S6 h => ?_))
          refine gd_wide (k2 := 0) (j2 := 0) (Nat.le_of_ble_eq_true rfl) (Nat.le_of_ble_eq_true rfl) ?_
          refine gd_i2d (pc := 62) X dX6_averageAttempts_62 ?_
          refine gd_goto (pc := 63) X 71 dX6_averageAttempts_63 (by decide) ?_
          refine gd_sub [1, 2, 0] rfl ?_
          exact g71 _ _ _ _ _ h
      · have h := h.2 hc14
        refine gd_iload_n (pc := 17) X 1 dX6_averageAttempts_17 rfl ?_
        refine gd_aload_n (pc := 18) X 0 dX6_averageAttempts_18 rfl ?_
        refine gd_getR (pc := 19) (kf := 2) X ci6 (by decide) rfl tw_985 dX6_averageAttempts_19 hk1 ?_
        refine gd_iload_n (pc := 22) X 2 dX6_averageAttempts_22 rfl ?_
        obtain ⟨hk9, h⟩ := h
        obtain ⟨hi10, h⟩ := h
        refine gd_iald (pc := 23) X dX6_averageAttempts_23 hk9 hi10 ?_
        refine gd_iconst (pc := 24) X (1) dX6_averageAttempts_24 (by decide) ?_
        refine gd_icmp_ne (pc := 25) X 37 dX6_averageAttempts_25 (by decide) (fun hc13 => ?_) (fun hc13 => ?_)
        · have h := h.1 hc13
          refine gd_iconst (pc := 37) X (0) dX6_averageAttempts_37 (by decide) ?_
          exact g38 _ ih _ _ _ _ _ _ h
        · have h := h.2 hc13
          refine gd_aload_n (pc := 28) X 0 dX6_averageAttempts_28 rfl ?_
          refine gd_getR (pc := 29) (kf := 3) X ci6 (by decide) rfl tw_986 dX6_averageAttempts_29 hk1 ?_
          refine gd_iload_n (pc := 32) X 2 dX6_averageAttempts_32 rfl ?_
          obtain ⟨hk11, h⟩ := h
          obtain ⟨hi12, h⟩ := h
          refine gd_iald (pc := 33) X dX6_averageAttempts_33 hk11 hi12 ?_
          refine gd_goto (pc := 34) X 38 dX6_averageAttempts_34 (by decide) ?_
          exact g38 _ ih _ _ _ _ _ _ h
  intro h
  refine gd_aload_n (pc := 0) X 0 dX6_averageAttempts_0 rfl ?_
  refine gd_iconst (pc := 1) X (0) dX6_averageAttempts_1 (by decide) ?_
  obtain ⟨hk1, h⟩ := h
  refine gd_putI (pc := 2) (kf := 0) X ci6 (by decide) rfl rfl tw_983 rfl rfl dX6_averageAttempts_2 hk1 ?_
  refine gd_topS (fun S2 hS2 => ?_)
  have h := h S2 hS2
  have hk3 : kT S2 a0 = 7 := by rw [hS2]; exact hk1
  refine gd_iconst (pc := 5) X (0) dX6_averageAttempts_5 (by decide) ?_
  refine gd_istore_n (pc := 6) X dX6_averageAttempts_6 (by decide) (E2 := [(1, .int 0), (0, rf a0)]) (by simp [rf_cat, lv1, int_cat] <;> decide) ?_
  refine gd_iconst (pc := 7) X (0) dX6_averageAttempts_7 (by decide) ?_
  refine gd_istore_n (pc := 8) X dX6_averageAttempts_8 (by decide) (E2 := [(2, .int 0), (1, .int 0), (0, rf a0)]) rfl ?_
  refine gd_sub [2, 1, 0] rfl ?_
  obtain ⟨f9, h⟩ := h
  exact g9 f9 _ _ _ _ h
abbrev rm_X6_abortRate : Room := { frames := 1, cells := 0, slots := 0, locals := 24 }
def b_X6_abortRate_38 (post : UInt32 → MS → Prop) (S : MS) (l0 : Nat) (l1 : Int32) (s0 : UInt32) : Prop := post s0 S
def w_X6_abortRate (S : MS) (a0 : Nat) (post : UInt32 → MS → Prop) : Prop := kT S a0 = 7 ∧ ∀ S2 : MS, S2 = pI S a0 0 0 → w_X6_activeNow S2 a0 (fun r5 S4 => ∀ v6 : Int32, v6 = (sI S2 a0 1) - r5 → ((¬ v6 = 0 → kT S4 a0 = 7 ∧ w_X6_countOf S4 a0 2 0 (fun r9 S8 => vf_n32 (FP.fdiv (FP.i2f r9) (FP.i2f v6)) ∧ b_X6_abortRate_38 post S8 a0 v6 (FP.fdiv (FP.i2f r9) (FP.i2f v6)))) ∧ (v6 = 0 → kT S4 a0 = 7 ∧ w_X6_fail S4 a0 1 (fun r13 S12 => b_X6_abortRate_38 post S12 a0 v6 (FP.i2f r13)))))
set_option maxHeartbeats 4000000 in
set_option maxRecDepth 100000 in
theorem ct_X6_abortRate (l : Launch) (G : GP) (S : MS) (a0 : Nat) (post : UInt32 → MS → Prop) (h : w_X6_abortRate S a0 post) : MetM l yX6_abortRate cX6_abortRate 2 (some .float) rm_X6_abortRate [rf a0] G S (pF_ post) := by
  refine met_of (by decide) (cat1_r cat1_n) (Nat.le_of_ble_eq_true rfl) ?_
  intro p e s m args below meth c X hr hlk hin
  revert h
  have g38 : ∀ (S : MS) (l0 : Nat) (l1 : Int32) (s0 : UInt32), b_X6_abortRate_38 post S l0 l1 s0 → Gd p l e rm_X6_abortRate s m args below meth c 2 G (MQ below (QcM G (pF_ post)) args s rm_X6_abortRate.cells rm_X6_abortRate.slots (Ab G)) 0 0 S 38 [(0, rf l0), (1, .int l1)] [.float s0] := by
    intro S l0 l1 s0 h
    exact (gd_ret_f (pc := 38) X hr hlk (by decide) (by decide) dX6_abortRate_38 ⟨_, rfl, h⟩)
  intro h
  refine gd_aload_n (pc := 0) X 0 dX6_abortRate_0 rfl ?_
  refine gd_iconst (pc := 1) X (0) dX6_abortRate_1 (by decide) ?_
  obtain ⟨hk1, h⟩ := h
  refine gd_putI (pc := 2) (kf := 0) X ci6 (by decide) rfl rfl tw_983 rfl rfl dX6_abortRate_2 hk1 ?_
  refine gd_topS (fun S2 hS2 => ?_)
  have h := h S2 hS2
  have hk3 : kT S2 a0 = 7 := by rw [hS2]; exact hk1
  refine gd_aload_n (pc := 5) X 0 dX6_abortRate_5 rfl ?_
  refine gd_getI (pc := 6) (kf := 1) X ci6 (by decide) rfl tw_984 dX6_abortRate_6 hk3 ?_
  refine gd_aload_n (pc := 9) X 0 dX6_abortRate_9 rfl ?_
  refine gd_callV (pc := 10) (As := []) (rest := [.int (sI S2 a0 1)]) X (ct_X6_activeNow l G S2 a0 _ h) mw_X6_activeNow tw_1085 ci6 rfl hk3 ⟨(Nat.le_of_ble_eq_true rfl), (Nat.le_of_ble_eq_true rfl)⟩ rfl rfl (Nat.le_of_ble_eq_true rfl) dX6_abortRate_10 ⟨Nat.le_of_ble_eq_true rfl, Nat.le_of_ble_eq_true rfl⟩ (kI (fun r5 S4 h => ?_))
  refine gd_wide (k2 := 0) (j2 := 0) (Nat.le_of_ble_eq_true rfl) (Nat.le_of_ble_eq_true rfl) ?_
  refine gd_isub (pc := 13) X dX6_abortRate_13 ?_
  refine gd_topI (fun v6 hv6 => ?_)
  have h := h v6 hv6
  refine gd_istore_n (pc := 14) X dX6_abortRate_14 (by decide) (E2 := [(1, .int v6), (0, rf a0)]) (by simp [rf_cat, lv1, int_cat] <;> decide) ?_
  refine gd_iload_n (pc := 15) X 0 dX6_abortRate_15 rfl ?_
  refine gd_if_ne (pc := 16) X 28 dX6_abortRate_16 (by decide) (fun hc14 => ?_) (fun hc14 => ?_)
  · have h := h.1 hc14
    refine gd_aload_n (pc := 28) X 1 dX6_abortRate_28 rfl ?_
    refine gd_iconst (pc := 29) X (2) dX6_abortRate_29 (by decide) ?_
    refine gd_iconst (pc := 30) X (0) dX6_abortRate_30 (by decide) ?_
    obtain ⟨hk7, h⟩ := h
    refine gd_callV (pc := 31) (As := [.int 2, .int 0]) (rest := []) X (ct_X6_countOf l G S4 a0 2 0 _ h) mw_X6_countOf tw_1360 ci6 rfl hk7 ⟨(Nat.le_of_ble_eq_true rfl), (Nat.le_of_ble_eq_true rfl)⟩ rfl rfl (Nat.le_of_ble_eq_true rfl) dX6_abortRate_31 ⟨Nat.le_of_ble_eq_true rfl, Nat.le_of_ble_eq_true rfl⟩ (kI (fun r9 S8 h => ?_))
    refine gd_wide (k2 := 0) (j2 := 0) (Nat.le_of_ble_eq_true rfl) (Nat.le_of_ble_eq_true rfl) ?_
    refine gd_i2f (pc := 34) X dX6_abortRate_34 ?_
    refine gd_iload_n (pc := 35) X 0 dX6_abortRate_35 rfl ?_
    refine gd_i2f (pc := 36) X dX6_abortRate_36 ?_
    obtain ⟨hn10, h⟩ := h
    refine gd_fdiv (pc := 37) X dX6_abortRate_37 hn10 ?_
    refine gd_sub [1, 0] rfl ?_
    exact g38 _ _ _ _ h
  · have h := h.2 hc14
    refine gd_aload_n (pc := 19) X 1 dX6_abortRate_19 rfl ?_
    refine gd_iconst (pc := 20) X (1) dX6_abortRate_20 (by decide) ?_
    obtain ⟨hk11, h⟩ := h
    refine gd_callV (pc := 21) (As := [.int 1]) (rest := []) X (ct_X6_fail l G S4 a0 1 _ h) mw_X6_fail tw_1101 ci6 rfl hk11 ⟨(Nat.le_of_ble_eq_true rfl), (Nat.le_of_ble_eq_true rfl)⟩ rfl rfl (Nat.le_of_ble_eq_true rfl) dX6_abortRate_21 ⟨Nat.le_of_ble_eq_true rfl, Nat.le_of_ble_eq_true rfl⟩ (kI (fun r13 S12 h => ?_))
    refine gd_wide (k2 := 0) (j2 := 0) (Nat.le_of_ble_eq_true rfl) (Nat.le_of_ble_eq_true rfl) ?_
    refine gd_i2f (pc := 24) X dX6_abortRate_24 ?_
    refine gd_goto (pc := 25) X 38 dX6_abortRate_25 (by decide) ?_
    refine gd_sub [1, 0] rfl ?_
    exact g38 _ _ _ _ h
abbrev rm_X6_appendCharacter : Room := { frames := 1, cells := 0, slots := 0, locals := 22 }
def w_X6_appendCharacter (S : MS) (a0 : Nat) (a1 : Int32) (post : Int32 → MS → Prop) : Prop := kT S a0 = 7 ∧ ∀ S2 : MS, S2 = pI S a0 0 0 → w_X6_isIn S2 a1 33 126 (fun r5 S4 => ((¬ r5 = 0 → kT S4 a0 = 7 ∧ ((¬ (sI S4 a0 25) = 60 → kT S4 (sR S4 a0 24) = 9 ∧ vp_in (sI S4 a0 25) (kL S4 (sR S4 a0 24)) ∧ ∀ S9 : MS, S9 = pI S4 (sR S4 a0 24) (ix (sI S4 a0 25)) a1 → ∀ S12 : MS, S12 = pI S9 a0 25 ((sI S9 a0 25) + 1) → post (sI S12 a0 25) S12) ∧ ((sI S4 a0 25) = 60 → w_X6_fail S4 a0 2 (fun r16 S15 => post r16 S15)))) ∧ (r5 = 0 → kT S4 a0 = 7 ∧ w_X6_fail S4 a0 1 (fun r20 S19 => post r20 S19))))
set_option maxHeartbeats 4000000 in
set_option maxRecDepth 100000 in
theorem ct_X6_appendCharacter (l : Launch) (G : GP) (S : MS) (a0 : Nat) (a1 : Int32) (post : Int32 → MS → Prop) (h : w_X6_appendCharacter S a0 a1 post) : MetM l yX6_appendCharacter cX6_appendCharacter 2 (some .int) rm_X6_appendCharacter [rf a0, .int a1] G S (pI_ post) := by
  refine met_of (by decide) (cat1_r (cat1_i cat1_n)) (Nat.le_of_ble_eq_true rfl) ?_
  intro p e s m args below meth c X hr hlk hin
  refine gd_aload_n (pc := 0) X 0 dX6_appendCharacter_0 rfl ?_
  refine gd_iconst (pc := 1) X (0) dX6_appendCharacter_1 (by decide) ?_
  obtain ⟨hk1, h⟩ := h
  refine gd_putI (pc := 2) (kf := 0) X ci6 (by decide) rfl rfl tw_983 rfl rfl dX6_appendCharacter_2 hk1 ?_
  refine gd_topS (fun S2 hS2 => ?_)
  have h := h S2 hS2
  have hk3 : kT S2 a0 = 7 := by rw [hS2]; exact hk1
  refine gd_iload_n (pc := 5) X 1 dX6_appendCharacter_5 rfl ?_
  refine gd_bipush (pc := 6) X (33) dX6_appendCharacter_6 (by decide) ?_
  refine gd_bipush (pc := 8) X (126) dX6_appendCharacter_8 (by decide) ?_
  refine gd_callS (pc := 10) (As := [.int a1, .int 33, .int 126]) (rest := []) X (ct_X6_isIn l G S2 a1 33 126 _ h) mw_X6_isIn tw_1082 ⟨(Nat.le_of_ble_eq_true rfl), (Nat.le_of_ble_eq_true rfl)⟩ rfl rfl (Nat.le_of_ble_eq_true rfl) dX6_appendCharacter_10 ⟨Nat.le_of_ble_eq_true rfl, Nat.le_of_ble_eq_true rfl⟩ (kI (fun r5 S4 h => ?_))
  refine gd_wide (k2 := 0) (j2 := 0) (Nat.le_of_ble_eq_true rfl) (Nat.le_of_ble_eq_true rfl) ?_
  refine gd_if_ne (pc := 13) X 22 dX6_appendCharacter_13 (by decide) (fun hc21 => ?_) (fun hc21 => ?_)
  · have h := h.1 hc21
    refine gd_aload_n (pc := 22) X 0 dX6_appendCharacter_22 rfl ?_
    obtain ⟨hk6, h⟩ := h
    refine gd_getI (pc := 23) (kf := 25) X ci6 (by decide) rfl tw_1008 dX6_appendCharacter_23 hk6 ?_
    refine gd_bipush (pc := 26) X (60) dX6_appendCharacter_26 (by decide) ?_
    refine gd_icmp_ne (pc := 28) X 37 dX6_appendCharacter_28 (by decide) (fun hc17 => ?_) (fun hc17 => ?_)
    · have h := h.1 hc17
      refine gd_aload_n (pc := 37) X 0 dX6_appendCharacter_37 rfl ?_
      refine gd_getR (pc := 38) (kf := 24) X ci6 (by decide) rfl tw_1007 dX6_appendCharacter_38 hk6 ?_
      refine gd_aload_n (pc := 41) X 0 dX6_appendCharacter_41 rfl ?_
      refine gd_getI (pc := 42) (kf := 25) X ci6 (by decide) rfl tw_1008 dX6_appendCharacter_42 hk6 ?_
      refine gd_iload_n (pc := 45) X 1 dX6_appendCharacter_45 rfl ?_
      obtain ⟨hk7, h⟩ := h
      obtain ⟨hi8, h⟩ := h
      refine gd_iast (pc := 46) X dX6_appendCharacter_46 hk7 hi8 ?_
      refine gd_topS (fun S9 hS9 => ?_)
      have h := h S9 hS9
      have hk10 : kT S9 a0 = 7 := by rw [hS9]; exact hk6
      have hk11 : kT S9 (sR S4 a0 24) = 9 := by rw [hS9]; exact hk7
      refine gd_aload_n (pc := 47) X 0 dX6_appendCharacter_47 rfl ?_
      refine gd_dupR (pc := 48) X dX6_appendCharacter_48 ?_
      refine gd_getI (pc := 49) (kf := 25) X ci6 (by decide) rfl tw_1008 dX6_appendCharacter_49 hk10 ?_
      refine gd_iconst (pc := 52) X (1) dX6_appendCharacter_52 (by decide) ?_
      refine gd_iadd (pc := 53) X dX6_appendCharacter_53 ?_
      refine gd_putI (pc := 54) (kf := 25) X ci6 (by decide) rfl rfl tw_1008 rfl rfl dX6_appendCharacter_54 hk10 ?_
      refine gd_topS (fun S12 hS12 => ?_)
      have h := h S12 hS12
      have hk13 : kT S12 a0 = 7 := by rw [hS12]; exact hk10
      have hk14 : kT S12 (sR S4 a0 24) = 9 := by rw [hS12]; exact hk11
      refine gd_aload_n (pc := 57) X 0 dX6_appendCharacter_57 rfl ?_
      refine gd_getI (pc := 58) (kf := 25) X ci6 (by decide) rfl tw_1008 dX6_appendCharacter_58 hk13 ?_
      exact (gd_ret_i (pc := 61) X hr hlk rfl (by decide) (by decide) dX6_appendCharacter_61 ⟨_, rfl, h⟩)
    · have h := h.2 hc17
      refine gd_aload_n (pc := 31) X 0 dX6_appendCharacter_31 rfl ?_
      refine gd_iconst (pc := 32) X (2) dX6_appendCharacter_32 (by decide) ?_
      refine gd_callV (pc := 33) (As := [.int 2]) (rest := []) X (ct_X6_fail l G S4 a0 2 _ h) mw_X6_fail tw_1101 ci6 rfl hk6 ⟨(Nat.le_of_ble_eq_true rfl), (Nat.le_of_ble_eq_true rfl)⟩ rfl rfl (Nat.le_of_ble_eq_true rfl) dX6_appendCharacter_33 ⟨Nat.le_of_ble_eq_true rfl, Nat.le_of_ble_eq_true rfl⟩ (kI (fun r16 S15 h => ?_))
      refine gd_wide (k2 := 0) (j2 := 0) (Nat.le_of_ble_eq_true rfl) (Nat.le_of_ble_eq_true rfl) ?_
      exact (gd_ret_i (pc := 36) X hr hlk rfl (by decide) (by decide) dX6_appendCharacter_36 ⟨_, rfl, h⟩)
  · have h := h.2 hc21
    refine gd_aload_n (pc := 16) X 0 dX6_appendCharacter_16 rfl ?_
    refine gd_iconst (pc := 17) X (1) dX6_appendCharacter_17 (by decide) ?_
    obtain ⟨hk18, h⟩ := h
    refine gd_callV (pc := 18) (As := [.int 1]) (rest := []) X (ct_X6_fail l G S4 a0 1 _ h) mw_X6_fail tw_1101 ci6 rfl hk18 ⟨(Nat.le_of_ble_eq_true rfl), (Nat.le_of_ble_eq_true rfl)⟩ rfl rfl (Nat.le_of_ble_eq_true rfl) dX6_appendCharacter_18 ⟨Nat.le_of_ble_eq_true rfl, Nat.le_of_ble_eq_true rfl⟩ (kI (fun r20 S19 h => ?_))
    refine gd_wide (k2 := 0) (j2 := 0) (Nat.le_of_ble_eq_true rfl) (Nat.le_of_ble_eq_true rfl) ?_
    exact (gd_ret_i (pc := 21) X hr hlk rfl (by decide) (by decide) dX6_appendCharacter_21 ⟨_, rfl, h⟩)
abbrev rm_X6_sign : Room := { frames := 0, cells := 0, slots := 0, locals := 0 }
def b_X6_sign_24 (post : Int32 → MS → Prop) (S : MS) (l0 : Nat) (s0 : Int32) : Prop := post s0 S
def w_X6_sign (S : MS) (a0 : Nat) (post : Int32 → MS → Prop) : Prop := kT S a0 = 7 ∧ (((sI S a0 26) ≤ (sI S a0 27) → b_X6_sign_24 post S a0 ((-1))) ∧ (¬ (sI S a0 26) ≤ (sI S a0 27) → kT S (sR S a0 24) = 9 ∧ vp_in (sI S a0 27) (kL S (sR S a0 24)) ∧ b_X6_sign_24 post S a0 (sI S (sR S a0 24) (ix (sI S a0 27)))))
set_option maxHeartbeats 4000000 in
set_option maxRecDepth 100000 in
theorem ct_X6_sign (l : Launch) (G : GP) (S : MS) (a0 : Nat) (post : Int32 → MS → Prop) (h : w_X6_sign S a0 post) : MetM l yX6_sign cX6_sign 1 (some .int) rm_X6_sign [rf a0] G S (pI_ post) := by
  refine met_of (by decide) (cat1_r cat1_n) (Nat.le_of_ble_eq_true rfl) ?_
  intro p e s m args below meth c X hr hlk hin
  revert h
  have g24 : ∀ (S : MS) (l0 : Nat) (s0 : Int32), b_X6_sign_24 post S l0 s0 → Gd p l e rm_X6_sign s m args below meth c 1 G (MQ below (QcM G (pI_ post)) args s rm_X6_sign.cells rm_X6_sign.slots (Ab G)) 0 0 S 24 [(0, rf l0)] [.int s0] := by
    intro S l0 s0 h
    exact (gd_ret_i (pc := 24) X hr hlk rfl (by decide) (by decide) dX6_sign_24 ⟨_, rfl, h⟩)
  intro h
  refine gd_aload_n (pc := 0) X 0 dX6_sign_0 rfl ?_
  obtain ⟨hk1, h⟩ := h
  refine gd_getI (pc := 1) (kf := 27) X ci6 (by decide) rfl tw_1010 dX6_sign_1 hk1 ?_
  refine gd_aload_n (pc := 4) X 0 dX6_sign_4 rfl ?_
  refine gd_getI (pc := 5) (kf := 26) X ci6 (by decide) rfl tw_1009 dX6_sign_5 hk1 ?_
  refine gd_icmp_ge (pc := 8) X 23 dX6_sign_8 (by decide) (fun hc4 => ?_) (fun hc4 => ?_)
  · have h := h.1 hc4
    refine gd_iconst (pc := 23) X (-1) dX6_sign_23 (by decide) ?_
    exact g24 _ _ _ h
  · have h := h.2 hc4
    refine gd_aload_n (pc := 11) X 0 dX6_sign_11 rfl ?_
    refine gd_getR (pc := 12) (kf := 24) X ci6 (by decide) rfl tw_1007 dX6_sign_12 hk1 ?_
    refine gd_aload_n (pc := 15) X 0 dX6_sign_15 rfl ?_
    refine gd_getI (pc := 16) (kf := 27) X ci6 (by decide) rfl tw_1010 dX6_sign_16 hk1 ?_
    obtain ⟨hk2, h⟩ := h
    obtain ⟨hi3, h⟩ := h
    refine gd_iald (pc := 19) X dX6_sign_19 hk2 hi3 ?_
    refine gd_goto (pc := 20) X 24 dX6_sign_20 (by decide) ?_
    exact g24 _ _ _ h
abbrev rm_X6_goes : Room := { frames := 1, cells := 0, slots := 0, locals := 20 }
def b_X6_goes_36 (post : Int32 → MS → Prop) (S : MS) (l0 : Nat) (l1 : Int32) (l2 : Int32) (s0 : Int32) (s1 : Int32) (s2 : Nat) : Prop := kT S s2 = 7 ∧ ∀ S2 : MS, S2 = pI S s2 27 (s1 + s0) → narrow .boolean (.int l2) = .int l2 ∧ post l2 S2
def b_X6_goes_21 (post : Int32 → MS → Prop) (S : MS) (l0 : Nat) (l1 : Int32) (s0 : Int32) : Prop := kT S l0 = 7 ∧ ((s0 = 0 → b_X6_goes_36 post S l0 l1 s0 0 (sI S l0 27) l0) ∧ (¬ s0 = 0 → b_X6_goes_36 post S l0 l1 s0 1 (sI S l0 27) l0))
def b_X6_goes_20 (post : Int32 → MS → Prop) (S : MS) (l0 : Nat) (l1 : Int32) : Prop := b_X6_goes_21 post S l0 l1 0
def w_X6_goes (S : MS) (a0 : Nat) (a1 : Int32) (post : Int32 → MS → Prop) : Prop := kT S a0 = 7 ∧ ((¬ (sI S a0 28) = ((-1)) → b_X6_goes_20 post S a0 a1) ∧ ((sI S a0 28) = ((-1)) → w_X6_sign S a0 (fun r3 S2 => ((¬ r3 = a1 → b_X6_goes_20 post S2 a0 a1) ∧ (r3 = a1 → b_X6_goes_21 post S2 a0 a1 1)))))
set_option maxHeartbeats 4000000 in
set_option maxRecDepth 100000 in
theorem ct_X6_goes (l : Launch) (G : GP) (S : MS) (a0 : Nat) (a1 : Int32) (post : Int32 → MS → Prop) (h : w_X6_goes S a0 a1 post) : MetM l yX6_goes cX6_goes 3 (some .boolean) rm_X6_goes [rf a0, .int a1] G S (pI_ post) := by
  refine met_of (by decide) (cat1_r (cat1_i cat1_n)) (Nat.le_of_ble_eq_true rfl) ?_
  intro p e s m args below meth c X hr hlk hin
  revert h
  have g36 : ∀ (S : MS) (l0 : Nat) (l1 : Int32) (l2 : Int32) (s0 : Int32) (s1 : Int32) (s2 : Nat), b_X6_goes_36 post S l0 l1 l2 s0 s1 s2 → Gd p l e rm_X6_goes s m args below meth c 3 G (MQ below (QcM G (pI_ post)) args s rm_X6_goes.cells rm_X6_goes.slots (Ab G)) 0 0 S 36 [(0, rf l0), (1, .int l1), (2, .int l2)] [.int s0, .int s1, rf s2] := by
    intro S l0 l1 l2 s0 s1 s2 h
    refine gd_iadd (pc := 36) X dX6_goes_36 ?_
    obtain ⟨hk1, h⟩ := h
    refine gd_putI (pc := 37) (kf := 27) X ci6 (by decide) rfl rfl tw_1010 rfl rfl dX6_goes_37 hk1 ?_
    refine gd_topS (fun S2 hS2 => ?_)
    have h := h S2 hS2
    have hk3 : kT S2 s2 = 7 := by rw [hS2]; exact hk1
    refine gd_iload_n (pc := 40) X 2 dX6_goes_40 rfl ?_
    obtain ⟨hnz, h⟩ := h
    exact (gd_ret_i (pc := 41) X hr hlk hnz (by decide) (by decide) dX6_goes_41 ⟨_, rfl, h⟩)
  have g21 : ∀ (S : MS) (l0 : Nat) (l1 : Int32) (s0 : Int32), b_X6_goes_21 post S l0 l1 s0 → Gd p l e rm_X6_goes s m args below meth c 3 G (MQ below (QcM G (pI_ post)) args s rm_X6_goes.cells rm_X6_goes.slots (Ab G)) 0 0 S 21 [(0, rf l0), (1, .int l1)] [.int s0] := by
    intro S l0 l1 s0 h
    refine gd_istore_n (pc := 21) X dX6_goes_21 (by decide) (E2 := [(2, .int s0), (0, rf l0), (1, .int l1)]) rfl ?_
    refine gd_aload_n (pc := 22) X 1 dX6_goes_22 rfl ?_
    refine gd_dupR (pc := 23) X dX6_goes_23 ?_
    obtain ⟨hk1, h⟩ := h
    refine gd_getI (pc := 24) (kf := 27) X ci6 (by decide) rfl tw_1010 dX6_goes_24 hk1 ?_
    refine gd_iload_n (pc := 27) X 0 dX6_goes_27 rfl ?_
    refine gd_if_eq (pc := 28) X 35 dX6_goes_28 (by decide) (fun hc2 => ?_) (fun hc2 => ?_)
    · have h := h.1 hc2
      refine gd_iconst (pc := 35) X (0) dX6_goes_35 (by decide) ?_
      refine gd_sub [1, 2, 0] rfl ?_
      exact g36 _ _ _ _ _ _ _ h
    · have h := h.2 hc2
      refine gd_iconst (pc := 31) X (1) dX6_goes_31 (by decide) ?_
      refine gd_goto (pc := 32) X 36 dX6_goes_32 (by decide) ?_
      refine gd_sub [1, 2, 0] rfl ?_
      exact g36 _ _ _ _ _ _ _ h
  have g20 : ∀ (S : MS) (l0 : Nat) (l1 : Int32), b_X6_goes_20 post S l0 l1 → Gd p l e rm_X6_goes s m args below meth c 3 G (MQ below (QcM G (pI_ post)) args s rm_X6_goes.cells rm_X6_goes.slots (Ab G)) 0 0 S 20 [(0, rf l0), (1, .int l1)] [] := by
    intro S l0 l1 h
    refine gd_iconst (pc := 20) X (0) dX6_goes_20 (by decide) ?_
    exact g21 _ _ _ _ h
  intro h
  refine gd_aload_n (pc := 0) X 0 dX6_goes_0 rfl ?_
  obtain ⟨hk1, h⟩ := h
  refine gd_getI (pc := 1) (kf := 28) X ci6 (by decide) rfl tw_1011 dX6_goes_1 hk1 ?_
  refine gd_iconst (pc := 4) X (-1) dX6_goes_4 (by decide) ?_
  refine gd_icmp_ne (pc := 5) X 20 dX6_goes_5 (by decide) (fun hc5 => ?_) (fun hc5 => ?_)
  · have h := h.1 hc5
    exact g20 _ _ _ h
  · have h := h.2 hc5
    refine gd_aload_n (pc := 8) X 0 dX6_goes_8 rfl ?_
    refine gd_callV (pc := 9) (As := []) (rest := []) X (ct_X6_sign l G S a0 _ h) mw_X6_sign tw_1392 ci6 rfl hk1 ⟨(Nat.le_of_ble_eq_true rfl), (Nat.le_of_ble_eq_true rfl)⟩ rfl rfl (Nat.le_of_ble_eq_true rfl) dX6_goes_9 ⟨Nat.le_of_ble_eq_true rfl, Nat.le_of_ble_eq_true rfl⟩ (kI (fun r3 S2 h => ?_))
    refine gd_wide (k2 := 0) (j2 := 0) (Nat.le_of_ble_eq_true rfl) (Nat.le_of_ble_eq_true rfl) ?_
    refine gd_iload_n (pc := 12) X 1 dX6_goes_12 rfl ?_
    refine gd_icmp_ne (pc := 13) X 20 dX6_goes_13 (by decide) (fun hc4 => ?_) (fun hc4 => ?_)
    · have h := h.1 hc4
      exact g20 _ _ _ h
    · have h := h.2 hc4
      refine gd_iconst (pc := 16) X (1) dX6_goes_16 (by decide) ?_
      refine gd_goto (pc := 17) X 21 dX6_goes_17 (by decide) ?_
      exact g21 _ _ _ _ h
abbrev rm_X6_fault : Room := { frames := 0, cells := 0, slots := 0, locals := 0 }
def b_X6_fault_20 (post : MS → Prop) (S : MS) (l0 : Nat) (s0 : Int32) (s1 : Nat) : Prop := kT S s1 = 7 ∧ ∀ S2 : MS, S2 = pI S s1 28 s0 → post S2
def w_X6_fault (S : MS) (a0 : Nat) (post : MS → Prop) : Prop := kT S a0 = 7 ∧ ((¬ (sI S a0 28) = ((-1)) → b_X6_fault_20 post S a0 (sI S a0 28) a0) ∧ ((sI S a0 28) = ((-1)) → b_X6_fault_20 post S a0 (sI S a0 27) a0))
set_option maxHeartbeats 4000000 in
set_option maxRecDepth 100000 in
theorem ct_X6_fault (l : Launch) (G : GP) (S : MS) (a0 : Nat) (post : MS → Prop) (h : w_X6_fault S a0 post) : MetM l yX6_fault cX6_fault 1 none rm_X6_fault [rf a0] G S (pV_ post) := by
  refine met_of (by decide) (cat1_r cat1_n) (Nat.le_of_ble_eq_true rfl) ?_
  intro p e s m args below meth c X hr hlk hin
  revert h
  have g20 : ∀ (S : MS) (l0 : Nat) (s0 : Int32) (s1 : Nat), b_X6_fault_20 post S l0 s0 s1 → Gd p l e rm_X6_fault s m args below meth c 1 G (MQ below (QcM G (pV_ post)) args s rm_X6_fault.cells rm_X6_fault.slots (Ab G)) 0 0 S 20 [(0, rf l0)] [.int s0, rf s1] := by
    intro S l0 s0 s1 h
    obtain ⟨hk1, h⟩ := h
    refine gd_putI (pc := 20) (kf := 28) X ci6 (by decide) rfl rfl tw_1011 rfl rfl dX6_fault_20 hk1 ?_
    refine gd_topS (fun S2 hS2 => ?_)
    have h := h S2 hS2
    have hk3 : kT S2 s1 = 7 := by rw [hS2]; exact hk1
    exact (gd_ret_v (pc := 23) X hr hlk (by decide) (by decide) dX6_fault_23 ⟨rfl, h⟩)
  intro h
  refine gd_aload_n (pc := 0) X 0 dX6_fault_0 rfl ?_
  refine gd_aload_n (pc := 1) X 0 dX6_fault_1 rfl ?_
  obtain ⟨hk1, h⟩ := h
  refine gd_getI (pc := 2) (kf := 28) X ci6 (by decide) rfl tw_1011 dX6_fault_2 hk1 ?_
  refine gd_iconst (pc := 5) X (-1) dX6_fault_5 (by decide) ?_
  refine gd_icmp_ne (pc := 6) X 16 dX6_fault_6 (by decide) (fun hc2 => ?_) (fun hc2 => ?_)
  · have h := h.1 hc2
    refine gd_aload_n (pc := 16) X 0 dX6_fault_16 rfl ?_
    refine gd_getI (pc := 17) (kf := 28) X ci6 (by decide) rfl tw_1011 dX6_fault_17 hk1 ?_
    exact g20 _ _ _ _ h
  · have h := h.2 hc2
    refine gd_aload_n (pc := 9) X 0 dX6_fault_9 rfl ?_
    refine gd_getI (pc := 10) (kf := 27) X ci6 (by decide) rfl tw_1010 dX6_fault_10 hk1 ?_
    refine gd_goto (pc := 13) X 20 dX6_fault_13 (by decide) ?_
    exact g20 _ _ _ _ h
abbrev rm_X6_expect : Room := { frames := 2, cells := 0, slots := 0, locals := 42 }
def b_X6_expect_12 (post : MS → Prop) (S : MS) (l0 : Nat) (l1 : Int32) : Prop := post S
def w_X6_expect (S : MS) (a0 : Nat) (a1 : Int32) (post : MS → Prop) : Prop := kT S a0 = 7 ∧ w_X6_goes S a0 a1 (fun r3 S2 => ((¬ r3 = 0 → b_X6_expect_12 post S2 a0 a1) ∧ (r3 = 0 → kT S2 a0 = 7 ∧ w_X6_fault S2 a0 (fun S5 => b_X6_expect_12 post S5 a0 a1))))
set_option maxHeartbeats 4000000 in
set_option maxRecDepth 100000 in
theorem ct_X6_expect (l : Launch) (G : GP) (S : MS) (a0 : Nat) (a1 : Int32) (post : MS → Prop) (h : w_X6_expect S a0 a1 post) : MetM l yX6_expect cX6_expect 2 none rm_X6_expect [rf a0, .int a1] G S (pV_ post) := by
  refine met_of (by decide) (cat1_r (cat1_i cat1_n)) (Nat.le_of_ble_eq_true rfl) ?_
  intro p e s m args below meth c X hr hlk hin
  revert h
  have g12 : ∀ (S : MS) (l0 : Nat) (l1 : Int32), b_X6_expect_12 post S l0 l1 → Gd p l e rm_X6_expect s m args below meth c 2 G (MQ below (QcM G (pV_ post)) args s rm_X6_expect.cells rm_X6_expect.slots (Ab G)) 0 0 S 12 [(0, rf l0), (1, .int l1)] [] := by
    intro S l0 l1 h
    exact (gd_ret_v (pc := 12) X hr hlk (by decide) (by decide) dX6_expect_12 ⟨rfl, h⟩)
  intro h
  refine gd_aload_n (pc := 0) X 0 dX6_expect_0 rfl ?_
  refine gd_iload_n (pc := 1) X 1 dX6_expect_1 rfl ?_
  obtain ⟨hk1, h⟩ := h
  refine gd_callV (pc := 2) (As := [.int a1]) (rest := []) X (ct_X6_goes l G S a0 a1 _ h) mw_X6_goes tw_1388 ci6 rfl hk1 ⟨(Nat.le_of_ble_eq_true rfl), (Nat.le_of_ble_eq_true rfl)⟩ rfl rfl (Nat.le_of_ble_eq_true rfl) dX6_expect_2 ⟨Nat.le_of_ble_eq_true rfl, Nat.le_of_ble_eq_true rfl⟩ (kI (fun r3 S2 h => ?_))
  refine gd_wide (k2 := 0) (j2 := 0) (Nat.le_of_ble_eq_true rfl) (Nat.le_of_ble_eq_true rfl) ?_
  refine gd_if_ne (pc := 5) X 12 dX6_expect_5 (by decide) (fun hc7 => ?_) (fun hc7 => ?_)
  · have h := h.1 hc7
    exact g12 _ _ _ h
  · have h := h.2 hc7
    refine gd_aload_n (pc := 8) X 0 dX6_expect_8 rfl ?_
    obtain ⟨hk4, h⟩ := h
    refine gd_callV (pc := 9) (As := []) (rest := []) X (ct_X6_fault l G S2 a0 _ h) mw_X6_fault tw_1396 ci6 rfl hk4 ⟨(Nat.le_of_ble_eq_true rfl), (Nat.le_of_ble_eq_true rfl)⟩ rfl rfl (Nat.le_of_ble_eq_true rfl) dX6_expect_9 ⟨Nat.le_of_ble_eq_true rfl, Nat.le_of_ble_eq_true rfl⟩ (kV (fun S5 h => ?_))
    refine gd_wide (k2 := 0) (j2 := 0) (Nat.le_of_ble_eq_true rfl) (Nat.le_of_ble_eq_true rfl) ?_
    exact g12 _ _ _ h
abbrev rm_X6_isDigit : Room := { frames := 1, cells := 0, slots := 0, locals := 22 }
def b_X6_isDigit_27 (post : Int32 → MS → Prop) (S : MS) (l0 : Nat) (s0 : Int32) : Prop := narrow .boolean (.int s0) = .int s0 ∧ post s0 S
def b_X6_isDigit_26 (post : Int32 → MS → Prop) (S : MS) (l0 : Nat) : Prop := b_X6_isDigit_27 post S l0 0
def w_X6_isDigit (S : MS) (a0 : Nat) (post : Int32 → MS → Prop) : Prop := kT S a0 = 7 ∧ ((¬ (sI S a0 28) = ((-1)) → b_X6_isDigit_26 post S a0) ∧ ((sI S a0 28) = ((-1)) → w_X6_sign S a0 (fun r3 S2 => w_X6_isIn S2 r3 48 57 (fun r5 S4 => ((r5 = 0 → b_X6_isDigit_26 post S4 a0) ∧ (¬ r5 = 0 → b_X6_isDigit_27 post S4 a0 1))))))
set_option maxHeartbeats 4000000 in
set_option maxRecDepth 100000 in
theorem ct_X6_isDigit (l : Launch) (G : GP) (S : MS) (a0 : Nat) (post : Int32 → MS → Prop) (h : w_X6_isDigit S a0 post) : MetM l yX6_isDigit cX6_isDigit 1 (some .boolean) rm_X6_isDigit [rf a0] G S (pI_ post) := by
  refine met_of (by decide) (cat1_r cat1_n) (Nat.le_of_ble_eq_true rfl) ?_
  intro p e s m args below meth c X hr hlk hin
  revert h
  have g27 : ∀ (S : MS) (l0 : Nat) (s0 : Int32), b_X6_isDigit_27 post S l0 s0 → Gd p l e rm_X6_isDigit s m args below meth c 1 G (MQ below (QcM G (pI_ post)) args s rm_X6_isDigit.cells rm_X6_isDigit.slots (Ab G)) 0 0 S 27 [(0, rf l0)] [.int s0] := by
    intro S l0 s0 h
    obtain ⟨hnz, h⟩ := h
    exact (gd_ret_i (pc := 27) X hr hlk hnz (by decide) (by decide) dX6_isDigit_27 ⟨_, rfl, h⟩)
  have g26 : ∀ (S : MS) (l0 : Nat), b_X6_isDigit_26 post S l0 → Gd p l e rm_X6_isDigit s m args below meth c 1 G (MQ below (QcM G (pI_ post)) args s rm_X6_isDigit.cells rm_X6_isDigit.slots (Ab G)) 0 0 S 26 [(0, rf l0)] [] := by
    intro S l0 h
    refine gd_iconst (pc := 26) X (0) dX6_isDigit_26 (by decide) ?_
    exact g27 _ _ _ h
  intro h
  refine gd_aload_n (pc := 0) X 0 dX6_isDigit_0 rfl ?_
  obtain ⟨hk1, h⟩ := h
  refine gd_getI (pc := 1) (kf := 28) X ci6 (by decide) rfl tw_1011 dX6_isDigit_1 hk1 ?_
  refine gd_iconst (pc := 4) X (-1) dX6_isDigit_4 (by decide) ?_
  refine gd_icmp_ne (pc := 5) X 26 dX6_isDigit_5 (by decide) (fun hc7 => ?_) (fun hc7 => ?_)
  · have h := h.1 hc7
    exact g26 _ _ h
  · have h := h.2 hc7
    refine gd_aload_n (pc := 8) X 0 dX6_isDigit_8 rfl ?_
    refine gd_callV (pc := 9) (As := []) (rest := []) X (ct_X6_sign l G S a0 _ h) mw_X6_sign tw_1392 ci6 rfl hk1 ⟨(Nat.le_of_ble_eq_true rfl), (Nat.le_of_ble_eq_true rfl)⟩ rfl rfl (Nat.le_of_ble_eq_true rfl) dX6_isDigit_9 ⟨Nat.le_of_ble_eq_true rfl, Nat.le_of_ble_eq_true rfl⟩ (kI (fun r3 S2 h => ?_))
    refine gd_wide (k2 := 0) (j2 := 0) (Nat.le_of_ble_eq_true rfl) (Nat.le_of_ble_eq_true rfl) ?_
    refine gd_bipush (pc := 12) X (48) dX6_isDigit_12 (by decide) ?_
    refine gd_bipush (pc := 14) X (57) dX6_isDigit_14 (by decide) ?_
    refine gd_callS (pc := 16) (As := [.int r3, .int 48, .int 57]) (rest := []) X (ct_X6_isIn l G S2 r3 48 57 _ h) mw_X6_isIn tw_1082 ⟨(Nat.le_of_ble_eq_true rfl), (Nat.le_of_ble_eq_true rfl)⟩ rfl rfl (Nat.le_of_ble_eq_true rfl) dX6_isDigit_16 ⟨Nat.le_of_ble_eq_true rfl, Nat.le_of_ble_eq_true rfl⟩ (kI (fun r5 S4 h => ?_))
    refine gd_wide (k2 := 0) (j2 := 0) (Nat.le_of_ble_eq_true rfl) (Nat.le_of_ble_eq_true rfl) ?_
    refine gd_if_eq (pc := 19) X 26 dX6_isDigit_19 (by decide) (fun hc6 => ?_) (fun hc6 => ?_)
    · have h := h.1 hc6
      exact g26 _ _ h
    · have h := h.2 hc6
      refine gd_iconst (pc := 22) X (1) dX6_isDigit_22 (by decide) ?_
      refine gd_goto (pc := 23) X 27 dX6_isDigit_23 (by decide) ?_
      exact g27 _ _ _ h
