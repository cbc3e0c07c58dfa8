abbrev rm_X6_list : Room := { frames := 0, cells := 0, slots := 0, locals := 0 }
def w_X6_list (S : MS) (a0 : Nat) (a1 : Int32) (a2 : Int32) (a3 : Int32) (a4 : Int32) (a5 : Int32) (a6 : Int32) (post : MS → Prop) : Prop := kT S a0 = 7 ∧ kT S (sR S a0 7) = 9 ∧ vp_in a1 (kL S (sR S a0 7)) ∧ ∀ v4 : Int32, v4 = 5 * ((24 * a1) + (sI S (sR S a0 7) (ix a1))) → kT S (sR S a0 8) = 9 ∧ vp_in v4 (kL S (sR S a0 8)) ∧ ∀ S7 : MS, S7 = pI S (sR S a0 8) (ix v4) a2 → kT S7 (sR S7 a0 8) = 9 ∧ vp_in (v4 + 1) (kL S7 (sR S7 a0 8)) ∧ ∀ S13 : MS, S13 = pI S7 (sR S7 a0 8) (ix (v4 + 1)) a3 → kT S13 (sR S13 a0 8) = 9 ∧ vp_in (v4 + 2) (kL S13 (sR S13 a0 8)) ∧ ∀ S20 : MS, S20 = pI S13 (sR S13 a0 8) (ix (v4 + 2)) a4 → kT S20 (sR S20 a0 8) = 9 ∧ vp_in (v4 + 3) (kL S20 (sR S20 a0 8)) ∧ ∀ S28 : MS, S28 = pI S20 (sR S20 a0 8) (ix (v4 + 3)) a5 → kT S28 (sR S28 a0 8) = 9 ∧ vp_in (v4 + 4) (kL S28 (sR S28 a0 8)) ∧ ∀ S37 : MS, S37 = pI S28 (sR S28 a0 8) (ix (v4 + 4)) a6 → kT S37 (sR S37 a0 7) = 9 ∧ vp_in a1 (kL S37 (sR S37 a0 7)) ∧ vp_in a1 (kL S37 (sR S37 a0 7)) ∧ ∀ S48 : MS, S48 = pI S37 (sR S37 a0 7) (ix a1) ((sI S37 (sR S37 a0 7) (ix a1)) + 1) → post S48
set_option maxHeartbeats 4000000 in
set_option maxRecDepth 100000 in
theorem ct_X6_list (l : Launch) (G : GP) (S : MS) (a0 : Nat) (a1 : Int32) (a2 : Int32) (a3 : Int32) (a4 : Int32) (a5 : Int32) (a6 : Int32) (post : MS → Prop) (h : w_X6_list S a0 a1 a2 a3 a4 a5 a6 post) : MetM l yX6_list cX6_list 8 none rm_X6_list [rf a0, .int a1, .int a2, .int a3, .int a4, .int a5, .int a6] G S (pV_ post) := by
  refine met_of (by decide) (cat1_r (cat1_i (cat1_i (cat1_i (cat1_i (cat1_i (cat1_i cat1_n))))))) (Nat.le_of_ble_eq_true rfl) ?_
  intro p e s m args below meth c X hr hlk hin
  refine gd_iconst (pc := 0) X (5) dX6_list_0 (by decide) ?_
  refine gd_bipush (pc := 1) X (24) dX6_list_1 (by decide) ?_
  refine gd_iload_n (pc := 3) X 1 dX6_list_3 rfl ?_
  refine gd_imul (pc := 4) X dX6_list_4 ?_
  refine gd_aload_n (pc := 5) X 0 dX6_list_5 rfl ?_
  obtain ⟨hk1, h⟩ := h
  refine gd_getR (pc := 6) (kf := 7) X ci6 (by decide) rfl tw_990 dX6_list_6 hk1 ?_
  refine gd_iload_n (pc := 9) X 1 dX6_list_9 rfl ?_
  obtain ⟨hk2, h⟩ := h
  obtain ⟨hi3, h⟩ := h
  refine gd_iald (pc := 10) X dX6_list_10 hk2 hi3 ?_
  refine gd_iadd (pc := 11) X dX6_list_11 ?_
  refine gd_imul (pc := 12) X dX6_list_12 ?_
  refine gd_topI (fun v4 hv4 => ?_)
  have h := h v4 hv4
  refine gd_istore (pc := 13) X dX6_list_13 (by decide) (E2 := [(7, .int v4), (0, rf a0), (1, .int a1), (2, .int a2), (3, .int a3), (4, .int a4), (5, .int a5), (6, .int a6)]) rfl ?_
  refine gd_aload_n (pc := 15) X 1 dX6_list_15 rfl ?_
  refine gd_getR (pc := 16) (kf := 8) X ci6 (by decide) rfl tw_991 dX6_list_16 hk1 ?_
  refine gd_iload (pc := 19) X 0 dX6_list_19 rfl ?_
  refine gd_iload_n (pc := 21) X 3 dX6_list_21 rfl ?_
  obtain ⟨hk5, h⟩ := h
  obtain ⟨hi6, h⟩ := h
  refine gd_iast (pc := 22) X dX6_list_22 hk5 hi6 ?_
  refine gd_topS (fun S7 hS7 => ?_)
  have h := h S7 hS7
  have hk8 : kT S7 a0 = 7 := by rw [hS7]; exact hk1
  have hk9 : kT S7 (sR S a0 7) = 9 := by rw [hS7]; exact hk2
  have hk10 : kT S7 (sR S a0 8) = 9 := by rw [hS7]; exact hk5
  refine gd_aload_n (pc := 23) X 1 dX6_list_23 rfl ?_
  refine gd_getR (pc := 24) (kf := 8) X ci6 (by decide) rfl tw_991 dX6_list_24 hk8 ?_
  refine gd_iload (pc := 27) X 0 dX6_list_27 rfl ?_
  refine gd_iconst (pc := 29) X (1) dX6_list_29 (by decide) ?_
  refine gd_iadd (pc := 30) X dX6_list_30 ?_
  refine gd_iload_n (pc := 31) X 4 dX6_list_31 rfl ?_
  obtain ⟨hk11, h⟩ := h
  obtain ⟨hi12, h⟩ := h
  refine gd_iast (pc := 32) X dX6_list_32 hk11 hi12 ?_
  refine gd_topS (fun S13 hS13 => ?_)
  have h := h S13 hS13
  have hk14 : kT S13 a0 = 7 := by rw [hS13]; exact hk8
  have hk15 : kT S13 (sR S a0 7) = 9 := by rw [hS13]; exact hk9
  have hk16 : kT S13 (sR S a0 8) = 9 := by rw [hS13]; exact hk10
  have hk17 : kT S13 (sR S7 a0 8) = 9 := by rw [hS13]; exact hk11
  refine gd_aload_n (pc := 33) X 1 dX6_list_33 rfl ?_
  refine gd_getR (pc := 34) (kf := 8) X ci6 (by decide) rfl tw_991 dX6_list_34 hk14 ?_
  refine gd_iload (pc := 37) X 0 dX6_list_37 rfl ?_
  refine gd_iconst (pc := 39) X (2) dX6_list_39 (by decide) ?_
  refine gd_iadd (pc := 40) X dX6_list_40 ?_
  refine gd_iload (pc := 41) X 5 dX6_list_41 rfl ?_
  obtain ⟨hk18, h⟩ := h
  obtain ⟨hi19, h⟩ := h
  refine gd_iast (pc := 43) X dX6_list_43 hk18 hi19 ?_
  refine gd_topS (fun S20 hS20 => ?_)
  have h := h S20 hS20
  have hk21 : kT S20 a0 = 7 := by rw [hS20]; exact hk14
  have hk22 : kT S20 (sR S a0 7) = 9 := by rw [hS20]; exact hk15
  have hk23 : kT S20 (sR S a0 8) = 9 := by rw [hS20]; exact hk16
  have hk24 : kT S20 (sR S7 a0 8) = 9 := by rw [hS20]; exact hk17
  have hk25 : kT S20 (sR S13 a0 8) = 9 := by rw [hS20]; exact hk18
  refine gd_aload_n (pc := 44) X 1 dX6_list_44 rfl ?_
  refine gd_getR (pc := 45) (kf := 8) X ci6 (by decide) rfl tw_991 dX6_list_45 hk21 ?_
  refine gd_iload (pc := 48) X 0 dX6_list_48 rfl ?_
  refine gd_iconst (pc := 50) X (3) dX6_list_50 (by decide) ?_
  refine gd_iadd (pc := 51) X dX6_list_51 ?_
  refine gd_iload (pc := 52) X 6 dX6_list_52 rfl ?_
  obtain ⟨hk26, h⟩ := h
  obtain ⟨hi27, h⟩ := h
  refine gd_iast (pc := 54) X dX6_list_54 hk26 hi27 ?_
  refine gd_topS (fun S28 hS28 => ?_)
  have h := h S28 hS28
  have hk29 : kT S28 a0 = 7 := by rw [hS28]; exact hk21
  have hk30 : kT S28 (sR S a0 7) = 9 := by rw [hS28]; exact hk22
  have hk31 : kT S28 (sR S a0 8) = 9 := by rw [hS28]; exact hk23
  have hk32 : kT S28 (sR S7 a0 8) = 9 := by rw [hS28]; exact hk24
  have hk33 : kT S28 (sR S13 a0 8) = 9 := by rw [hS28]; exact hk25
  have hk34 : kT S28 (sR S20 a0 8) = 9 := by rw [hS28]; exact hk26
  refine gd_aload_n (pc := 55) X 1 dX6_list_55 rfl ?_
  refine gd_getR (pc := 56) (kf := 8) X ci6 (by decide) rfl tw_991 dX6_list_56 hk29 ?_
  refine gd_iload (pc := 59) X 0 dX6_list_59 rfl ?_
  refine gd_iconst (pc := 61) X (4) dX6_list_61 (by decide) ?_
  refine gd_iadd (pc := 62) X dX6_list_62 ?_
  refine gd_iload (pc := 63) X 7 dX6_list_63 rfl ?_
  obtain ⟨hk35, h⟩ := h
  obtain ⟨hi36, h⟩ := h
  refine gd_iast (pc := 65) X dX6_list_65 hk35 hi36 ?_
  refine gd_topS (fun S37 hS37 => ?_)
  have h := h S37 hS37
  have hk38 : kT S37 a0 = 7 := by rw [hS37]; exact hk29
  have hk39 : kT S37 (sR S a0 7) = 9 := by rw [hS37]; exact hk30
  have hk40 : kT S37 (sR S a0 8) = 9 := by rw [hS37]; exact hk31
  have hk41 : kT S37 (sR S7 a0 8) = 9 := by rw [hS37]; exact hk32
  have hk42 : kT S37 (sR S13 a0 8) = 9 := by rw [hS37]; exact hk33
  have hk43 : kT S37 (sR S20 a0 8) = 9 := by rw [hS37]; exact hk34
  have hk44 : kT S37 (sR S28 a0 8) = 9 := by rw [hS37]; exact hk35
  refine gd_aload_n (pc := 66) X 1 dX6_list_66 rfl ?_
  refine gd_getR (pc := 67) (kf := 7) X ci6 (by decide) rfl tw_990 dX6_list_67 hk38 ?_
  refine gd_iload_n (pc := 70) X 2 dX6_list_70 rfl ?_
  refine gd_dup2 (pc := 71) X dX6_list_71 ?_
  obtain ⟨hk45, h⟩ := h
  obtain ⟨hi46, h⟩ := h
  refine gd_iald (pc := 72) X dX6_list_72 hk45 hi46 ?_
  refine gd_iconst (pc := 73) X (1) dX6_list_73 (by decide) ?_
  refine gd_iadd (pc := 74) X dX6_list_74 ?_
  obtain ⟨hi47, h⟩ := h
  refine gd_iast (pc := 75) X dX6_list_75 hk45 hi47 ?_
  refine gd_topS (fun S48 hS48 => ?_)
  have h := h S48 hS48
  have hk49 : kT S48 a0 = 7 := by rw [hS48]; exact hk38
  have hk50 : kT S48 (sR S a0 7) = 9 := by rw [hS48]; exact hk39
  have hk51 : kT S48 (sR S a0 8) = 9 := by rw [hS48]; exact hk40
  have hk52 : kT S48 (sR S7 a0 8) = 9 := by rw [hS48]; exact hk41
  have hk53 : kT S48 (sR S13 a0 8) = 9 := by rw [hS48]; exact hk42
  have hk54 : kT S48 (sR S20 a0 8) = 9 := by rw [hS48]; exact hk43
  have hk55 : kT S48 (sR S28 a0 8) = 9 := by rw [hS48]; exact hk44
  have hk56 : kT S48 (sR S37 a0 7) = 9 := by rw [hS48]; exact hk45
  exact (gd_ret_v (pc := 76) X hr hlk (by decide) (by decide) dX6_list_76 ⟨rfl, h⟩)
abbrev rm_X6_problem : Room := { frames := 2, cells := 0, slots := 0, locals := 43 }
def b_X6_problem_45 (post : Int32 → MS → Prop) (S : MS) (l0 : Nat) (l1 : Int32) (l2 : Int32) (s0 : Int32) : Prop := post s0 S
def b_X6_problem_40 (post : Int32 → MS → Prop) (S : MS) (l0 : Nat) (l1 : Int32) (l2 : Int32) : Prop := b_X6_problem_45 post S l0 l1 l2 3
def w_X6_problem (S : MS) (a0 : Nat) (a1 : Int32) (a2 : Int32) (post : Int32 → MS → Prop) : Prop := kT S a0 = 7 ∧ w_X6_isTransaction S a0 a1 (fun r3 S2 => ((¬ r3 = 0 → ((¬ a2 = 0 → kT S2 a0 = 7 ∧ kT S2 (sR S2 a0 2) = 9 ∧ vp_in a1 (kL S2 (sR S2 a0 2)) ∧ ((¬ (sI S2 (sR S2 a0 2) (ix a1)) = 0 → b_X6_problem_40 post S2 a0 a1 a2) ∧ ((sI S2 (sR S2 a0 2) (ix a1)) = 0 → kT S2 (sR S2 a0 7) = 9 ∧ vp_in a1 (kL S2 (sR S2 a0 7)) ∧ ((¬ (sI S2 (sR S2 a0 7) (ix a1)) = 24 → b_X6_problem_45 post S2 a0 a1 a2 0) ∧ ((sI S2 (sR S2 a0 7) (ix a1)) = 24 → b_X6_problem_40 post S2 a0 a1 a2))))) ∧ (a2 = 0 → b_X6_problem_45 post S2 a0 a1 a2 2))) ∧ (r3 = 0 → b_X6_problem_45 post S2 a0 a1 a2 1)))
set_option maxHeartbeats 4000000 in
set_option maxRecDepth 100000 in
theorem ct_X6_problem (l : Launch) (G : GP) (S : MS) (a0 : Nat) (a1 : Int32) (a2 : Int32) (post : Int32 → MS → Prop) (h : w_X6_problem S a0 a1 a2 post) : MetM l yX6_problem cX6_problem 3 (some .int) rm_X6_problem [rf a0, .int a1, .int a2] G S (pI_ post) := by
  refine met_of (by decide) (cat1_r (cat1_i (cat1_i cat1_n))) (Nat.le_of_ble_eq_true rfl) ?_
  intro p e s m args below meth c X hr hlk hin
  revert h
  have g45 : ∀ (S : MS) (l0 : Nat) (l1 : Int32) (l2 : Int32) (s0 : Int32), b_X6_problem_45 post S l0 l1 l2 s0 → Gd p l e rm_X6_problem s m args below meth c 3 G (MQ below (QcM G (pI_ post)) args s rm_X6_problem.cells rm_X6_problem.slots (Ab G)) 0 0 S 45 [(0, rf l0), (1, .int l1), (2, .int l2)] [.int s0] := by
    intro S l0 l1 l2 s0 h
    exact (gd_ret_i (pc := 45) X hr hlk rfl (by decide) (by decide) dX6_problem_45 ⟨_, rfl, h⟩)
  have g40 : ∀ (S : MS) (l0 : Nat) (l1 : Int32) (l2 : Int32), b_X6_problem_40 post S l0 l1 l2 → Gd p l e rm_X6_problem s m args below meth c 3 G (MQ below (QcM G (pI_ post)) args s rm_X6_problem.cells rm_X6_problem.slots (Ab G)) 0 0 S 40 [(0, rf l0), (1, .int l1), (2, .int l2)] [] := by
    intro S l0 l1 l2 h
    refine gd_iconst (pc := 40) X (3) dX6_problem_40 (by decide) ?_
    refine gd_goto (pc := 41) X 45 dX6_problem_41 (by decide) ?_
    exact g45 _ _ _ _ _ h
  intro h
  refine gd_aload_n (pc := 0) X 0 dX6_problem_0 rfl ?_
  refine gd_iload_n (pc := 1) X 1 dX6_problem_1 rfl ?_
  obtain ⟨hk1, h⟩ := h
  refine gd_callV (pc := 2) (As := [.int a1]) (rest := []) X (ct_X6_isTransaction l G S a0 a1 _ h) mw_X6_isTransaction tw_1109 ci6 rfl hk1 ⟨(Nat.le_of_ble_eq_true rfl), (Nat.le_of_ble_eq_true rfl)⟩ rfl rfl (Nat.le_of_ble_eq_true rfl) dX6_problem_2 ⟨Nat.le_of_ble_eq_true rfl, Nat.le_of_ble_eq_true rfl⟩ (kI (fun r3 S2 h => ?_))
  refine gd_wide (k2 := 0) (j2 := 0) (Nat.le_of_ble_eq_true rfl) (Nat.le_of_ble_eq_true rfl) ?_
  refine gd_if_ne (pc := 5) X 12 dX6_problem_5 (by decide) (fun hc12 => ?_) (fun hc12 => ?_)
  · have h := h.1 hc12
    refine gd_iload_n (pc := 12) X 2 dX6_problem_12 rfl ?_
    refine gd_if_ne (pc := 13) X 20 dX6_problem_13 (by decide) (fun hc11 => ?_) (fun hc11 => ?_)
    · have h := h.1 hc11
      refine gd_aload_n (pc := 20) X 0 dX6_problem_20 rfl ?_
      obtain ⟨hk4, h⟩ := h
      refine gd_getR (pc := 21) (kf := 2) X ci6 (by decide) rfl tw_985 dX6_problem_21 hk4 ?_
      refine gd_iload_n (pc := 24) X 1 dX6_problem_24 rfl ?_
      obtain ⟨hk5, h⟩ := h
      obtain ⟨hi6, h⟩ := h
      refine gd_iald (pc := 25) X dX6_problem_25 hk5 hi6 ?_
      refine gd_if_ne (pc := 26) X 40 dX6_problem_26 (by decide) (fun hc10 => ?_) (fun hc10 => ?_)
      · have h := h.1 hc10
        exact g40 _ _ _ _ h
      · have h := h.2 hc10
        refine gd_aload_n (pc := 29) X 0 dX6_problem_29 rfl ?_
        refine gd_getR (pc := 30) (kf := 7) X ci6 (by decide) rfl tw_990 dX6_problem_30 hk4 ?_
        refine gd_iload_n (pc := 33) X 1 dX6_problem_33 rfl ?_
        obtain ⟨hk7, h⟩ := h
        obtain ⟨hi8, h⟩ := h
        refine gd_iald (pc := 34) X dX6_problem_34 hk7 hi8 ?_
        refine gd_bipush (pc := 35) X (24) dX6_problem_35 (by decide) ?_
        refine gd_icmp_ne (pc := 37) X 44 dX6_problem_37 (by decide) (fun hc9 => ?_) (fun hc9 => ?_)
        · have h := h.1 hc9
          refine gd_iconst (pc := 44) X (0) dX6_problem_44 (by decide) ?_
          exact g45 _ _ _ _ _ h
        · have h := h.2 hc9
          exact g40 _ _ _ _ h
    · have h := h.2 hc11
      refine gd_iconst (pc := 16) X (2) dX6_problem_16 (by decide) ?_
      refine gd_goto (pc := 17) X 45 dX6_problem_17 (by decide) ?_
      exact g45 _ _ _ _ _ h
  · have h := h.2 hc12
    refine gd_iconst (pc := 8) X (1) dX6_problem_8 (by decide) ?_
    refine gd_goto (pc := 9) X 45 dX6_problem_9 (by decide) ?_
    exact g45 _ _ _ _ _ h
abbrev rm_X6_read : Room := { frames := 3, cells := 0, slots := 0, locals := 65 }
def w_X6_read (S : MS) (a0 : Nat) (a1 : Int32) (a2 : Int32) (post : Int32 → MS → Prop) : Prop := w_X6_isKey S a2 (fun r2 S1 => kT S1 a0 = 7 ∧ w_X6_problem S1 a0 a1 r2 (fun r5 S4 => kT S4 a0 = 7 ∧ ∀ S7 : MS, S7 = pI S4 a0 0 r5 → (((sI S7 a0 0) = 0 → w_X6_recordKey S7 a0 a1 a2 (fun S9 => kT S9 a0 = 7 ∧ w_X6_viewed S9 a0 a1 a2 (fun r13 S12 => kT S12 a0 = 7 ∧ w_X6_list S12 a0 a1 0 a2 0 0 r13 (fun S15 => post r13 S15)))) ∧ (¬ (sI S7 a0 0) = 0 → post 0 S7))))
set_option maxHeartbeats 4000000 in
set_option maxRecDepth 100000 in
theorem ct_X6_read (l : Launch) (G : GP) (S : MS) (a0 : Nat) (a1 : Int32) (a2 : Int32) (post : Int32 → MS → Prop) (h : w_X6_read S a0 a1 a2 post) : MetM l yX6_read cX6_read 4 (some .int) rm_X6_read [rf a0, .int a1, .int a2] G S (pI_ post) := by
  refine met_of (by decide) (cat1_r (cat1_i (cat1_i cat1_n))) (Nat.le_of_ble_eq_true rfl) ?_
  intro p e s m args below meth c X hr hlk hin
  refine gd_aload_n (pc := 0) X 0 dX6_read_0 rfl ?_
  refine gd_aload_n (pc := 1) X 0 dX6_read_1 rfl ?_
  refine gd_iload_n (pc := 2) X 1 dX6_read_2 rfl ?_
  refine gd_iload_n (pc := 3) X 2 dX6_read_3 rfl ?_
  refine gd_callS (pc := 4) (As := [.int a2]) (rest := [.int a1, rf a0, rf a0]) X (ct_X6_isKey l G S a2 _ h) mw_X6_isKey tw_1117 ⟨(Nat.le_of_ble_eq_true rfl), (Nat.le_of_ble_eq_true rfl)⟩ rfl rfl (Nat.le_of_ble_eq_true rfl) dX6_read_4 ⟨Nat.le_of_ble_eq_true rfl, Nat.le_of_ble_eq_true rfl⟩ (kI (fun r2 S1 h => ?_))
  refine gd_wide (k2 := 0) (j2 := 0) (Nat.le_of_ble_eq_true rfl) (Nat.le_of_ble_eq_true rfl) ?_
  obtain ⟨hk3, h⟩ := h
  refine gd_callV (pc := 7) (As := [.int a1, .int r2]) (rest := [rf a0]) X (ct_X6_problem l G S1 a0 a1 r2 _ h) mw_X6_problem tw_1120 ci6 rfl hk3 ⟨(Nat.le_of_ble_eq_true rfl), (Nat.le_of_ble_eq_true rfl)⟩ rfl rfl (Nat.le_of_ble_eq_true rfl) dX6_read_7 ⟨Nat.le_of_ble_eq_true rfl, Nat.le_of_ble_eq_true rfl⟩ (kI (fun r5 S4 h => ?_))
  refine gd_wide (k2 := 0) (j2 := 0) (Nat.le_of_ble_eq_true rfl) (Nat.le_of_ble_eq_true rfl) ?_
  obtain ⟨hk6, h⟩ := h
  refine gd_putI (pc := 10) (kf := 0) X ci6 (by decide) rfl rfl tw_983 rfl rfl dX6_read_10 hk6 ?_
  refine gd_topS (fun S7 hS7 => ?_)
  have h := h S7 hS7
  have hk8 : kT S7 a0 = 7 := by rw [hS7]; exact hk6
  refine gd_aload_n (pc := 13) X 0 dX6_read_13 rfl ?_
  refine gd_getI (pc := 14) (kf := 0) X ci6 (by decide) rfl tw_983 dX6_read_14 hk8 ?_
  refine gd_if_eq (pc := 17) X 22 dX6_read_17 (by decide) (fun hc17 => ?_) (fun hc17 => ?_)
  · have h := h.1 hc17
    refine gd_aload_n (pc := 22) X 0 dX6_read_22 rfl ?_
    refine gd_iload_n (pc := 23) X 1 dX6_read_23 rfl ?_
    refine gd_iload_n (pc := 24) X 2 dX6_read_24 rfl ?_
    refine gd_callV (pc := 25) (As := [.int a1, .int a2]) (rest := []) X (ct_X6_recordKey l G S7 a0 a1 a2 _ h) mw_X6_recordKey tw_1124 ci6 rfl hk8 ⟨(Nat.le_of_ble_eq_true rfl), (Nat.le_of_ble_eq_true rfl)⟩ rfl rfl (Nat.le_of_ble_eq_true rfl) dX6_read_25 ⟨Nat.le_of_ble_eq_true rfl, Nat.le_of_ble_eq_true rfl⟩ (kV (fun S9 h => ?_))
    refine gd_wide (k2 := 0) (j2 := 0) (Nat.le_of_ble_eq_true rfl) (Nat.le_of_ble_eq_true rfl) ?_
    refine gd_aload_n (pc := 28) X 0 dX6_read_28 rfl ?_
    refine gd_iload_n (pc := 29) X 1 dX6_read_29 rfl ?_
    refine gd_iload_n (pc := 30) X 2 dX6_read_30 rfl ?_
    obtain ⟨hk11, h⟩ := h
    refine gd_callV (pc := 31) (As := [.int a1, .int a2]) (rest := []) X (ct_X6_viewed l G S9 a0 a1 a2 _ h) mw_X6_viewed tw_1128 ci6 rfl hk11 ⟨(Nat.le_of_ble_eq_true rfl), (Nat.le_of_ble_eq_true rfl)⟩ rfl rfl (Nat.le_of_ble_eq_true rfl) dX6_read_31 ⟨Nat.le_of_ble_eq_true rfl, Nat.le_of_ble_eq_true rfl⟩ (kI (fun r13 S12 h => ?_))
    refine gd_wide (k2 := 0) (j2 := 0) (Nat.le_of_ble_eq_true rfl) (Nat.le_of_ble_eq_true rfl) ?_
    refine gd_istore_n (pc := 34) X dX6_read_34 (by decide) (E2 := [(3, .int r13), (0, rf a0), (1, .int a1), (2, .int a2)]) rfl ?_
    refine gd_aload_n (pc := 35) X 1 dX6_read_35 rfl ?_
    refine gd_iload_n (pc := 36) X 2 dX6_read_36 rfl ?_
    refine gd_iconst (pc := 37) X (0) dX6_read_37 (by decide) ?_
    refine gd_iload_n (pc := 38) X 3 dX6_read_38 rfl ?_
    refine gd_iconst (pc := 39) X (0) dX6_read_39 (by decide) ?_
    refine gd_iconst (pc := 40) X (0) dX6_read_40 (by decide) ?_
    refine gd_iload_n (pc := 41) X 0 dX6_read_41 rfl ?_
    obtain ⟨hk14, h⟩ := h
    refine gd_callV (pc := 42) (As := [.int a1, .int 0, .int a2, .int 0, .int 0, .int r13]) (rest := []) X (ct_X6_list l G S12 a0 a1 0 a2 0 0 r13 _ h) mw_X6_list tw_1136 ci6 rfl hk14 ⟨(Nat.le_of_ble_eq_true rfl), (Nat.le_of_ble_eq_true rfl)⟩ rfl rfl (Nat.le_of_ble_eq_true rfl) dX6_read_42 ⟨Nat.le_of_ble_eq_true rfl, Nat.le_of_ble_eq_true rfl⟩ (kV (fun S15 h => ?_))
    refine gd_wide (k2 := 0) (j2 := 0) (Nat.le_of_ble_eq_true rfl) (Nat.le_of_ble_eq_true rfl) ?_
    refine gd_iload_n (pc := 45) X 0 dX6_read_45 rfl ?_
    exact (gd_ret_i (pc := 46) X hr hlk rfl (by decide) (by decide) dX6_read_46 ⟨_, rfl, h⟩)
  · have h := h.2 hc17
    refine gd_iconst (pc := 20) X (0) dX6_read_20 (by decide) ?_
    exact (gd_ret_i (pc := 21) X hr hlk rfl (by decide) (by decide) dX6_read_21 ⟨_, rfl, h⟩)
abbrev rm_X6_counted : Room := { frames := 2, cells := 0, slots := 0, locals := 45 }
def b_X6_counted_31 (KH6 : MS → Nat → Int32 → Int32 → Int32 → Int32 → Int32 → Int32 → Prop) (post : Int32 → MS → Prop) (S : MS) (l0 : Nat) (l1 : Int32) (l2 : Int32) (l3 : Int32) (l4 : Int32) (l5 : Int32) (l6 : Int32) (s0 : Int32) (s1 : Int32) : Prop := ∀ v1 : Int32, v1 = s1 + s0 → ∀ v2 : Int32, v2 = l6 + 1 → KH6 S l0 l1 l2 l3 l4 v1 v2
def b_X6_counted_6 (post : Int32 → MS → Prop) : Nat → MS → Nat → Int32 → Int32 → Int32 → Int32 → Int32 → Int32 → Prop
  | 0 => fun _ _ _ _ _ _ _ _ => False
  | f + 1 => fun S l0 l1 l2 l3 l4 l5 l6 => ((l3 < l6 → post l5 S) ∧ (¬ l3 < l6 → kT S l0 = 7 ∧ w_X6_viewed S l0 l1 l6 (fun r3 S2 => ((r3 < l4 → b_X6_counted_31 (b_X6_counted_6 post f) post S2 l0 l1 l2 l3 l4 l5 l6 0 l5) ∧ (¬ r3 < l4 → b_X6_counted_31 (b_X6_counted_6 post f) post S2 l0 l1 l2 l3 l4 l5 l6 1 l5)))))
def w_X6_counted (S : MS) (a0 : Nat) (a1 : Int32) (a2 : Int32) (a3 : Int32) (a4 : Int32) (post : Int32 → MS → Prop) : Prop := ∃ f6, b_X6_counted_6 post f6 S a0 a1 a2 a3 a4 0 a2
set_option maxHeartbeats 4000000 in
set_option maxRecDepth 100000 in
theorem ct_X6_counted (l : Launch) (G : GP) (S : MS) (a0 : Nat) (a1 : Int32) (a2 : Int32) (a3 : Int32) (a4 : Int32) (post : Int32 → MS → Prop) (h : w_X6_counted S a0 a1 a2 a3 a4 post) : MetM l yX6_counted cX6_counted 7 (some .int) rm_X6_counted [rf a0, .int a1, .int a2, .int a3, .int a4] G S (pI_ post) := by
  refine met_of (by decide) (cat1_r (cat1_i (cat1_i (cat1_i (cat1_i cat1_n))))) (Nat.le_of_ble_eq_true rfl) ?_
  intro p e s m args below meth c X hr hlk hin
  revert h
  have g31 : ∀ (KH6 : MS → Nat → Int32 → Int32 → Int32 → Int32 → Int32 → Int32 → Prop) (hKH6 : ∀ (S : MS) (l0 : Nat) (l1 : Int32) (l2 : Int32) (l3 : Int32) (l4 : Int32) (l5 : Int32) (l6 : Int32), KH6 S l0 l1 l2 l3 l4 l5 l6 → Gd p l e rm_X6_counted s m args below meth c 7 G (MQ below (QcM G (pI_ post)) args s rm_X6_counted.cells rm_X6_counted.slots (Ab G)) 0 0 S 6 [(0, rf l0), (1, .int l1), (2, .int l2), (3, .int l3), (4, .int l4), (5, .int l5), (6, .int l6)] []) (S : MS) (l0 : Nat) (l1 : Int32) (l2 : Int32) (l3 : Int32) (l4 : Int32) (l5 : Int32) (l6 : Int32) (s0 : Int32) (s1 : Int32), b_X6_counted_31 KH6 post S l0 l1 l2 l3 l4 l5 l6 s0 s1 → Gd p l e rm_X6_counted s m args below meth c 7 G (MQ below (QcM G (pI_ post)) args s rm_X6_counted.cells rm_X6_counted.slots (Ab G)) 0 0 S 31 [(0, rf l0), (1, .int l1), (2, .int l2), (3, .int l3), (4, .int l4), (5, .int l5), (6, .int l6)] [.int s0, .int s1] := by
    intro KH6 hKH6 S l0 l1 l2 l3 l4 l5 l6 s0 s1 h
    refine gd_iadd (pc := 31) X dX6_counted_31 ?_
    refine gd_topI (fun v1 hv1 => ?_)
    have h := h v1 hv1
    refine gd_istore (pc := 32) X dX6_counted_32 (by decide) (E2 := [(5, .int v1), (0, rf l0), (1, .int l1), (2, .int l2), (3, .int l3), (4, .int l4), (6, .int l6)]) rfl ?_
    obtain ⟨v2, hv2⟩ : ∃ z : Int32, z = l6 + 1 := ⟨_, rfl⟩
    have h := h v2 hv2
    refine gd_iinc (pc := 34) (v := v2) X 6 dX6_counted_34 rfl (by rw [hv2]; rfl) (by decide) (E2 := [(6, .int v2), (5, .int v1), (0, rf l0), (1, .int l1), (2, .int l2), (3, .int l3), (4, .int l4)]) rfl ?_
    refine gd_goto (pc := 37) X 6 dX6_counted_37 (by decide) ?_
    refine gd_sub [2, 3, 4, 5, 6, 1, 0] rfl ?_
    exact hKH6 _ _ _ _ _ _ _ _ h
  have g6 : ∀ (f : Nat) (S : MS) (l0 : Nat) (l1 : Int32) (l2 : Int32) (l3 : Int32) (l4 : Int32) (l5 : Int32) (l6 : Int32), b_X6_counted_6 post f S l0 l1 l2 l3 l4 l5 l6 → Gd p l e rm_X6_counted s m args below meth c 7 G (MQ below (QcM G (pI_ post)) args s rm_X6_counted.cells rm_X6_counted.slots (Ab G)) 0 0 S 6 [(0, rf l0), (1, .int l1), (2, .int l2), (3, .int l3), (4, .int l4), (5, .int l5), (6, .int l6)] [] := by
    intro f
    induction f with
    | zero => intro S l0 l1 l2 l3 l4 l5 l6 h; exact h.elim
    | succ f ih =>
      intro S l0 l1 l2 l3 l4 l5 l6 h
      refine gd_iload (pc := 6) X 6 dX6_counted_6 rfl ?_
      refine gd_iload_n (pc := 8) X 3 dX6_counted_8 rfl ?_
      refine gd_icmp_gt (pc := 9) X 40 dX6_counted_9 (by decide) (fun hc5 => ?_) (fun hc5 => ?_)
      · have h := h.1 hc5
        refine gd_iload (pc := 40) X 5 dX6_counted_40 rfl ?_
        exact (gd_ret_i (pc := 42) X hr hlk rfl (by decide) (by decide) dX6_counted_42 ⟨_, rfl, h⟩)
      · have h := h.2 hc5
        refine gd_iload (pc := 12) X 5 dX6_counted_12 rfl ?_
        refine gd_aload_n (pc := 14) X 0 dX6_counted_14 rfl ?_
        refine gd_iload_n (pc := 15) X 1 dX6_counted_15 rfl ?_
        refine gd_iload (pc := 16) X 6 dX6_counted_16 rfl ?_
        obtain ⟨hk1, h⟩ := h
        refine gd_callV (pc := 18) (As := [.int l1, .int l6]) (rest := [.int l5]) X (ct_X6_viewed l G S l0 l1 l6 _ h) mw_X6_viewed tw_1128 ci6 rfl hk1 ⟨(Nat.le_of_ble_eq_true rfl), (Nat.le_of_ble_eq_true rfl)⟩ rfl rfl (Nat.le_of_ble_eq_true rfl) dX6_counted_18 ⟨Nat.le_of_ble_eq_true rfl, Nat.le_of_ble_eq_true rfl⟩ (kI (fun r3 S2 h => ?_))
        refine gd_wide (k2 := 0) (j2 := 0) (Nat.le_of_ble_eq_true rfl) (Nat.le_of_ble_eq_true rfl) ?_
        refine gd_iload (pc := 21) X 4 dX6_counted_21 rfl ?_
        refine gd_icmp_lt (pc := 23) X 30 dX6_counted_23 (by decide) (fun hc4 => ?_) (fun hc4 => ?_)
        · have h := h.1 hc4
          refine gd_iconst (pc := 30) X (0) dX6_counted_30 (by decide) ?_
          exact g31 _ ih _ _ _ _ _ _ _ _ _ _ h
        · have h := h.2 hc4
          refine gd_iconst (pc := 26) X (1) dX6_counted_26 (by decide) ?_
          refine gd_goto (pc := 27) X 31 dX6_counted_27 (by decide) ?_
          exact g31 _ ih _ _ _ _ _ _ _ _ _ _ h
  intro h
  refine gd_iconst (pc := 0) X (0) dX6_counted_0 (by decide) ?_
  refine gd_istore (pc := 1) X dX6_counted_1 (by decide) (E2 := [(5, .int 0), (0, rf a0), (1, .int a1), (2, .int a2), (3, .int a3), (4, .int a4)]) rfl ?_
  refine gd_iload_n (pc := 3) X 3 dX6_counted_3 rfl ?_
  refine gd_istore (pc := 4) X dX6_counted_4 (by decide) (E2 := [(6, .int a2), (5, .int 0), (0, rf a0), (1, .int a1), (2, .int a2), (3, .int a3), (4, .int a4)]) rfl ?_
  refine gd_sub [2, 3, 4, 5, 6, 1, 0] rfl ?_
  obtain ⟨f6, h⟩ := h
  exact g6 f6 _ _ _ _ _ _ _ _ h
abbrev rm_X6_scan : Room := { frames := 3, cells := 0, slots := 0, locals := 71 }
def b_X6_scan_30 (post : Int32 → MS → Prop) (S : MS) (l0 : Nat) (l1 : Int32) (l2 : Int32) (l3 : Int32) (l4 : Int32) (s0 : Int32) (s1 : Int32) (s2 : Nat) (s3 : Nat) : Prop := kT S s2 = 7 ∧ w_X6_problem S s2 s1 s0 (fun r3 S2 => kT S2 s3 = 7 ∧ ∀ S5 : MS, S5 = pI S2 s3 0 r3 → kT S5 l0 = 7 ∧ (((sI S5 l0 0) = 0 → w_X6_recordRange S5 l0 l1 l2 l3 l4 (fun S8 => kT S8 l0 = 7 ∧ w_X6_counted S8 l0 l1 l2 l3 l4 (fun r12 S11 => kT S11 l0 = 7 ∧ w_X6_list S11 l0 l1 1 l2 l3 l4 r12 (fun S14 => post r12 S14)))) ∧ (¬ (sI S5 l0 0) = 0 → post 0 S5)))
def b_X6_scan_29 (post : Int32 → MS → Prop) (S : MS) (l0 : Nat) (l1 : Int32) (l2 : Int32) (l3 : Int32) (l4 : Int32) (s0 : Int32) (s1 : Nat) (s2 : Nat) : Prop := b_X6_scan_30 post S l0 l1 l2 l3 l4 0 s0 s1 s2
def w_X6_scan (S : MS) (a0 : Nat) (a1 : Int32) (a2 : Int32) (a3 : Int32) (a4 : Int32) (post : Int32 → MS → Prop) : Prop := w_X6_isRange S a2 a3 (fun r2 S1 => ((r2 = 0 → b_X6_scan_29 post S1 a0 a1 a2 a3 a4 a1 a0 a0) ∧ (¬ r2 = 0 → w_X6_isIn S1 a4 ((-999)) 999 (fun r4 S3 => ((r4 = 0 → b_X6_scan_29 post S3 a0 a1 a2 a3 a4 a1 a0 a0) ∧ (¬ r4 = 0 → b_X6_scan_30 post S3 a0 a1 a2 a3 a4 1 a1 a0 a0))))))
set_option maxHeartbeats 4000000 in
set_option maxRecDepth 100000 in
theorem ct_X6_scan (l : Launch) (G : GP) (S : MS) (a0 : Nat) (a1 : Int32) (a2 : Int32) (a3 : Int32) (a4 : Int32) (post : Int32 → MS → Prop) (h : w_X6_scan S a0 a1 a2 a3 a4 post) : MetM l yX6_scan cX6_scan 6 (some .int) rm_X6_scan [rf a0, .int a1, .int a2, .int a3, .int a4] G S (pI_ post) := by
  refine met_of (by decide) (cat1_r (cat1_i (cat1_i (cat1_i (cat1_i cat1_n))))) (Nat.le_of_ble_eq_true rfl) ?_
  intro p e s m args below meth c X hr hlk hin
  revert h
  have g30 : ∀ (S : MS) (l0 : Nat) (l1 : Int32) (l2 : Int32) (l3 : Int32) (l4 : Int32) (s0 : Int32) (s1 : Int32) (s2 : Nat) (s3 : Nat), b_X6_scan_30 post S l0 l1 l2 l3 l4 s0 s1 s2 s3 → Gd p l e rm_X6_scan s m args below meth c 6 G (MQ below (QcM G (pI_ post)) args s rm_X6_scan.cells rm_X6_scan.slots (Ab G)) 0 0 S 30 [(0, rf l0), (1, .int l1), (2, .int l2), (3, .int l3), (4, .int l4)] [.int s0, .int s1, rf s2, rf s3] := by
    intro S l0 l1 l2 l3 l4 s0 s1 s2 s3 h
    obtain ⟨hk1, h⟩ := h
    refine gd_callV (pc := 30) (As := [.int s1, .int s0]) (rest := [rf s3]) X (ct_X6_problem l G S s2 s1 s0 _ h) mw_X6_problem tw_1120 ci6 rfl hk1 ⟨(Nat.le_of_ble_eq_true rfl), (Nat.le_of_ble_eq_true rfl)⟩ rfl rfl (Nat.le_of_ble_eq_true rfl) dX6_scan_30 ⟨Nat.le_of_ble_eq_true rfl, Nat.le_of_ble_eq_true rfl⟩ (kI (fun r3 S2 h => ?_))
    refine gd_wide (k2 := 0) (j2 := 0) (Nat.le_of_ble_eq_true rfl) (Nat.le_of_ble_eq_true rfl) ?_
    obtain ⟨hk4, h⟩ := h
    refine gd_putI (pc := 33) (kf := 0) X ci6 (by decide) rfl rfl tw_983 rfl rfl dX6_scan_33 hk4 ?_
    refine gd_topS (fun S5 hS5 => ?_)
    have h := h S5 hS5
    have hk6 : kT S5 s3 = 7 := by rw [hS5]; exact hk4
    refine gd_aload_n (pc := 36) X 0 dX6_scan_36 rfl ?_
    obtain ⟨hk7, h⟩ := h
    refine gd_getI (pc := 37) (kf := 0) X ci6 (by decide) rfl tw_983 dX6_scan_37 hk7 ?_
    refine gd_if_eq (pc := 40) X 45 dX6_scan_40 (by decide) (fun hc16 => ?_) (fun hc16 => ?_)
    · have h := h.1 hc16
      refine gd_aload_n (pc := 45) X 0 dX6_scan_45 rfl ?_
      refine gd_iload_n (pc := 46) X 1 dX6_scan_46 rfl ?_
      refine gd_iload_n (pc := 47) X 2 dX6_scan_47 rfl ?_
      refine gd_iload_n (pc := 48) X 3 dX6_scan_48 rfl ?_
      refine gd_iload (pc := 49) X 4 dX6_scan_49 rfl ?_
      refine gd_callV (pc := 51) (As := [.int l1, .int l2, .int l3, .int l4]) (rest := []) X (ct_X6_recordRange l G S5 l0 l1 l2 l3 l4 _ h) mw_X6_recordRange tw_1147 ci6 rfl hk7 ⟨(Nat.le_of_ble_eq_true rfl), (Nat.le_of_ble_eq_true rfl)⟩ rfl rfl (Nat.le_of_ble_eq_true rfl) dX6_scan_51 ⟨Nat.le_of_ble_eq_true rfl, Nat.le_of_ble_eq_true rfl⟩ (kV (fun S8 h => ?_))
      refine gd_wide (k2 := 0) (j2 := 0) (Nat.le_of_ble_eq_true rfl) (Nat.le_of_ble_eq_true rfl) ?_
      refine gd_aload_n (pc := 54) X 0 dX6_scan_54 rfl ?_
      refine gd_iload_n (pc := 55) X 1 dX6_scan_55 rfl ?_
      refine gd_iload_n (pc := 56) X 2 dX6_scan_56 rfl ?_
      refine gd_iload_n (pc := 57) X 3 dX6_scan_57 rfl ?_
      refine gd_iload (pc := 58) X 4 dX6_scan_58 rfl ?_
      obtain ⟨hk10, h⟩ := h
      refine gd_callV (pc := 60) (As := [.int l1, .int l2, .int l3, .int l4]) (rest := []) X (ct_X6_counted l G S8 l0 l1 l2 l3 l4 _ h) mw_X6_counted tw_1151 ci6 rfl hk10 ⟨(Nat.le_of_ble_eq_true rfl), (Nat.le_of_ble_eq_true rfl)⟩ rfl rfl (Nat.le_of_ble_eq_true rfl) dX6_scan_60 ⟨Nat.le_of_ble_eq_true rfl, Nat.le_of_ble_eq_true rfl⟩ (kI (fun r12 S11 h => ?_))
      refine gd_wide (k2 := 0) (j2 := 0) (Nat.le_of_ble_eq_true rfl) (Nat.le_of_ble_eq_true rfl) ?_
      refine gd_istore (pc := 63) X dX6_scan_63 (by decide) (E2 := [(5, .int r12), (0, rf l0), (1, .int l1), (2, .int l2), (3, .int l3), (4, .int l4)]) rfl ?_
      refine gd_aload_n (pc := 65) X 1 dX6_scan_65 rfl ?_
      refine gd_iload_n (pc := 66) X 2 dX6_scan_66 rfl ?_
      refine gd_iconst (pc := 67) X (1) dX6_scan_67 (by decide) ?_
      refine gd_iload_n (pc := 68) X 3 dX6_scan_68 rfl ?_
      refine gd_iload_n (pc := 69) X 4 dX6_scan_69 rfl ?_
      refine gd_iload (pc := 70) X 5 dX6_scan_70 rfl ?_
      refine gd_iload (pc := 72) X 0 dX6_scan_72 rfl ?_
      obtain ⟨hk13, h⟩ := h
      refine gd_callV (pc := 74) (As := [.int l1, .int 1, .int l2, .int l3, .int l4, .int r12]) (rest := []) X (ct_X6_list l G S11 l0 l1 1 l2 l3 l4 r12 _ h) mw_X6_list tw_1136 ci6 rfl hk13 ⟨(Nat.le_of_ble_eq_true rfl), (Nat.le_of_ble_eq_true rfl)⟩ rfl rfl (Nat.le_of_ble_eq_true rfl) dX6_scan_74 ⟨Nat.le_of_ble_eq_true rfl, Nat.le_of_ble_eq_true rfl⟩ (kV (fun S14 h => ?_))
      refine gd_wide (k2 := 0) (j2 := 0) (Nat.le_of_ble_eq_true rfl) (Nat.le_of_ble_eq_true rfl) ?_
      refine gd_iload (pc := 77) X 0 dX6_scan_77 rfl ?_
      exact (gd_ret_i (pc := 79) X hr hlk rfl (by decide) (by decide) dX6_scan_79 ⟨_, rfl, h⟩)
    · have h := h.2 hc16
      refine gd_iconst (pc := 43) X (0) dX6_scan_43 (by decide) ?_
      exact (gd_ret_i (pc := 44) X hr hlk rfl (by decide) (by decide) dX6_scan_44 ⟨_, rfl, h⟩)
  have g29 : ∀ (S : MS) (l0 : Nat) (l1 : Int32) (l2 : Int32) (l3 : Int32) (l4 : Int32) (s0 : Int32) (s1 : Nat) (s2 : Nat), b_X6_scan_29 post S l0 l1 l2 l3 l4 s0 s1 s2 → Gd p l e rm_X6_scan s m args below meth c 6 G (MQ below (QcM G (pI_ post)) args s rm_X6_scan.cells rm_X6_scan.slots (Ab G)) 0 0 S 29 [(0, rf l0), (1, .int l1), (2, .int l2), (3, .int l3), (4, .int l4)] [.int s0, rf s1, rf s2] := by
    intro S l0 l1 l2 l3 l4 s0 s1 s2 h
    refine gd_iconst (pc := 29) X (0) dX6_scan_29 (by decide) ?_
    exact g30 _ _ _ _ _ _ _ _ _ _ h
  intro h
  refine gd_aload_n (pc := 0) X 0 dX6_scan_0 rfl ?_
  refine gd_aload_n (pc := 1) X 0 dX6_scan_1 rfl ?_
  refine gd_iload_n (pc := 2) X 1 dX6_scan_2 rfl ?_
  refine gd_iload_n (pc := 3) X 2 dX6_scan_3 rfl ?_
  refine gd_iload_n (pc := 4) X 3 dX6_scan_4 rfl ?_
  refine gd_callS (pc := 5) (As := [.int a2, .int a3]) (rest := [.int a1, rf a0, rf a0]) X (ct_X6_isRange l G S a2 a3 _ h) mw_X6_isRange tw_1144 ⟨(Nat.le_of_ble_eq_true rfl), (Nat.le_of_ble_eq_true rfl)⟩ rfl rfl (Nat.le_of_ble_eq_true rfl) dX6_scan_5 ⟨Nat.le_of_ble_eq_true rfl, Nat.le_of_ble_eq_true rfl⟩ (kI (fun r2 S1 h => ?_))
  refine gd_wide (k2 := 0) (j2 := 0) (Nat.le_of_ble_eq_true rfl) (Nat.le_of_ble_eq_true rfl) ?_
  refine gd_if_eq (pc := 8) X 29 dX6_scan_8 (by decide) (fun hc6 => ?_) (fun hc6 => ?_)
  · have h := h.1 hc6
    exact g29 _ _ _ _ _ _ _ _ _ h
  · have h := h.2 hc6
    refine gd_iload (pc := 11) X 4 dX6_scan_11 rfl ?_
    refine gd_sipush (pc := 13) X (-999) dX6_scan_13 (by decide) ?_
    refine gd_sipush (pc := 16) X (999) dX6_scan_16 (by decide) ?_
    refine gd_callS (pc := 19) (As := [.int a4, .int ((-999)), .int 999]) (rest := [.int a1, rf a0, rf a0]) X (ct_X6_isIn l G S1 a4 ((-999)) 999 _ h) mw_X6_isIn tw_1082 ⟨(Nat.le_of_ble_eq_true rfl), (Nat.le_of_ble_eq_true rfl)⟩ rfl rfl (Nat.le_of_ble_eq_true rfl) dX6_scan_19 ⟨Nat.le_of_ble_eq_true rfl, Nat.le_of_ble_eq_true rfl⟩ (kI (fun r4 S3 h => ?_))
    refine gd_wide (k2 := 0) (j2 := 0) (Nat.le_of_ble_eq_true rfl) (Nat.le_of_ble_eq_true rfl) ?_
    refine gd_if_eq (pc := 22) X 29 dX6_scan_22 (by decide) (fun hc5 => ?_) (fun hc5 => ?_)
    · have h := h.1 hc5
      exact g29 _ _ _ _ _ _ _ _ _ h
    · have h := h.2 hc5
      refine gd_iconst (pc := 25) X (1) dX6_scan_25 (by decide) ?_
      refine gd_goto (pc := 26) X 30 dX6_scan_26 (by decide) ?_
      exact g30 _ _ _ _ _ _ _ _ _ _ h
abbrev rm_X6_summed : Room := { frames := 2, cells := 0, slots := 0, locals := 45 }
def b_X6_summed_37 (KH6 : MS → Nat → Int32 → Int32 → Int32 → Int32 → Int32 → Prop) (post : Int32 → MS → Prop) (S : MS) (l0 : Nat) (l1 : Int32) (l2 : Int32) (l3 : Int32) (l4 : Int32) (l5 : Int32) (l6 : Int32) (s0 : Int32) (s1 : Int32) : Prop := ∀ v1 : Int32, v1 = s1 + s0 → ∀ v2 : Int32, v2 = l5 + 1 → KH6 S l0 l1 l2 l3 v1 v2
def b_X6_summed_6 (post : Int32 → MS → Prop) : Nat → MS → Nat → Int32 → Int32 → Int32 → Int32 → Int32 → Prop
  | 0 => fun _ _ _ _ _ _ _ => False
  | f + 1 => fun S l0 l1 l2 l3 l4 l5 => ((l3 < l5 → post l4 S) ∧ (¬ l3 < l5 → kT S l0 = 7 ∧ w_X6_viewed S l0 l1 l5 (fun r3 S2 => ((¬ r3 = ((-1000)) → b_X6_summed_37 (b_X6_summed_6 post f) post S2 l0 l1 l2 l3 l4 l5 r3 r3 l4) ∧ (r3 = ((-1000)) → b_X6_summed_37 (b_X6_summed_6 post f) post S2 l0 l1 l2 l3 l4 l5 r3 0 l4)))))
def w_X6_summed (S : MS) (a0 : Nat) (a1 : Int32) (a2 : Int32) (a3 : Int32) (post : Int32 → MS → Prop) : Prop := ∃ f6, b_X6_summed_6 post f6 S a0 a1 a2 a3 0 a2
set_option maxHeartbeats 4000000 in
set_option maxRecDepth 100000 in
theorem ct_X6_summed (l : Launch) (G : GP) (S : MS) (a0 : Nat) (a1 : Int32) (a2 : Int32) (a3 : Int32) (post : Int32 → MS → Prop) (h : w_X6_summed S a0 a1 a2 a3 post) : MetM l yX6_summed cX6_summed 7 (some .int) rm_X6_summed [rf a0, .int a1, .int a2, .int a3] G S (pI_ post) := by
  refine met_of (by decide) (cat1_r (cat1_i (cat1_i (cat1_i cat1_n)))) (Nat.le_of_ble_eq_true rfl) ?_
  intro p e s m args below meth c X hr hlk hin
  revert h
  have g37 : ∀ (KH6 : MS → Nat → Int32 → Int32 → Int32 → Int32 → Int32 → Prop) (hKH6 : ∀ (S : MS) (l0 : Nat) (l1 : Int32) (l2 : Int32) (l3 : Int32) (l4 : Int32) (l5 : Int32), KH6 S l0 l1 l2 l3 l4 l5 → Gd p l e rm_X6_summed s m args below meth c 7 G (MQ below (QcM G (pI_ post)) args s rm_X6_summed.cells rm_X6_summed.slots (Ab G)) 0 0 S 6 [(0, rf l0), (1, .int l1), (2, .int l2), (3, .int l3), (4, .int l4), (5, .int l5)] []) (S : MS) (l0 : Nat) (l1 : Int32) (l2 : Int32) (l3 : Int32) (l4 : Int32) (l5 : Int32) (l6 : Int32) (s0 : Int32) (s1 : Int32), b_X6_summed_37 KH6 post S l0 l1 l2 l3 l4 l5 l6 s0 s1 → Gd p l e rm_X6_summed s m args below meth c 7 G (MQ below (QcM G (pI_ post)) args s rm_X6_summed.cells rm_X6_summed.slots (Ab G)) 0 0 S 37 [(0, rf l0), (1, .int l1), (2, .int l2), (3, .int l3), (4, .int l4), (5, .int l5), (6, .int l6)] [.int s0, .int s1] := by
    intro KH6 hKH6 S l0 l1 l2 l3 l4 l5 l6 s0 s1 h
    refine gd_iadd (pc := 37) X dX6_summed_37 ?_
    refine gd_topI (fun v1 hv1 => ?_)
    have h := h v1 hv1
    refine gd_istore (pc := 38) X dX6_summed_38 (by decide) (E2 := [(4, .int v1), (0, rf l0), (1, .int l1), (2, .int l2), (3, .int l3), (5, .int l5), (6, .int l6)]) rfl ?_
    obtain ⟨v2, hv2⟩ : ∃ z : Int32, z = l5 + 1 := ⟨_, rfl⟩
    have h := h v2 hv2
    refine gd_iinc (pc := 40) (v := v2) X 5 dX6_summed_40 rfl (by rw [hv2]; rfl) (by decide) (E2 := [(5, .int v2), (4, .int v1), (0, rf l0), (1, .int l1), (2, .int l2), (3, .int l3), (6, .int l6)]) rfl ?_
    refine gd_goto (pc := 43) X 6 dX6_summed_43 (by decide) ?_
    refine gd_sub [2, 3, 4, 5, 1, 0] rfl ?_
    exact hKH6 _ _ _ _ _ _ _ h
  have g6 : ∀ (f : Nat) (S : MS) (l0 : Nat) (l1 : Int32) (l2 : Int32) (l3 : Int32) (l4 : Int32) (l5 : Int32), b_X6_summed_6 post f S l0 l1 l2 l3 l4 l5 → Gd p l e rm_X6_summed s m args below meth c 7 G (MQ below (QcM G (pI_ post)) args s rm_X6_summed.cells rm_X6_summed.slots (Ab G)) 0 0 S 6 [(0, rf l0), (1, .int l1), (2, .int l2), (3, .int l3), (4, .int l4), (5, .int l5)] [] := by
    intro f
    induction f with
    | zero => intro S l0 l1 l2 l3 l4 l5 h; exact h.elim
    | succ f ih =>
      intro S l0 l1 l2 l3 l4 l5 h
      refine gd_iload (pc := 6) X 5 dX6_summed_6 rfl ?_
      refine gd_iload_n (pc := 8) X 3 dX6_summed_8 rfl ?_
      refine gd_icmp_gt (pc := 9) X 46 dX6_summed_9 (by decide) (fun hc5 => ?_) (fun hc5 => ?_)
      · have h := h.1 hc5
        refine gd_iload (pc := 46) X 4 dX6_summed_46 rfl ?_
        exact (gd_ret_i (pc := 48) X hr hlk rfl (by decide) (by decide) dX6_summed_48 ⟨_, rfl, h⟩)
      · have h := h.2 hc5
        refine gd_aload_n (pc := 12) X 0 dX6_summed_12 rfl ?_
        refine gd_iload_n (pc := 13) X 1 dX6_summed_13 rfl ?_
        refine gd_iload (pc := 14) X 5 dX6_summed_14 rfl ?_
        obtain ⟨hk1, h⟩ := h
        refine gd_callV (pc := 16) (As := [.int l1, .int l5]) (rest := []) X (ct_X6_viewed l G S l0 l1 l5 _ h) mw_X6_viewed tw_1128 ci6 rfl hk1 ⟨(Nat.le_of_ble_eq_true rfl), (Nat.le_of_ble_eq_true rfl)⟩ rfl rfl (Nat.le_of_ble_eq_true rfl) dX6_summed_16 ⟨Nat.le_of_ble_eq_true rfl, Nat.le_of_ble_eq_true rfl⟩ (kI (fun r3 S2 h => ?_))
        refine gd_wide (k2 := 0) (j2 := 0) (Nat.le_of_ble_eq_true rfl) (Nat.le_of_ble_eq_true rfl) ?_
        refine gd_istore (pc := 19) X dX6_summed_19 (by decide) (E2 := [(6, .int r3), (0, rf l0), (1, .int l1), (2, .int l2), (3, .int l3), (4, .int l4), (5, .int l5)]) rfl ?_
        refine gd_iload (pc := 21) X 5 dX6_summed_21 rfl ?_
        refine gd_iload (pc := 23) X 0 dX6_summed_23 rfl ?_
        refine gd_sipush (pc := 25) X (-1000) dX6_summed_25 (by decide) ?_
        refine gd_icmp_ne (pc := 28) X 35 dX6_summed_28 (by decide) (fun hc4 => ?_) (fun hc4 => ?_)
        · have h := h.1 hc4
          refine gd_iload (pc := 35) X 0 dX6_summed_35 rfl ?_
          refine gd_sub [1, 2, 3, 4, 5, 6, 0] rfl ?_
          exact g37 _ ih _ _ _ _ _ _ _ _ _ _ h
        · have h := h.2 hc4
          refine gd_iconst (pc := 31) X (0) dX6_summed_31 (by decide) ?_
          refine gd_goto (pc := 32) X 37 dX6_summed_32 (by decide) ?_
          refine gd_sub [1, 2, 3, 4, 5, 6, 0] rfl ?_
          exact g37 _ ih _ _ _ _ _ _ _ _ _ _ h
  intro h
  refine gd_iconst (pc := 0) X (0) dX6_summed_0 (by decide) ?_
  refine gd_istore (pc := 1) X dX6_summed_1 (by decide) (E2 := [(4, .int 0), (0, rf a0), (1, .int a1), (2, .int a2), (3, .int a3)]) rfl ?_
  refine gd_iload_n (pc := 3) X 3 dX6_summed_3 rfl ?_
  refine gd_istore (pc := 4) X dX6_summed_4 (by decide) (E2 := [(5, .int a2), (4, .int 0), (0, rf a0), (1, .int a1), (2, .int a2), (3, .int a3)]) rfl ?_
  refine gd_sub [2, 3, 4, 5, 1, 0] rfl ?_
  obtain ⟨f6, h⟩ := h
  exact g6 f6 _ _ _ _ _ _ _ h
abbrev rm_X6_sum : Room := { frames := 3, cells := 0, slots := 0, locals := 71 }
def w_X6_sum (S : MS) (a0 : Nat) (a1 : Int32) (a2 : Int32) (a3 : Int32) (post : Int32 → MS → Prop) : Prop := w_X6_isRange S a2 a3 (fun r2 S1 => kT S1 a0 = 7 ∧ w_X6_problem S1 a0 a1 r2 (fun r5 S4 => kT S4 a0 = 7 ∧ ∀ S7 : MS, S7 = pI S4 a0 0 r5 → (((sI S7 a0 0) = 0 → w_X6_recordRange S7 a0 a1 a2 a3 ((-999)) (fun S9 => kT S9 a0 = 7 ∧ w_X6_summed S9 a0 a1 a2 a3 (fun r13 S12 => kT S12 a0 = 7 ∧ w_X6_list S12 a0 a1 2 a2 a3 0 r13 (fun S15 => post r13 S15)))) ∧ (¬ (sI S7 a0 0) = 0 → post 0 S7))))
set_option maxHeartbeats 4000000 in
set_option maxRecDepth 100000 in
theorem ct_X6_sum (l : Launch) (G : GP) (S : MS) (a0 : Nat) (a1 : Int32) (a2 : Int32) (a3 : Int32) (post : Int32 → MS → Prop) (h : w_X6_sum S a0 a1 a2 a3 post) : MetM l yX6_sum cX6_sum 5 (some .int) rm_X6_sum [rf a0, .int a1, .int a2, .int a3] G S (pI_ post) := by
  refine met_of (by decide) (cat1_r (cat1_i (cat1_i (cat1_i cat1_n)))) (Nat.le_of_ble_eq_true rfl) ?_
  intro p e s m args below meth c X hr hlk hin
  refine gd_aload_n (pc := 0) X 0 dX6_sum_0 rfl ?_
  refine gd_aload_n (pc := 1) X 0 dX6_sum_1 rfl ?_
  refine gd_iload_n (pc := 2) X 1 dX6_sum_2 rfl ?_
  refine gd_iload_n (pc := 3) X 2 dX6_sum_3 rfl ?_
  refine gd_iload_n (pc := 4) X 3 dX6_sum_4 rfl ?_
  refine gd_callS (pc := 5) (As := [.int a2, .int a3]) (rest := [.int a1, rf a0, rf a0]) X (ct_X6_isRange l G S a2 a3 _ h) mw_X6_isRange tw_1144 ⟨(Nat.le_of_ble_eq_true rfl), (Nat.le_of_ble_eq_true rfl)⟩ rfl rfl (Nat.le_of_ble_eq_true rfl) dX6_sum_5 ⟨Nat.le_of_ble_eq_true rfl, Nat.le_of_ble_eq_true rfl⟩ (kI (fun r2 S1 h => ?_))
  refine gd_wide (k2 := 0) (j2 := 0) (Nat.le_of_ble_eq_true rfl) (Nat.le_of_ble_eq_true rfl) ?_
  obtain ⟨hk3, h⟩ := h
  refine gd_callV (pc := 8) (As := [.int a1, .int r2]) (rest := [rf a0]) X (ct_X6_problem l G S1 a0 a1 r2 _ h) mw_X6_problem tw_1120 ci6 rfl hk3 ⟨(Nat.le_of_ble_eq_true rfl), (Nat.le_of_ble_eq_true rfl)⟩ rfl rfl (Nat.le_of_ble_eq_true rfl) dX6_sum_8 ⟨Nat.le_of_ble_eq_true rfl, Nat.le_of_ble_eq_true rfl⟩ (kI (fun r5 S4 h => ?_))
  refine gd_wide (k2 := 0) (j2 := 0) (Nat.le_of_ble_eq_true rfl) (Nat.le_of_ble_eq_true rfl) ?_
  obtain ⟨hk6, h⟩ := h
  refine gd_putI (pc := 11) (kf := 0) X ci6 (by decide) rfl rfl tw_983 rfl rfl dX6_sum_11 hk6 ?_
  refine gd_topS (fun S7 hS7 => ?_)
  have h := h S7 hS7
  have hk8 : kT S7 a0 = 7 := by rw [hS7]; exact hk6
  refine gd_aload_n (pc := 14) X 0 dX6_sum_14 rfl ?_
  refine gd_getI (pc := 15) (kf := 0) X ci6 (by decide) rfl tw_983 dX6_sum_15 hk8 ?_
  refine gd_if_eq (pc := 18) X 23 dX6_sum_18 (by decide) (fun hc17 => ?_) (fun hc17 => ?_)
  · have h := h.1 hc17
    refine gd_aload_n (pc := 23) X 0 dX6_sum_23 rfl ?_
    refine gd_iload_n (pc := 24) X 1 dX6_sum_24 rfl ?_
    refine gd_iload_n (pc := 25) X 2 dX6_sum_25 rfl ?_
    refine gd_iload_n (pc := 26) X 3 dX6_sum_26 rfl ?_
    refine gd_sipush (pc := 27) X (-999) dX6_sum_27 (by decide) ?_
    refine gd_callV (pc := 30) (As := [.int a1, .int a2, .int a3, .int ((-999))]) (rest := []) X (ct_X6_recordRange l G S7 a0 a1 a2 a3 ((-999)) _ h) mw_X6_recordRange tw_1147 ci6 rfl hk8 ⟨(Nat.le_of_ble_eq_true rfl), (Nat.le_of_ble_eq_true rfl)⟩ rfl rfl (Nat.le_of_ble_eq_true rfl) dX6_sum_30 ⟨Nat.le_of_ble_eq_true rfl, Nat.le_of_ble_eq_true rfl⟩ (kV (fun S9 h => ?_))
    refine gd_wide (k2 := 0) (j2 := 0) (Nat.le_of_ble_eq_true rfl) (Nat.le_of_ble_eq_true rfl) ?_
    refine gd_aload_n (pc := 33) X 0 dX6_sum_33 rfl ?_
    refine gd_iload_n (pc := 34) X 1 dX6_sum_34 rfl ?_
    refine gd_iload_n (pc := 35) X 2 dX6_sum_35 rfl ?_
    refine gd_iload_n (pc := 36) X 3 dX6_sum_36 rfl ?_
    obtain ⟨hk11, h⟩ := h
    refine gd_callV (pc := 37) (As := [.int a1, .int a2, .int a3]) (rest := []) X (ct_X6_summed l G S9 a0 a1 a2 a3 _ h) mw_X6_summed tw_1159 ci6 rfl hk11 ⟨(Nat.le_of_ble_eq_true rfl), (Nat.le_of_ble_eq_true rfl)⟩ rfl rfl (Nat.le_of_ble_eq_true rfl) dX6_sum_37 ⟨Nat.le_of_ble_eq_true rfl, Nat.le_of_ble_eq_true rfl⟩ (kI (fun r13 S12 h => ?_))
    refine gd_wide (k2 := 0) (j2 := 0) (Nat.le_of_ble_eq_true rfl) (Nat.le_of_ble_eq_true rfl) ?_
    refine gd_istore (pc := 40) X dX6_sum_40 (by decide) (E2 := [(4, .int r13), (0, rf a0), (1, .int a1), (2, .int a2), (3, .int a3)]) rfl ?_
    refine gd_aload_n (pc := 42) X 1 dX6_sum_42 rfl ?_
    refine gd_iload_n (pc := 43) X 2 dX6_sum_43 rfl ?_
    refine gd_iconst (pc := 44) X (2) dX6_sum_44 (by decide) ?_
    refine gd_iload_n (pc := 45) X 3 dX6_sum_45 rfl ?_
    refine gd_iload_n (pc := 46) X 4 dX6_sum_46 rfl ?_
    refine gd_iconst (pc := 47) X (0) dX6_sum_47 (by decide) ?_
    refine gd_iload (pc := 48) X 0 dX6_sum_48 rfl ?_
    obtain ⟨hk14, h⟩ := h
    refine gd_callV (pc := 50) (As := [.int a1, .int 2, .int a2, .int a3, .int 0, .int r13]) (rest := []) X (ct_X6_list l G S12 a0 a1 2 a2 a3 0 r13 _ h) mw_X6_list tw_1136 ci6 rfl hk14 ⟨(Nat.le_of_ble_eq_true rfl), (Nat.le_of_ble_eq_true rfl)⟩ rfl rfl (Nat.le_of_ble_eq_true rfl) dX6_sum_50 ⟨Nat.le_of_ble_eq_true rfl, Nat.le_of_ble_eq_true rfl⟩ (kV (fun S15 h => ?_))
    refine gd_wide (k2 := 0) (j2 := 0) (Nat.le_of_ble_eq_true rfl) (Nat.le_of_ble_eq_true rfl) ?_
    refine gd_iload (pc := 53) X 0 dX6_sum_53 rfl ?_
    exact (gd_ret_i (pc := 55) X hr hlk rfl (by decide) (by decide) dX6_sum_55 ⟨_, rfl, h⟩)
  · have h := h.2 hc17
    refine gd_iconst (pc := 21) X (0) dX6_sum_21 (by decide) ?_
    exact (gd_ret_i (pc := 22) X hr hlk rfl (by decide) (by decide) dX6_sum_22 ⟨_, rfl, h⟩)
abbrev rm_X6_write : Room := { frames := 3, cells := 0, slots := 0, locals := 65 }
def b_X6_write_63 (post : MS → Prop) (S : MS) (l0 : Nat) (l1 : Int32) (l2 : Int32) (l3 : Int32) : Prop := post S
def b_X6_write_28 (post : MS → Prop) (S : MS) (l0 : Nat) (l1 : Int32) (l2 : Int32) (l3 : Int32) (s0 : Int32) (s1 : Int32) (s2 : Nat) (s3 : Nat) : Prop := kT S s2 = 7 ∧ w_X6_problem S s2 s1 s0 (fun r3 S2 => kT S2 s3 = 7 ∧ ∀ S5 : MS, S5 = pI S2 s3 0 r3 → kT S5 l0 = 7 ∧ ((¬ (sI S5 l0 0) = 0 → b_X6_write_63 post S5 l0 l1 l2 l3) ∧ ((sI S5 l0 0) = 0 → kT S5 (sR S5 l0 10) = 9 ∧ vp_in ((32 * l1) + l2) (kL S5 (sR S5 l0 10)) ∧ ∀ S10 : MS, S10 = pI S5 (sR S5 l0 10) (ix ((32 * l1) + l2)) l3 → w_X6_list S10 l0 l1 3 l2 l3 0 0 (fun S14 => b_X6_write_63 post S14 l0 l1 l2 l3))))
def b_X6_write_27 (post : MS → Prop) (S : MS) (l0 : Nat) (l1 : Int32) (l2 : Int32) (l3 : Int32) (s0 : Int32) (s1 : Nat) (s2 : Nat) : Prop := b_X6_write_28 post S l0 l1 l2 l3 0 s0 s1 s2
def w_X6_write (S : MS) (a0 : Nat) (a1 : Int32) (a2 : Int32) (a3 : Int32) (post : MS → Prop) : Prop := w_X6_isKey S a2 (fun r2 S1 => ((r2 = 0 → b_X6_write_27 post S1 a0 a1 a2 a3 a1 a0 a0) ∧ (¬ r2 = 0 → w_X6_isIn S1 a3 ((-999)) 999 (fun r4 S3 => ((r4 = 0 → b_X6_write_27 post S3 a0 a1 a2 a3 a1 a0 a0) ∧ (¬ r4 = 0 → b_X6_write_28 post S3 a0 a1 a2 a3 1 a1 a0 a0))))))
set_option maxHeartbeats 4000000 in
set_option maxRecDepth 100000 in
theorem ct_X6_write (l : Launch) (G : GP) (S : MS) (a0 : Nat) (a1 : Int32) (a2 : Int32) (a3 : Int32) (post : MS → Prop) (h : w_X6_write S a0 a1 a2 a3 post) : MetM l yX6_write cX6_write 4 none rm_X6_write [rf a0, .int a1, .int a2, .int a3] G S (pV_ post) := by
  refine met_of (by decide) (cat1_r (cat1_i (cat1_i (cat1_i cat1_n)))) (Nat.le_of_ble_eq_true rfl) ?_
  intro p e s m args below meth c X hr hlk hin
  revert h
  have g63 : ∀ (S : MS) (l0 : Nat) (l1 : Int32) (l2 : Int32) (l3 : Int32), b_X6_write_63 post S l0 l1 l2 l3 → Gd p l e rm_X6_write s m args below meth c 4 G (MQ below (QcM G (pV_ post)) args s rm_X6_write.cells rm_X6_write.slots (Ab G)) 0 0 S 63 [(0, rf l0), (1, .int l1), (2, .int l2), (3, .int l3)] [] := by
    intro S l0 l1 l2 l3 h
    exact (gd_ret_v (pc := 63) X hr hlk (by decide) (by decide) dX6_write_63 ⟨rfl, h⟩)
  have g28 : ∀ (S : MS) (l0 : Nat) (l1 : Int32) (l2 : Int32) (l3 : Int32) (s0 : Int32) (s1 : Int32) (s2 : Nat) (s3 : Nat), b_X6_write_28 post S l0 l1 l2 l3 s0 s1 s2 s3 → Gd p l e rm_X6_write s m args below meth c 4 G (MQ below (QcM G (pV_ post)) args s rm_X6_write.cells rm_X6_write.slots (Ab G)) 0 0 S 28 [(0, rf l0), (1, .int l1), (2, .int l2), (3, .int l3)] [.int s0, .int s1, rf s2, rf s3] := by
    intro S l0 l1 l2 l3 s0 s1 s2 s3 h
    obtain ⟨hk1, h⟩ := h
    refine gd_callV (pc := 28) (As := [.int s1, .int s0]) (rest := [rf s3]) X (ct_X6_problem l G S s2 s1 s0 _ h) mw_X6_problem tw_1120 ci6 rfl hk1 ⟨(Nat.le_of_ble_eq_true rfl), (Nat.le_of_ble_eq_true rfl)⟩ rfl rfl (Nat.le_of_ble_eq_true rfl) dX6_write_28 ⟨Nat.le_of_ble_eq_true rfl, Nat.le_of_ble_eq_true rfl⟩ (kI (fun r3 S2 h => ?_))
    refine gd_wide (k2 := 0) (j2 := 0) (Nat.le_of_ble_eq_true rfl) (Nat.le_of_ble_eq_true rfl) ?_
    obtain ⟨hk4, h⟩ := h
    refine gd_putI (pc := 31) (kf := 0) X ci6 (by decide) rfl rfl tw_983 rfl rfl dX6_write_31 hk4 ?_
    refine gd_topS (fun S5 hS5 => ?_)
    have h := h S5 hS5
    have hk6 : kT S5 s3 = 7 := by rw [hS5]; exact hk4
    refine gd_aload_n (pc := 34) X 0 dX6_write_34 rfl ?_
    obtain ⟨hk7, h⟩ := h
    refine gd_getI (pc := 35) (kf := 0) X ci6 (by decide) rfl tw_983 dX6_write_35 hk7 ?_
    refine gd_if_ne (pc := 38) X 63 dX6_write_38 (by decide) (fun hc16 => ?_) (fun hc16 => ?_)
    · have h := h.1 hc16
      exact g63 _ _ _ _ _ h
    · have h := h.2 hc16
      refine gd_aload_n (pc := 41) X 0 dX6_write_41 rfl ?_
      refine gd_getR (pc := 42) (kf := 10) X ci6 (by decide) rfl tw_993 dX6_write_42 hk7 ?_
      refine gd_bipush (pc := 45) X (32) dX6_write_45 (by decide) ?_
      refine gd_iload_n (pc := 47) X 1 dX6_write_47 rfl ?_
      refine gd_imul (pc := 48) X dX6_write_48 ?_
      refine gd_iload_n (pc := 49) X 2 dX6_write_49 rfl ?_
      refine gd_iadd (pc := 50) X dX6_write_50 ?_
      refine gd_iload_n (pc := 51) X 3 dX6_write_51 rfl ?_
      obtain ⟨hk8, h⟩ := h
      obtain ⟨hi9, h⟩ := h
      refine gd_iast (pc := 52) X dX6_write_52 hk8 hi9 ?_
      refine gd_topS (fun S10 hS10 => ?_)
      have h := h S10 hS10
      have hk11 : kT S10 s3 = 7 := by rw [hS10]; exact hk6
      have hk12 : kT S10 l0 = 7 := by rw [hS10]; exact hk7
      have hk13 : kT S10 (sR S5 l0 10) = 9 := by rw [hS10]; exact hk8
      refine gd_aload_n (pc := 53) X 0 dX6_write_53 rfl ?_
      refine gd_iload_n (pc := 54) X 1 dX6_write_54 rfl ?_
      refine gd_iconst (pc := 55) X (3) dX6_write_55 (by decide) ?_
      refine gd_iload_n (pc := 56) X 2 dX6_write_56 rfl ?_
      refine gd_iload_n (pc := 57) X 3 dX6_write_57 rfl ?_
      refine gd_iconst (pc := 58) X (0) dX6_write_58 (by decide) ?_
      refine gd_iconst (pc := 59) X (0) dX6_write_59 (by decide) ?_
      refine gd_callV (pc := 60) (As := [.int l1, .int 3, .int l2, .int l3, .int 0, .int 0]) (rest := []) X (ct_X6_list l G S10 l0 l1 3 l2 l3 0 0 _ h) mw_X6_list tw_1136 ci6 rfl hk12 ⟨(Nat.le_of_ble_eq_true rfl), (Nat.le_of_ble_eq_true rfl)⟩ rfl rfl (Nat.le_of_ble_eq_true rfl) dX6_write_60 ⟨Nat.le_of_ble_eq_true rfl, Nat.le_of_ble_eq_true rfl⟩ (kV (fun S14 h => ?_))
      refine gd_wide (k2 := 0) (j2 := 0) (Nat.le_of_ble_eq_true rfl) (Nat.le_of_ble_eq_true rfl) ?_
      exact g63 _ _ _ _ _ h
  have g27 : ∀ (S : MS) (l0 : Nat) (l1 : Int32) (l2 : Int32) (l3 : Int32) (s0 : Int32) (s1 : Nat) (s2 : Nat), b_X6_write_27 post S l0 l1 l2 l3 s0 s1 s2 → Gd p l e rm_X6_write s m args below meth c 4 G (MQ below (QcM G (pV_ post)) args s rm_X6_write.cells rm_X6_write.slots (Ab G)) 0 0 S 27 [(0, rf l0), (1, .int l1), (2, .int l2), (3, .int l3)] [.int s0, rf s1, rf s2] := by
    intro S l0 l1 l2 l3 s0 s1 s2 h
    refine gd_iconst (pc := 27) X (0) dX6_write_27 (by decide) ?_
    exact g28 _ _ _ _ _ _ _ _ _ h
  intro h
  refine gd_aload_n (pc := 0) X 0 dX6_write_0 rfl ?_
  refine gd_aload_n (pc := 1) X 0 dX6_write_1 rfl ?_
  refine gd_iload_n (pc := 2) X 1 dX6_write_2 rfl ?_
  refine gd_iload_n (pc := 3) X 2 dX6_write_3 rfl ?_
  refine gd_callS (pc := 4) (As := [.int a2]) (rest := [.int a1, rf a0, rf a0]) X (ct_X6_isKey l G S a2 _ h) mw_X6_isKey tw_1117 ⟨(Nat.le_of_ble_eq_true rfl), (Nat.le_of_ble_eq_true rfl)⟩ rfl rfl (Nat.le_of_ble_eq_true rfl) dX6_write_4 ⟨Nat.le_of_ble_eq_true rfl, Nat.le_of_ble_eq_true rfl⟩ (kI (fun r2 S1 h => ?_))
  refine gd_wide (k2 := 0) (j2 := 0) (Nat.le_of_ble_eq_true rfl) (Nat.le_of_ble_eq_true rfl) ?_
  refine gd_if_eq (pc := 7) X 27 dX6_write_7 (by decide) (fun hc6 => ?_) (fun hc6 => ?_)
  · have h := h.1 hc6
    exact g27 _ _ _ _ _ _ _ _ h
  · have h := h.2 hc6
    refine gd_iload_n (pc := 10) X 3 dX6_write_10 rfl ?_
    refine gd_sipush (pc := 11) X (-999) dX6_write_11 (by decide) ?_
    refine gd_sipush (pc := 14) X (999) dX6_write_14 (by decide) ?_
    refine gd_callS (pc := 17) (As := [.int a3, .int ((-999)), .int 999]) (rest := [.int a1, rf a0, rf a0]) X (ct_X6_isIn l G S1 a3 ((-999)) 999 _ h) mw_X6_isIn tw_1082 ⟨(Nat.le_of_ble_eq_true rfl), (Nat.le_of_ble_eq_true rfl)⟩ rfl rfl (Nat.le_of_ble_eq_true rfl) dX6_write_17 ⟨Nat.le_of_ble_eq_true rfl, Nat.le_of_ble_eq_true rfl⟩ (kI (fun r4 S3 h => ?_))
    refine gd_wide (k2 := 0) (j2 := 0) (Nat.le_of_ble_eq_true rfl) (Nat.le_of_ble_eq_true rfl) ?_
    refine gd_if_eq (pc := 20) X 27 dX6_write_20 (by decide) (fun hc5 => ?_) (fun hc5 => ?_)
    · have h := h.1 hc5
      exact g27 _ _ _ _ _ _ _ _ h
    · have h := h.2 hc5
      refine gd_iconst (pc := 23) X (1) dX6_write_23 (by decide) ?_
      refine gd_goto (pc := 24) X 28 dX6_write_24 (by decide) ?_
      exact g28 _ _ _ _ _ _ _ _ _ h
abbrev rm_X6_remove : Room := { frames := 3, cells := 0, slots := 0, locals := 65 }
def b_X6_remove_44 (post : MS → Prop) (S : MS) (l0 : Nat) (l1 : Int32) (l2 : Int32) : Prop := post S
def w_X6_remove (S : MS) (a0 : Nat) (a1 : Int32) (a2 : Int32) (post : MS → Prop) : Prop := w_X6_isKey S a2 (fun r2 S1 => kT S1 a0 = 7 ∧ w_X6_problem S1 a0 a1 r2 (fun r5 S4 => kT S4 a0 = 7 ∧ ∀ S7 : MS, S7 = pI S4 a0 0 r5 → ((¬ (sI S7 a0 0) = 0 → b_X6_remove_44 post S7 a0 a1 a2) ∧ ((sI S7 a0 0) = 0 → kT S7 (sR S7 a0 10) = 9 ∧ vp_in ((32 * a1) + a2) (kL S7 (sR S7 a0 10)) ∧ ∀ S11 : MS, S11 = pI S7 (sR S7 a0 10) (ix ((32 * a1) + a2)) ((-1000)) → w_X6_list S11 a0 a1 4 a2 0 0 0 (fun S14 => b_X6_remove_44 post S14 a0 a1 a2)))))
set_option maxHeartbeats 4000000 in
set_option maxRecDepth 100000 in
theorem ct_X6_remove (l : Launch) (G : GP) (S : MS) (a0 : Nat) (a1 : Int32) (a2 : Int32) (post : MS → Prop) (h : w_X6_remove S a0 a1 a2 post) : MetM l yX6_remove cX6_remove 3 none rm_X6_remove [rf a0, .int a1, .int a2] G S (pV_ post) := by
  refine met_of (by decide) (cat1_r (cat1_i (cat1_i cat1_n))) (Nat.le_of_ble_eq_true rfl) ?_
  intro p e s m args below meth c X hr hlk hin
  revert h
  have g44 : ∀ (S : MS) (l0 : Nat) (l1 : Int32) (l2 : Int32), b_X6_remove_44 post S l0 l1 l2 → Gd p l e rm_X6_remove s m args below meth c 3 G (MQ below (QcM G (pV_ post)) args s rm_X6_remove.cells rm_X6_remove.slots (Ab G)) 0 0 S 44 [(0, rf l0), (1, .int l1), (2, .int l2)] [] := by
    intro S l0 l1 l2 h
    exact (gd_ret_v (pc := 44) X hr hlk (by decide) (by decide) dX6_remove_44 ⟨rfl, h⟩)
  intro h
  refine gd_aload_n (pc := 0) X 0 dX6_remove_0 rfl ?_
  refine gd_aload_n (pc := 1) X 0 dX6_remove_1 rfl ?_
  refine gd_iload_n (pc := 2) X 1 dX6_remove_2 rfl ?_
  refine gd_iload_n (pc := 3) X 2 dX6_remove_3 rfl ?_
  refine gd_callS (pc := 4) (As := [.int a2]) (rest := [.int a1, rf a0, rf a0]) X (ct_X6_isKey l G S a2 _ h) mw_X6_isKey tw_1117 ⟨(Nat.le_of_ble_eq_true rfl), (Nat.le_of_ble_eq_true rfl)⟩ rfl rfl (Nat.le_of_ble_eq_true rfl) dX6_remove_4 ⟨Nat.le_of_ble_eq_true rfl, Nat.le_of_ble_eq_true rfl⟩ (kI (fun r2 S1 h => ?_))
  refine gd_wide (k2 := 0) (j2 := 0) (Nat.le_of_ble_eq_true rfl) (Nat.le_of_ble_eq_true rfl) ?_
  obtain ⟨hk3, h⟩ := h
  refine gd_callV (pc := 7) (As := [.int a1, .int r2]) (rest := [rf a0]) X (ct_X6_problem l G S1 a0 a1 r2 _ h) mw_X6_problem tw_1120 ci6 rfl hk3 ⟨(Nat.le_of_ble_eq_true rfl), (Nat.le_of_ble_eq_true rfl)⟩ rfl rfl (Nat.le_of_ble_eq_true rfl) dX6_remove_7 ⟨Nat.le_of_ble_eq_true rfl, Nat.le_of_ble_eq_true rfl⟩ (kI (fun r5 S4 h => ?_))
  refine gd_wide (k2 := 0) (j2 := 0) (Nat.le_of_ble_eq_true rfl) (Nat.le_of_ble_eq_true rfl) ?_
  obtain ⟨hk6, h⟩ := h
  refine gd_putI (pc := 10) (kf := 0) X ci6 (by decide) rfl rfl tw_983 rfl rfl dX6_remove_10 hk6 ?_
  refine gd_topS (fun S7 hS7 => ?_)
  have h := h S7 hS7
  have hk8 : kT S7 a0 = 7 := by rw [hS7]; exact hk6
  refine gd_aload_n (pc := 13) X 0 dX6_remove_13 rfl ?_
  refine gd_getI (pc := 14) (kf := 0) X ci6 (by decide) rfl tw_983 dX6_remove_14 hk8 ?_
  refine gd_if_ne (pc := 17) X 44 dX6_remove_17 (by decide) (fun hc16 => ?_) (fun hc16 => ?_)
  · have h := h.1 hc16
    exact g44 _ _ _ _ h
  · have h := h.2 hc16
    refine gd_aload_n (pc := 20) X 0 dX6_remove_20 rfl ?_
    refine gd_getR (pc := 21) (kf := 10) X ci6 (by decide) rfl tw_993 dX6_remove_21 hk8 ?_
    refine gd_bipush (pc := 24) X (32) dX6_remove_24 (by decide) ?_
    refine gd_iload_n (pc := 26) X 1 dX6_remove_26 rfl ?_
    refine gd_imul (pc := 27) X dX6_remove_27 ?_
    refine gd_iload_n (pc := 28) X 2 dX6_remove_28 rfl ?_
    refine gd_iadd (pc := 29) X dX6_remove_29 ?_
    refine gd_sipush (pc := 30) X (-1000) dX6_remove_30 (by decide) ?_
    obtain ⟨hk9, h⟩ := h
    obtain ⟨hi10, h⟩ := h
    refine gd_iast (pc := 33) X dX6_remove_33 hk9 hi10 ?_
    refine gd_topS (fun S11 hS11 => ?_)
    have h := h S11 hS11
    have hk12 : kT S11 a0 = 7 := by rw [hS11]; exact hk8
    have hk13 : kT S11 (sR S7 a0 10) = 9 := by rw [hS11]; exact hk9
    refine gd_aload_n (pc := 34) X 0 dX6_remove_34 rfl ?_
    refine gd_iload_n (pc := 35) X 1 dX6_remove_35 rfl ?_
    refine gd_iconst (pc := 36) X (4) dX6_remove_36 (by decide) ?_
    refine gd_iload_n (pc := 37) X 2 dX6_remove_37 rfl ?_
    refine gd_iconst (pc := 38) X (0) dX6_remove_38 (by decide) ?_
    refine gd_iconst (pc := 39) X (0) dX6_remove_39 (by decide) ?_
    refine gd_iconst (pc := 40) X (0) dX6_remove_40 (by decide) ?_
    refine gd_callV (pc := 41) (As := [.int a1, .int 4, .int a2, .int 0, .int 0, .int 0]) (rest := []) X (ct_X6_list l G S11 a0 a1 4 a2 0 0 0 _ h) mw_X6_list tw_1136 ci6 rfl hk12 ⟨(Nat.le_of_ble_eq_true rfl), (Nat.le_of_ble_eq_true rfl)⟩ rfl rfl (Nat.le_of_ble_eq_true rfl) dX6_remove_41 ⟨Nat.le_of_ble_eq_true rfl, Nat.le_of_ble_eq_true rfl⟩ (kV (fun S14 h => ?_))
    refine gd_wide (k2 := 0) (j2 := 0) (Nat.le_of_ble_eq_true rfl) (Nat.le_of_ble_eq_true rfl) ?_
    exact g44 _ _ _ _ h
abbrev rm_X6_addedTo : Room := { frames := 0, cells := 0, slots := 0, locals := 0 }
def b_X6_addedTo_12 (post : Int32 → MS → Prop) (S : MS) (l0 : Nat) (l1 : Int32) (l2 : Int32) (s0 : Int32) : Prop := post (s0 + l2) S
def w_X6_addedTo (S : MS) (a0 : Nat) (a1 : Int32) (a2 : Int32) (post : Int32 → MS → Prop) : Prop := ((¬ a1 = ((-1000)) → b_X6_addedTo_12 post S a0 a1 a2 a1) ∧ (a1 = ((-1000)) → b_X6_addedTo_12 post S a0 a1 a2 0))
set_option maxHeartbeats 4000000 in
set_option maxRecDepth 100000 in
theorem ct_X6_addedTo (l : Launch) (G : GP) (S : MS) (a0 : Nat) (a1 : Int32) (a2 : Int32) (post : Int32 → MS → Prop) (h : w_X6_addedTo S a0 a1 a2 post) : MetM l yX6_addedTo cX6_addedTo 3 (some .int) rm_X6_addedTo [rf a0, .int a1, .int a2] G S (pI_ post) := by
  refine met_of (by decide) (cat1_r (cat1_i (cat1_i cat1_n))) (Nat.le_of_ble_eq_true rfl) ?_
  intro p e s m args below meth c X hr hlk hin
  revert h
  have g12 : ∀ (S : MS) (l0 : Nat) (l1 : Int32) (l2 : Int32) (s0 : Int32), b_X6_addedTo_12 post S l0 l1 l2 s0 → Gd p l e rm_X6_addedTo s m args below meth c 3 G (MQ below (QcM G (pI_ post)) args s rm_X6_addedTo.cells rm_X6_addedTo.slots (Ab G)) 0 0 S 12 [(0, rf l0), (1, .int l1), (2, .int l2)] [.int s0] := by
    intro S l0 l1 l2 s0 h
    refine gd_iload_n (pc := 12) X 2 dX6_addedTo_12 rfl ?_
    refine gd_iadd (pc := 13) X dX6_addedTo_13 ?_
    exact (gd_ret_i (pc := 14) X hr hlk rfl (by decide) (by decide) dX6_addedTo_14 ⟨_, rfl, h⟩)
  intro h
  refine gd_iload_n (pc := 0) X 1 dX6_addedTo_0 rfl ?_
  refine gd_sipush (pc := 1) X (-1000) dX6_addedTo_1 (by decide) ?_
  refine gd_icmp_ne (pc := 4) X 11 dX6_addedTo_4 (by decide) (fun hc1 => ?_) (fun hc1 => ?_)
  · have h := h.1 hc1
    refine gd_iload_n (pc := 11) X 1 dX6_addedTo_11 rfl ?_
    exact g12 _ _ _ _ _ h
  · have h := h.2 hc1
    refine gd_iconst (pc := 7) X (0) dX6_addedTo_7 (by decide) ?_
    refine gd_goto (pc := 8) X 12 dX6_addedTo_8 (by decide) ?_
    exact g12 _ _ _ _ _ h
abbrev rm_X6_add : Room := { frames := 3, cells := 0, slots := 0, locals := 65 }
def b_X6_add_28 (post : Int32 → MS → Prop) (S : MS) (l0 : Nat) (l1 : Int32) (l2 : Int32) (l3 : Int32) (s0 : Int32) (s1 : Int32) (s2 : Nat) (s3 : Nat) : Prop := kT S s2 = 7 ∧ w_X6_problem S s2 s1 s0 (fun r3 S2 => kT S2 s3 = 7 ∧ ∀ S5 : MS, S5 = pI S2 s3 0 r3 → kT S5 l0 = 7 ∧ (((sI S5 l0 0) = 0 → w_X6_viewed S5 l0 l1 l2 (fun r9 S8 => kT S8 l0 = 7 ∧ w_X6_addedTo S8 l0 r9 l3 (fun r12 S11 => w_X6_isIn S11 r12 ((-999)) 999 (fun r14 S13 => ((¬ r14 = 0 → kT S13 l0 = 7 ∧ w_X6_recordKey S13 l0 l1 l2 (fun S16 => kT S16 l0 = 7 ∧ kT S16 (sR S16 l0 10) = 9 ∧ vp_in ((32 * l1) + l2) (kL S16 (sR S16 l0 10)) ∧ ∀ S21 : MS, S21 = pI S16 (sR S16 l0 10) (ix ((32 * l1) + l2)) r12 → w_X6_list S21 l0 l1 5 l2 l3 0 r12 (fun S24 => post r12 S24))) ∧ (r14 = 0 → kT S13 l0 = 7 ∧ w_X6_fail S13 l0 4 (fun r28 S27 => post r28 S27))))))) ∧ (¬ (sI S5 l0 0) = 0 → post 0 S5)))
def b_X6_add_27 (post : Int32 → MS → Prop) (S : MS) (l0 : Nat) (l1 : Int32) (l2 : Int32) (l3 : Int32) (s0 : Int32) (s1 : Nat) (s2 : Nat) : Prop := b_X6_add_28 post S l0 l1 l2 l3 0 s0 s1 s2
def w_X6_add (S : MS) (a0 : Nat) (a1 : Int32) (a2 : Int32) (a3 : Int32) (post : Int32 → MS → Prop) : Prop := w_X6_isKey S a2 (fun r2 S1 => ((r2 = 0 → b_X6_add_27 post S1 a0 a1 a2 a3 a1 a0 a0) ∧ (¬ r2 = 0 → w_X6_isIn S1 a3 ((-999)) 999 (fun r4 S3 => ((r4 = 0 → b_X6_add_27 post S3 a0 a1 a2 a3 a1 a0 a0) ∧ (¬ r4 = 0 → b_X6_add_28 post S3 a0 a1 a2 a3 1 a1 a0 a0))))))
set_option maxHeartbeats 4000000 in
set_option maxRecDepth 100000 in
theorem ct_X6_add (l : Launch) (G : GP) (S : MS) (a0 : Nat) (a1 : Int32) (a2 : Int32) (a3 : Int32) (post : Int32 → MS → Prop) (h : w_X6_add S a0 a1 a2 a3 post) : MetM l yX6_add cX6_add 5 (some .int) rm_X6_add [rf a0, .int a1, .int a2, .int a3] G S (pI_ post) := by
  refine met_of (by decide) (cat1_r (cat1_i (cat1_i (cat1_i cat1_n)))) (Nat.le_of_ble_eq_true rfl) ?_
  intro p e s m args below meth c X hr hlk hin
  revert h
  have g28 : ∀ (S : MS) (l0 : Nat) (l1 : Int32) (l2 : Int32) (l3 : Int32) (s0 : Int32) (s1 : Int32) (s2 : Nat) (s3 : Nat), b_X6_add_28 post S l0 l1 l2 l3 s0 s1 s2 s3 → Gd p l e rm_X6_add s m args below meth c 5 G (MQ below (QcM G (pI_ post)) args s rm_X6_add.cells rm_X6_add.slots (Ab G)) 0 0 S 28 [(0, rf l0), (1, .int l1), (2, .int l2), (3, .int l3)] [.int s0, .int s1, rf s2, rf s3] := by
    intro S l0 l1 l2 l3 s0 s1 s2 s3 h
    obtain ⟨hk1, h⟩ := h
    refine gd_callV (pc := 28) (As := [.int s1, .int s0]) (rest := [rf s3]) X (ct_X6_problem l G S s2 s1 s0 _ h) mw_X6_problem tw_1120 ci6 rfl hk1 ⟨(Nat.le_of_ble_eq_true rfl), (Nat.le_of_ble_eq_true rfl)⟩ rfl rfl (Nat.le_of_ble_eq_true rfl) dX6_add_28 ⟨Nat.le_of_ble_eq_true rfl, Nat.le_of_ble_eq_true rfl⟩ (kI (fun r3 S2 h => ?_))
    refine gd_wide (k2 := 0) (j2 := 0) (Nat.le_of_ble_eq_true rfl) (Nat.le_of_ble_eq_true rfl) ?_
    obtain ⟨hk4, h⟩ := h
    refine gd_putI (pc := 31) (kf := 0) X ci6 (by decide) rfl rfl tw_983 rfl rfl dX6_add_31 hk4 ?_
    refine gd_topS (fun S5 hS5 => ?_)
    have h := h S5 hS5
    have hk6 : kT S5 s3 = 7 := by rw [hS5]; exact hk4
    refine gd_aload_n (pc := 34) X 0 dX6_add_34 rfl ?_
    obtain ⟨hk7, h⟩ := h
    refine gd_getI (pc := 35) (kf := 0) X ci6 (by decide) rfl tw_983 dX6_add_35 hk7 ?_
    refine gd_if_eq (pc := 38) X 43 dX6_add_38 (by decide) (fun hc30 => ?_) (fun hc30 => ?_)
    · have h := h.1 hc30
      refine gd_aload_n (pc := 43) X 0 dX6_add_43 rfl ?_
      refine gd_aload_n (pc := 44) X 0 dX6_add_44 rfl ?_
      refine gd_iload_n (pc := 45) X 1 dX6_add_45 rfl ?_
      refine gd_iload_n (pc := 46) X 2 dX6_add_46 rfl ?_
      refine gd_callV (pc := 47) (As := [.int l1, .int l2]) (rest := [rf l0]) X (ct_X6_viewed l G S5 l0 l1 l2 _ h) mw_X6_viewed tw_1128 ci6 rfl hk7 ⟨(Nat.le_of_ble_eq_true rfl), (Nat.le_of_ble_eq_true rfl)⟩ rfl rfl (Nat.le_of_ble_eq_true rfl) dX6_add_47 ⟨Nat.le_of_ble_eq_true rfl, Nat.le_of_ble_eq_true rfl⟩ (kI (fun r9 S8 h => ?_))
      refine gd_wide (k2 := 0) (j2 := 0) (Nat.le_of_ble_eq_true rfl) (Nat.le_of_ble_eq_true rfl) ?_
      refine gd_iload_n (pc := 50) X 3 dX6_add_50 rfl ?_
      obtain ⟨hk10, h⟩ := h
      refine gd_callV (pc := 51) (As := [.int r9, .int l3]) (rest := []) X (ct_X6_addedTo l G S8 l0 r9 l3 _ h) mw_X6_addedTo tw_1175 ci6 rfl hk10 ⟨(Nat.le_of_ble_eq_true rfl), (Nat.le_of_ble_eq_true rfl)⟩ rfl rfl (Nat.le_of_ble_eq_true rfl) dX6_add_51 ⟨Nat.le_of_ble_eq_true rfl, Nat.le_of_ble_eq_true rfl⟩ (kI (fun r12 S11 h => ?_))
      refine gd_wide (k2 := 0) (j2 := 0) (Nat.le_of_ble_eq_true rfl) (Nat.le_of_ble_eq_true rfl) ?_
      refine gd_istore (pc := 54) X dX6_add_54 (by decide) (E2 := [(4, .int r12), (0, rf l0), (1, .int l1), (2, .int l2), (3, .int l3)]) rfl ?_
      refine gd_iload (pc := 56) X 0 dX6_add_56 rfl ?_
      refine gd_sipush (pc := 58) X (-999) dX6_add_58 (by decide) ?_
      refine gd_sipush (pc := 61) X (999) dX6_add_61 (by decide) ?_
      refine gd_callS (pc := 64) (As := [.int r12, .int ((-999)), .int 999]) (rest := []) X (ct_X6_isIn l G S11 r12 ((-999)) 999 _ h) mw_X6_isIn tw_1082 ⟨(Nat.le_of_ble_eq_true rfl), (Nat.le_of_ble_eq_true rfl)⟩ rfl rfl (Nat.le_of_ble_eq_true rfl) dX6_add_64 ⟨Nat.le_of_ble_eq_true rfl, Nat.le_of_ble_eq_true rfl⟩ (kI (fun r14 S13 h => ?_))
      refine gd_wide (k2 := 0) (j2 := 0) (Nat.le_of_ble_eq_true rfl) (Nat.le_of_ble_eq_true rfl) ?_
      refine gd_if_ne (pc := 67) X 76 dX6_add_67 (by decide) (fun hc29 => ?_) (fun hc29 => ?_)
      · have h := h.1 hc29
        refine gd_aload_n (pc := 76) X 1 dX6_add_76 rfl ?_
        refine gd_iload_n (pc := 77) X 2 dX6_add_77 rfl ?_
        refine gd_iload_n (pc := 78) X 3 dX6_add_78 rfl ?_
        obtain ⟨hk15, h⟩ := h
        refine gd_callV (pc := 79) (As := [.int l1, .int l2]) (rest := []) X (ct_X6_recordKey l G S13 l0 l1 l2 _ h) mw_X6_recordKey tw_1124 ci6 rfl hk15 ⟨(Nat.le_of_ble_eq_true rfl), (Nat.le_of_ble_eq_true rfl)⟩ rfl rfl (Nat.le_of_ble_eq_true rfl) dX6_add_79 ⟨Nat.le_of_ble_eq_true rfl, Nat.le_of_ble_eq_true rfl⟩ (kV (fun S16 h => ?_))
        refine gd_wide (k2 := 0) (j2 := 0) (Nat.le_of_ble_eq_true rfl) (Nat.le_of_ble_eq_true rfl) ?_
        refine gd_aload_n (pc := 82) X 1 dX6_add_82 rfl ?_
        obtain ⟨hk18, h⟩ := h
        refine gd_getR (pc := 83) (kf := 10) X ci6 (by decide) rfl tw_993 dX6_add_83 hk18 ?_
        refine gd_bipush (pc := 86) X (32) dX6_add_86 (by decide) ?_
        refine gd_iload_n (pc := 88) X 2 dX6_add_88 rfl ?_
        refine gd_imul (pc := 89) X dX6_add_89 ?_
        refine gd_iload_n (pc := 90) X 3 dX6_add_90 rfl ?_
        refine gd_iadd (pc := 91) X dX6_add_91 ?_
        refine gd_iload (pc := 92) X 0 dX6_add_92 rfl ?_
        obtain ⟨hk19, h⟩ := h
        obtain ⟨hi20, h⟩ := h
        refine gd_iast (pc := 94) X dX6_add_94 hk19 hi20 ?_
        refine gd_topS (fun S21 hS21 => ?_)
        have h := h S21 hS21
        have hk22 : kT S21 l0 = 7 := by rw [hS21]; exact hk18
        have hk23 : kT S21 (sR S16 l0 10) = 9 := by rw [hS21]; exact hk19
        refine gd_aload_n (pc := 95) X 1 dX6_add_95 rfl ?_
        refine gd_iload_n (pc := 96) X 2 dX6_add_96 rfl ?_
        refine gd_iconst (pc := 97) X (5) dX6_add_97 (by decide) ?_
        refine gd_iload_n (pc := 98) X 3 dX6_add_98 rfl ?_
        refine gd_iload_n (pc := 99) X 4 dX6_add_99 rfl ?_
        refine gd_iconst (pc := 100) X (0) dX6_add_100 (by decide) ?_
        refine gd_iload (pc := 101) X 0 dX6_add_101 rfl ?_
        refine gd_callV (pc := 103) (As := [.int l1, .int 5, .int l2, .int l3, .int 0, .int r12]) (rest := []) X (ct_X6_list l G S21 l0 l1 5 l2 l3 0 r12 _ h) mw_X6_list tw_1136 ci6 rfl hk22 ⟨(Nat.le_of_ble_eq_true rfl), (Nat.le_of_ble_eq_true rfl)⟩ rfl rfl (Nat.le_of_ble_eq_true rfl) dX6_add_103 ⟨Nat.le_of_ble_eq_true rfl, Nat.le_of_ble_eq_true rfl⟩ (kV (fun S24 h => ?_))
        refine gd_wide (k2 := 0) (j2 := 0) (Nat.le_of_ble_eq_true rfl) (Nat.le_of_ble_eq_true rfl) ?_
        refine gd_iload (pc := 106) X 0 dX6_add_106 rfl ?_
        exact (gd_ret_i (pc := 108) X hr hlk rfl (by decide) (by decide) dX6_add_108 ⟨_, rfl, h⟩)
      · have h := h.2 hc29
        refine gd_aload_n (pc := 70) X 1 dX6_add_70 rfl ?_
        refine gd_iconst (pc := 71) X (4) dX6_add_71 (by decide) ?_
        obtain ⟨hk26, h⟩ := h
        refine gd_callV (pc := 72) (As := [.int 4]) (rest := []) X (ct_X6_fail l G S13 l0 4 _ h) mw_X6_fail tw_1101 ci6 rfl hk26 ⟨(Nat.le_of_ble_eq_true rfl), (Nat.le_of_ble_eq_true rfl)⟩ rfl rfl (Nat.le_of_ble_eq_true rfl) dX6_add_72 ⟨Nat.le_of_ble_eq_true rfl, Nat.le_of_ble_eq_true rfl⟩ (kI (fun r28 S27 h => ?_))
        refine gd_wide (k2 := 0) (j2 := 0) (Nat.le_of_ble_eq_true rfl) (Nat.le_of_ble_eq_true rfl) ?_
        exact (gd_ret_i (pc := 75) X hr hlk rfl (by decide) (by decide) dX6_add_75 ⟨_, rfl, h⟩)
    · have h := h.2 hc30
      refine gd_iconst (pc := 41) X (0) dX6_add_41 (by decide) ?_
      exact (gd_ret_i (pc := 42) X hr hlk rfl (by decide) (by decide) dX6_add_42 ⟨_, rfl, h⟩)
  have g27 : ∀ (S : MS) (l0 : Nat) (l1 : Int32) (l2 : Int32) (l3 : Int32) (s0 : Int32) (s1 : Nat) (s2 : Nat), b_X6_add_27 post S l0 l1 l2 l3 s0 s1 s2 → Gd p l e rm_X6_add s m args below meth c 5 G (MQ below (QcM G (pI_ post)) args s rm_X6_add.cells rm_X6_add.slots (Ab G)) 0 0 S 27 [(0, rf l0), (1, .int l1), (2, .int l2), (3, .int l3)] [.int s0, rf s1, rf s2] := by
    intro S l0 l1 l2 l3 s0 s1 s2 h
    refine gd_iconst (pc := 27) X (0) dX6_add_27 (by decide) ?_
    exact g28 _ _ _ _ _ _ _ _ _ h
  intro h
  refine gd_aload_n (pc := 0) X 0 dX6_add_0 rfl ?_
  refine gd_aload_n (pc := 1) X 0 dX6_add_1 rfl ?_
  refine gd_iload_n (pc := 2) X 1 dX6_add_2 rfl ?_
  refine gd_iload_n (pc := 3) X 2 dX6_add_3 rfl ?_
  refine gd_callS (pc := 4) (As := [.int a2]) (rest := [.int a1, rf a0, rf a0]) X (ct_X6_isKey l G S a2 _ h) mw_X6_isKey tw_1117 ⟨(Nat.le_of_ble_eq_true rfl), (Nat.le_of_ble_eq_true rfl)⟩ rfl rfl (Nat.le_of_ble_eq_true rfl) dX6_add_4 ⟨Nat.le_of_ble_eq_true rfl, Nat.le_of_ble_eq_true rfl⟩ (kI (fun r2 S1 h => ?_))
  refine gd_wide (k2 := 0) (j2 := 0) (Nat.le_of_ble_eq_true rfl) (Nat.le_of_ble_eq_true rfl) ?_
  refine gd_if_eq (pc := 7) X 27 dX6_add_7 (by decide) (fun hc6 => ?_) (fun hc6 => ?_)
  · have h := h.1 hc6
    exact g27 _ _ _ _ _ _ _ _ h
  · have h := h.2 hc6
    refine gd_iload_n (pc := 10) X 3 dX6_add_10 rfl ?_
    refine gd_sipush (pc := 11) X (-999) dX6_add_11 (by decide) ?_
    refine gd_sipush (pc := 14) X (999) dX6_add_14 (by decide) ?_
    refine gd_callS (pc := 17) (As := [.int a3, .int ((-999)), .int 999]) (rest := [.int a1, rf a0, rf a0]) X (ct_X6_isIn l G S1 a3 ((-999)) 999 _ h) mw_X6_isIn tw_1082 ⟨(Nat.le_of_ble_eq_true rfl), (Nat.le_of_ble_eq_true rfl)⟩ rfl rfl (Nat.le_of_ble_eq_true rfl) dX6_add_17 ⟨Nat.le_of_ble_eq_true rfl, Nat.le_of_ble_eq_true rfl⟩ (kI (fun r4 S3 h => ?_))
    refine gd_wide (k2 := 0) (j2 := 0) (Nat.le_of_ble_eq_true rfl) (Nat.le_of_ble_eq_true rfl) ?_
    refine gd_if_eq (pc := 20) X 27 dX6_add_20 (by decide) (fun hc5 => ?_) (fun hc5 => ?_)
    · have h := h.1 hc5
      exact g27 _ _ _ _ _ _ _ _ h
    · have h := h.2 hc5
      refine gd_iconst (pc := 23) X (1) dX6_add_23 (by decide) ?_
      refine gd_goto (pc := 24) X 28 dX6_add_24 (by decide) ?_
      exact g28 _ _ _ _ _ _ _ _ _ h
abbrev rm_X6_touches : Room := { frames := 1, cells := 0, slots := 0, locals := 22 }
def b_X6_touches_51 (post : Int32 → MS → Prop) (S : MS) (l0 : Nat) (l1 : Int32) (l2 : Int32) (l3 : Int32) (l4 : Int32) (s0 : Int32) : Prop := narrow .boolean (.int s0) = .int s0 ∧ post s0 S
def b_X6_touches_50 (post : Int32 → MS → Prop) (S : MS) (l0 : Nat) (l1 : Int32) (l2 : Int32) (l3 : Int32) (l4 : Int32) : Prop := b_X6_touches_51 post S l0 l1 l2 l3 l4 0
def b_X6_touches_46 (post : Int32 → MS → Prop) (S : MS) (l0 : Nat) (l1 : Int32) (l2 : Int32) (l3 : Int32) (l4 : Int32) : Prop := b_X6_touches_51 post S l0 l1 l2 l3 l4 1
def w_X6_touches (S : MS) (a0 : Nat) (a1 : Int32) (a2 : Int32) (a3 : Int32) (a4 : Int32) (post : Int32 → MS → Prop) : Prop := kT S a0 = 7 ∧ kT S (sR S a0 11) = 9 ∧ vp_in a1 (kL S (sR S a0 11)) ∧ vp_in (a1 + 1) (kL S (sR S a0 11)) ∧ w_X6_isIn S a2 (sI S (sR S a0 11) (ix a1)) (sI S (sR S a0 11) (ix (a1 + 1))) (fun r6 S5 => ((r6 = 0 → b_X6_touches_50 post S5 a0 a1 a2 a3 a4) ∧ (¬ r6 = 0 → kT S5 a0 = 7 ∧ kT S5 (sR S5 a0 11) = 9 ∧ vp_in (a1 + 2) (kL S5 (sR S5 a0 11)) ∧ (((sI S5 (sR S5 a0 11) (ix (a1 + 2))) ≤ a3 → b_X6_touches_46 post S5 a0 a1 a2 a3 a4) ∧ (¬ (sI S5 (sR S5 a0 11) (ix (a1 + 2))) ≤ a3 → vp_in (a1 + 2) (kL S5 (sR S5 a0 11)) ∧ ((a4 < (sI S5 (sR S5 a0 11) (ix (a1 + 2))) → b_X6_touches_50 post S5 a0 a1 a2 a3 a4) ∧ (¬ a4 < (sI S5 (sR S5 a0 11) (ix (a1 + 2))) → b_X6_touches_46 post S5 a0 a1 a2 a3 a4)))))))
set_option maxHeartbeats 4000000 in
set_option maxRecDepth 100000 in
theorem ct_X6_touches (l : Launch) (G : GP) (S : MS) (a0 : Nat) (a1 : Int32) (a2 : Int32) (a3 : Int32) (a4 : Int32) (post : Int32 → MS → Prop) (h : w_X6_touches S a0 a1 a2 a3 a4 post) : MetM l yX6_touches cX6_touches 5 (some .boolean) rm_X6_touches [rf a0, .int a1, .int a2, .int a3, .int a4] G S (pI_ post) := by
  refine met_of (by decide) (cat1_r (cat1_i (cat1_i (cat1_i (cat1_i cat1_n))))) (Nat.le_of_ble_eq_true rfl) ?_
  intro p e s m args below meth c X hr hlk hin
  revert h
  have g51 : ∀ (S : MS) (l0 : Nat) (l1 : Int32) (l2 : Int32) (l3 : Int32) (l4 : Int32) (s0 : Int32), b_X6_touches_51 post S l0 l1 l2 l3 l4 s0 → Gd p l e rm_X6_touches s m args below meth c 5 G (MQ below (QcM G (pI_ post)) args s rm_X6_touches.cells rm_X6_touches.slots (Ab G)) 0 0 S 51 [(0, rf l0), (1, .int l1), (2, .int l2), (3, .int l3), (4, .int l4)] [.int s0] := by
    intro S l0 l1 l2 l3 l4 s0 h
    obtain ⟨hnz, h⟩ := h
    exact (gd_ret_i (pc := 51) X hr hlk hnz (by decide) (by decide) dX6_touches_51 ⟨_, rfl, h⟩)
  have g50 : ∀ (S : MS) (l0 : Nat) (l1 : Int32) (l2 : Int32) (l3 : Int32) (l4 : Int32), b_X6_touches_50 post S l0 l1 l2 l3 l4 → Gd p l e rm_X6_touches s m args below meth c 5 G (MQ below (QcM G (pI_ post)) args s rm_X6_touches.cells rm_X6_touches.slots (Ab G)) 0 0 S 50 [(0, rf l0), (1, .int l1), (2, .int l2), (3, .int l3), (4, .int l4)] [] := by
    intro S l0 l1 l2 l3 l4 h
    refine gd_iconst (pc := 50) X (0) dX6_touches_50 (by decide) ?_
    exact g51 _ _ _ _ _ _ _ h
  have g46 : ∀ (S : MS) (l0 : Nat) (l1 : Int32) (l2 : Int32) (l3 : Int32) (l4 : Int32), b_X6_touches_46 post S l0 l1 l2 l3 l4 → Gd p l e rm_X6_touches s m args below meth c 5 G (MQ below (QcM G (pI_ post)) args s rm_X6_touches.cells rm_X6_touches.slots (Ab G)) 0 0 S 46 [(0, rf l0), (1, .int l1), (2, .int l2), (3, .int l3), (4, .int l4)] [] := by
    intro S l0 l1 l2 l3 l4 h
    refine gd_iconst (pc := 46) X (1) dX6_touches_46 (by decide) ?_
    refine gd_goto (pc := 47) X 51 dX6_touches_47 (by decide) ?_
    exact g51 _ _ _ _ _ _ _ h
  intro h
  refine gd_iload_n (pc := 0) X 2 dX6_touches_0 rfl ?_
  refine gd_aload_n (pc := 1) X 0 dX6_touches_1 rfl ?_
  obtain ⟨hk1, h⟩ := h
  refine gd_getR (pc := 2) (kf := 11) X ci6 (by decide) rfl tw_994 dX6_touches_2 hk1 ?_
  refine gd_iload_n (pc := 5) X 1 dX6_touches_5 rfl ?_
  obtain ⟨hk2, h⟩ := h
  obtain ⟨hi3, h⟩ := h
  refine gd_iald (pc := 6) X dX6_touches_6 hk2 hi3 ?_
  refine gd_aload_n (pc := 7) X 0 dX6_touches_7 rfl ?_
  refine gd_getR (pc := 8) (kf := 11) X ci6 (by decide) rfl tw_994 dX6_touches_8 hk1 ?_
  refine gd_iload_n (pc := 11) X 1 dX6_touches_11 rfl ?_
  refine gd_iconst (pc := 12) X (1) dX6_touches_12 (by decide) ?_
  refine gd_iadd (pc := 13) X dX6_touches_13 ?_
  obtain ⟨hi4, h⟩ := h
  refine gd_iald (pc := 14) X dX6_touches_14 hk2 hi4 ?_
  refine gd_callS (pc := 15) (As := [.int a2, .int (sI S (sR S a0 11) (ix a1)), .int (sI S (sR S a0 11) (ix (a1 + 1)))]) (rest := []) X (ct_X6_isIn l G S a2 (sI S (sR S a0 11) (ix a1)) (sI S (sR S a0 11) (ix (a1 + 1))) _ h) mw_X6_isIn tw_1082 ⟨(Nat.le_of_ble_eq_true rfl), (Nat.le_of_ble_eq_true rfl)⟩ rfl rfl (Nat.le_of_ble_eq_true rfl) dX6_touches_15 ⟨Nat.le_of_ble_eq_true rfl, Nat.le_of_ble_eq_true rfl⟩ (kI (fun r6 S5 h => ?_))
  refine gd_wide (k2 := 0) (j2 := 0) (Nat.le_of_ble_eq_true rfl) (Nat.le_of_ble_eq_true rfl) ?_
  refine gd_if_eq (pc := 18) X 50 dX6_touches_18 (by decide) (fun hc13 => ?_) (fun hc13 => ?_)
  · have h := h.1 hc13
    exact g50 _ _ _ _ _ _ h
  · have h := h.2 hc13
    refine gd_iload_n (pc := 21) X 3 dX6_touches_21 rfl ?_
    refine gd_aload_n (pc := 22) X 0 dX6_touches_22 rfl ?_
    obtain ⟨hk7, h⟩ := h
    refine gd_getR (pc := 23) (kf := 11) X ci6 (by decide) rfl tw_994 dX6_touches_23 hk7 ?_
    refine gd_iload_n (pc := 26) X 1 dX6_touches_26 rfl ?_
    refine gd_iconst (pc := 27) X (2) dX6_touches_27 (by decide) ?_
    refine gd_iadd (pc := 28) X dX6_touches_28 ?_
    obtain ⟨hk8, h⟩ := h
    obtain ⟨hi9, h⟩ := h
    refine gd_iald (pc := 29) X dX6_touches_29 hk8 hi9 ?_
    refine gd_icmp_ge (pc := 30) X 46 dX6_touches_30 (by decide) (fun hc12 => ?_) (fun hc12 => ?_)
    · have h := h.1 hc12
      exact g46 _ _ _ _ _ _ h
    · have h := h.2 hc12
      refine gd_iload (pc := 33) X 4 dX6_touches_33 rfl ?_
      refine gd_aload_n (pc := 35) X 0 dX6_touches_35 rfl ?_
      refine gd_getR (pc := 36) (kf := 11) X ci6 (by decide) rfl tw_994 dX6_touches_36 hk7 ?_
      refine gd_iload_n (pc := 39) X 1 dX6_touches_39 rfl ?_
      refine gd_iconst (pc := 40) X (2) dX6_touches_40 (by decide) ?_
      refine gd_iadd (pc := 41) X dX6_touches_41 ?_
      obtain ⟨hi10, h⟩ := h
      refine gd_iald (pc := 42) X dX6_touches_42 hk8 hi10 ?_
      refine gd_icmp_lt (pc := 43) X 50 dX6_touches_43 (by decide) (fun hc11 => ?_) (fun hc11 => ?_)
      · have h := h.1 hc11
        exact g50 _ _ _ _ _ _ h
      · have h := h.2 hc11
        exact g46 _ _ _ _ _ _ h
abbrev rm_X6_touchesAny : Room := { frames := 2, cells := 0, slots := 0, locals := 46 }
def b_X6_touchesAny_65 (KH6 : MS → Nat → Int32 → Int32 → Int32 → Int32 → Int32 → Int32 → Int32 → Prop) (post : Int32 → MS → Prop) (S : MS) (l0 : Nat) (l1 : Int32) (l2 : Int32) (l3 : Int32) (l4 : Int32) (l5 : Int32) (l6 : Int32) (l7 : Int32) (l8 : Int32) (s0 : Int32) : Prop := ∀ v1 : Int32, v1 = l7 + 1 → KH6 S l0 l1 l2 l3 l4 l5 s0 v1
def b_X6_touchesAny_64 (KH6 : MS → Nat → Int32 → Int32 → Int32 → Int32 → Int32 → Int32 → Int32 → Prop) (post : Int32 → MS → Prop) (S : MS) (l0 : Nat) (l1 : Int32) (l2 : Int32) (l3 : Int32) (l4 : Int32) (l5 : Int32) (l6 : Int32) (l7 : Int32) (l8 : Int32) : Prop := b_X6_touchesAny_65 KH6 post S l0 l1 l2 l3 l4 l5 l6 l7 l8 0
def b_X6_touchesAny_60 (KH6 : MS → Nat → Int32 → Int32 → Int32 → Int32 → Int32 → Int32 → Int32 → Prop) (post : Int32 → MS → Prop) (S : MS) (l0 : Nat) (l1 : Int32) (l2 : Int32) (l3 : Int32) (l4 : Int32) (l5 : Int32) (l6 : Int32) (l7 : Int32) (l8 : Int32) : Prop := b_X6_touchesAny_65 KH6 post S l0 l1 l2 l3 l4 l5 l6 l7 l8 1
def b_X6_touchesAny_6 (post : Int32 → MS → Prop) : Nat → MS → Nat → Int32 → Int32 → Int32 → Int32 → Int32 → Int32 → Int32 → Prop
  | 0 => fun _ _ _ _ _ _ _ _ _ => False
  | f + 1 => fun S l0 l1 l2 l3 l4 l5 l6 l7 => kT S l0 = 7 ∧ kT S (sR S l0 12) = 9 ∧ vp_in l1 (kL S (sR S l0 12)) ∧ (((sI S (sR S l0 12) (ix l1)) ≤ l7 → narrow .boolean (.int l6) = .int l6 ∧ post l6 S) ∧ (¬ (sI S (sR S l0 12) (ix l1)) ≤ l7 → ∀ v4 : Int32, v4 = 4 * ((24 * l1) + l7) → ((¬ l6 = 0 → b_X6_touchesAny_60 (b_X6_touchesAny_6 post f) post S l0 l1 l2 l3 l4 l5 l6 l7 v4) ∧ (l6 = 0 → kT S (sR S l0 11) = 9 ∧ vp_in (v4 + 3) (kL S (sR S l0 11)) ∧ ((l2 ≤ (sI S (sR S l0 11) (ix (v4 + 3))) → b_X6_touchesAny_64 (b_X6_touchesAny_6 post f) post S l0 l1 l2 l3 l4 l5 l6 l7 v4) ∧ (¬ l2 ≤ (sI S (sR S l0 11) (ix (v4 + 3))) → w_X6_touches S l0 v4 l3 l4 l5 (fun r8 S7 => ((r8 = 0 → b_X6_touchesAny_64 (b_X6_touchesAny_6 post f) post S7 l0 l1 l2 l3 l4 l5 l6 l7 v4) ∧ (¬ r8 = 0 → b_X6_touchesAny_60 (b_X6_touchesAny_6 post f) post S7 l0 l1 l2 l3 l4 l5 l6 l7 v4)))))))))
def w_X6_touchesAny (S : MS) (a0 : Nat) (a1 : Int32) (a2 : Int32) (a3 : Int32) (a4 : Int32) (a5 : Int32) (post : Int32 → MS → Prop) : Prop := ∃ f6, b_X6_touchesAny_6 post f6 S a0 a1 a2 a3 a4 a5 0 0
set_option maxHeartbeats 4000000 in
set_option maxRecDepth 100000 in
theorem ct_X6_touchesAny (l : Launch) (G : GP) (S : MS) (a0 : Nat) (a1 : Int32) (a2 : Int32) (a3 : Int32) (a4 : Int32) (a5 : Int32) (post : Int32 → MS → Prop) (h : w_X6_touchesAny S a0 a1 a2 a3 a4 a5 post) : MetM l yX6_touchesAny cX6_touchesAny 9 (some .boolean) rm_X6_touchesAny [rf a0, .int a1, .int a2, .int a3, .int a4, .int a5] G S (pI_ post) := by
  refine met_of (by decide) (cat1_r (cat1_i (cat1_i (cat1_i (cat1_i (cat1_i cat1_n)))))) (Nat.le_of_ble_eq_true rfl) ?_
  intro p e s m args below meth c X hr hlk hin
  revert h
  have g65 : ∀ (KH6 : MS → Nat → Int32 → Int32 → Int32 → Int32 → Int32 → Int32 → Int32 → Prop) (hKH6 : ∀ (S : MS) (l0 : Nat) (l1 : Int32) (l2 : Int32) (l3 : Int32) (l4 : Int32) (l5 : Int32) (l6 : Int32) (l7 : Int32), KH6 S l0 l1 l2 l3 l4 l5 l6 l7 → Gd p l e rm_X6_touchesAny s m args below meth c 9 G (MQ below (QcM G (pI_ post)) args s rm_X6_touchesAny.cells rm_X6_touchesAny.slots (Ab G)) 0 0 S 6 [(0, rf l0), (1, .int l1), (2, .int l2), (3, .int l3), (4, .int l4), (5, .int l5), (6, .int l6), (7, .int l7)] []) (S : MS) (l0 : Nat) (l1 : Int32) (l2 : Int32) (l3 : Int32) (l4 : Int32) (l5 : Int32) (l6 : Int32) (l7 : Int32) (l8 : Int32) (s0 : Int32), b_X6_touchesAny_65 KH6 post S l0 l1 l2 l3 l4 l5 l6 l7 l8 s0 → Gd p l e rm_X6_touchesAny s m args below meth c 9 G (MQ below (QcM G (pI_ post)) args s rm_X6_touchesAny.cells rm_X6_touchesAny.slots (Ab G)) 0 0 S 65 [(0, rf l0), (1, .int l1), (2, .int l2), (3, .int l3), (4, .int l4), (5, .int l5), (6, .int l6), (7, .int l7), (8, .int l8)] [.int s0] := by
    intro KH6 hKH6 S l0 l1 l2 l3 l4 l5 l6 l7 l8 s0 h
    refine gd_istore (pc := 65) X dX6_touchesAny_65 (by decide) (E2 := [(6, .int s0), (0, rf l0), (1, .int l1), (2, .int l2), (3, .int l3), (4, .int l4), (5, .int l5), (7, .int l7), (8, .int l8)]) rfl ?_
    obtain ⟨v1, hv1⟩ : ∃ z : Int32, z = l7 + 1 := ⟨_, rfl⟩
    have h := h v1 hv1
    refine gd_iinc (pc := 67) (v := v1) X 7 dX6_touchesAny_67 rfl (by rw [hv1]; rfl) (by decide) (E2 := [(7, .int v1), (6, .int s0), (0, rf l0), (1, .int l1), (2, .int l2), (3, .int l3), (4, .int l4), (5, .int l5), (8, .int l8)]) rfl ?_
    refine gd_goto (pc := 70) X 6 dX6_touchesAny_70 (by decide) ?_
    refine gd_sub [2, 3, 4, 5, 6, 7, 1, 0] rfl ?_
    exact hKH6 _ _ _ _ _ _ _ _ _ h
  have g64 : ∀ (KH6 : MS → Nat → Int32 → Int32 → Int32 → Int32 → Int32 → Int32 → Int32 → Prop) (hKH6 : ∀ (S : MS) (l0 : Nat) (l1 : Int32) (l2 : Int32) (l3 : Int32) (l4 : Int32) (l5 : Int32) (l6 : Int32) (l7 : Int32), KH6 S l0 l1 l2 l3 l4 l5 l6 l7 → Gd p l e rm_X6_touchesAny s m args below meth c 9 G (MQ below (QcM G (pI_ post)) args s rm_X6_touchesAny.cells rm_X6_touchesAny.slots (Ab G)) 0 0 S 6 [(0, rf l0), (1, .int l1), (2, .int l2), (3, .int l3), (4, .int l4), (5, .int l5), (6, .int l6), (7, .int l7)] []) (S : MS) (l0 : Nat) (l1 : Int32) (l2 : Int32) (l3 : Int32) (l4 : Int32) (l5 : Int32) (l6 : Int32) (l7 : Int32) (l8 : Int32), b_X6_touchesAny_64 KH6 post S l0 l1 l2 l3 l4 l5 l6 l7 l8 → Gd p l e rm_X6_touchesAny s m args below meth c 9 G (MQ below (QcM G (pI_ post)) args s rm_X6_touchesAny.cells rm_X6_touchesAny.slots (Ab G)) 0 0 S 64 [(0, rf l0), (1, .int l1), (2, .int l2), (3, .int l3), (4, .int l4), (5, .int l5), (6, .int l6), (7, .int l7), (8, .int l8)] [] := by
    intro KH6 hKH6 S l0 l1 l2 l3 l4 l5 l6 l7 l8 h
    refine gd_iconst (pc := 64) X (0) dX6_touchesAny_64 (by decide) ?_
    exact g65 _ hKH6 _ _ _ _ _ _ _ _ _ _ _ h
  have g60 : ∀ (KH6 : MS → Nat → Int32 → Int32 → Int32 → Int32 → Int32 → Int32 → Int32 → Prop) (hKH6 : ∀ (S : MS) (l0 : Nat) (l1 : Int32) (l2 : Int32) (l3 : Int32) (l4 : Int32) (l5 : Int32) (l6 : Int32) (l7 : Int32), KH6 S l0 l1 l2 l3 l4 l5 l6 l7 → Gd p l e rm_X6_touchesAny s m args below meth c 9 G (MQ below (QcM G (pI_ post)) args s rm_X6_touchesAny.cells rm_X6_touchesAny.slots (Ab G)) 0 0 S 6 [(0, rf l0), (1, .int l1), (2, .int l2), (3, .int l3), (4, .int l4), (5, .int l5), (6, .int l6), (7, .int l7)] []) (S : MS) (l0 : Nat) (l1 : Int32) (l2 : Int32) (l3 : Int32) (l4 : Int32) (l5 : Int32) (l6 : Int32) (l7 : Int32) (l8 : Int32), b_X6_touchesAny_60 KH6 post S l0 l1 l2 l3 l4 l5 l6 l7 l8 → Gd p l e rm_X6_touchesAny s m args below meth c 9 G (MQ below (QcM G (pI_ post)) args s rm_X6_touchesAny.cells rm_X6_touchesAny.slots (Ab G)) 0 0 S 60 [(0, rf l0), (1, .int l1), (2, .int l2), (3, .int l3), (4, .int l4), (5, .int l5), (6, .int l6), (7, .int l7), (8, .int l8)] [] := by
    intro KH6 hKH6 S l0 l1 l2 l3 l4 l5 l6 l7 l8 h
    refine gd_iconst (pc := 60) X (1) dX6_touchesAny_60 (by decide) ?_
    refine gd_goto (pc := 61) X 65 dX6_touchesAny_61 (by decide) ?_
    exact g65 _ hKH6 _ _ _ _ _ _ _ _ _ _ _ h
  have g6 : ∀ (f : Nat) (S : MS) (l0 : Nat) (l1 : Int32) (l2 : Int32) (l3 : Int32) (l4 : Int32) (l5 : Int32) (l6 : Int32) (l7 : Int32), b_X6_touchesAny_6 post f S l0 l1 l2 l3 l4 l5 l6 l7 → Gd p l e rm_X6_touchesAny s m args below meth c 9 G (MQ below (QcM G (pI_ post)) args s rm_X6_touchesAny.cells rm_X6_touchesAny.slots (Ab G)) 0 0 S 6 [(0, rf l0), (1, .int l1), (2, .int l2), (3, .int l3), (4, .int l4), (5, .int l5), (6, .int l6), (7, .int l7)] [] := by
    intro f
    induction f with
    | zero => intro S l0 l1 l2 l3 l4 l5 l6 l7 h; exact h.elim
    | succ f ih =>
      intro S l0 l1 l2 l3 l4 l5 l6 l7 h
      refine gd_iload (pc := 6) X 7 dX6_touchesAny_6 rfl ?_
      refine gd_aload_n (pc := 8) X 0 dX6_touchesAny_8 rfl ?_
      obtain ⟨hk1, h⟩ := h
      refine gd_getR (pc := 9) (kf := 12) X ci6 (by decide) rfl tw_995 dX6_touchesAny_9 hk1 ?_
      refine gd_iload_n (pc := 12) X 1 dX6_touchesAny_12 rfl ?_
      obtain ⟨hk2, h⟩ := h
      obtain ⟨hi3, h⟩ := h
      refine gd_iald (pc := 13) X dX6_touchesAny_13 hk2 hi3 ?_
      refine gd_icmp_ge (pc := 14) X 73 dX6_touchesAny_14 (by decide) (fun hc12 => ?_) (fun hc12 => ?_)
      · have h := h.1 hc12
        refine gd_iload (pc := 73) X 6 dX6_touchesAny_73 rfl ?_
        obtain ⟨hnz, h⟩ := h
        exact (gd_ret_i (pc := 75) X hr hlk hnz (by decide) (by decide) dX6_touchesAny_75 ⟨_, rfl, h⟩)
      · have h := h.2 hc12
        refine gd_iconst (pc := 17) X (4) dX6_touchesAny_17 (by decide) ?_
        refine gd_bipush (pc := 18) X (24) dX6_touchesAny_18 (by decide) ?_
        refine gd_iload_n (pc := 20) X 1 dX6_touchesAny_20 rfl ?_
        refine gd_imul (pc := 21) X dX6_touchesAny_21 ?_
        refine gd_iload (pc := 22) X 7 dX6_touchesAny_22 rfl ?_
        refine gd_iadd (pc := 24) X dX6_touchesAny_24 ?_
        refine gd_imul (pc := 25) X dX6_touchesAny_25 ?_
        refine gd_topI (fun v4 hv4 => ?_)
        have h := h v4 hv4
        refine gd_istore (pc := 26) X dX6_touchesAny_26 (by decide) (E2 := [(8, .int v4), (0, rf l0), (1, .int l1), (2, .int l2), (3, .int l3), (4, .int l4), (5, .int l5), (6, .int l6), (7, .int l7)]) rfl ?_
        refine gd_iload (pc := 28) X 7 dX6_touchesAny_28 rfl ?_
        refine gd_if_ne (pc := 30) X 60 dX6_touchesAny_30 (by decide) (fun hc11 => ?_) (fun hc11 => ?_)
        · have h := h.1 hc11
          refine gd_sub [1, 2, 3, 4, 5, 6, 7, 8, 0] rfl ?_
          exact g60 _ ih _ _ _ _ _ _ _ _ _ _ h
        · have h := h.2 hc11
          refine gd_aload_n (pc := 33) X 1 dX6_touchesAny_33 rfl ?_
          refine gd_getR (pc := 34) (kf := 11) X ci6 (by decide) rfl tw_994 dX6_touchesAny_34 hk1 ?_
          refine gd_iload (pc := 37) X 0 dX6_touchesAny_37 rfl ?_
          refine gd_iconst (pc := 39) X (3) dX6_touchesAny_39 (by decide) ?_
          refine gd_iadd (pc := 40) X dX6_touchesAny_40 ?_
          obtain ⟨hk5, h⟩ := h
          obtain ⟨hi6, h⟩ := h
          refine gd_iald (pc := 41) X dX6_touchesAny_41 hk5 hi6 ?_
          refine gd_iload_n (pc := 42) X 3 dX6_touchesAny_42 rfl ?_
          refine gd_icmp_ge (pc := 43) X 64 dX6_touchesAny_43 (by decide) (fun hc10 => ?_) (fun hc10 => ?_)
          · have h := h.1 hc10
            refine gd_sub [1, 2, 3, 4, 5, 6, 7, 8, 0] rfl ?_
            exact g64 _ ih _ _ _ _ _ _ _ _ _ _ h
          · have h := h.2 hc10
            refine gd_aload_n (pc := 46) X 1 dX6_touchesAny_46 rfl ?_
            refine gd_iload (pc := 47) X 0 dX6_touchesAny_47 rfl ?_
            refine gd_iload_n (pc := 49) X 4 dX6_touchesAny_49 rfl ?_
            refine gd_iload (pc := 50) X 5 dX6_touchesAny_50 rfl ?_
            refine gd_iload (pc := 52) X 6 dX6_touchesAny_52 rfl ?_
            refine gd_callV (pc := 54) (As := [.int v4, .int l3, .int l4, .int l5]) (rest := []) X (ct_X6_touches l G S l0 v4 l3 l4 l5 _ h) mw_X6_touches tw_1199 ci6 rfl hk1 ⟨(Nat.le_of_ble_eq_true rfl), (Nat.le_of_ble_eq_true rfl)⟩ rfl rfl (Nat.le_of_ble_eq_true rfl) dX6_touchesAny_54 ⟨Nat.le_of_ble_eq_true rfl, Nat.le_of_ble_eq_true rfl⟩ (kI (fun r8 S7 h => ?_))
            refine gd_wide (k2 := 0) (j2 := 0) (Nat.le_of_ble_eq_true rfl) (Nat.le_of_ble_eq_true rfl) ?_
            refine gd_if_eq (pc := 57) X 64 dX6_touchesAny_57 (by decide) (fun hc9 => ?_) (fun hc9 => ?_)
            · have h := h.1 hc9
              refine gd_sub [1, 2, 3, 4, 5, 6, 7, 8, 0] rfl ?_
              exact g64 _ ih _ _ _ _ _ _ _ _ _ _ h
            · have h := h.2 hc9
              refine gd_sub [1, 2, 3, 4, 5, 6, 7, 8, 0] rfl ?_
              exact g60 _ ih _ _ _ _ _ _ _ _ _ _ h
  intro h
  refine gd_iconst (pc := 0) X (0) dX6_touchesAny_0 (by decide) ?_
  refine gd_istore (pc := 1) X dX6_touchesAny_1 (by decide) (E2 := [(6, .int 0), (0, rf a0), (1, .int a1), (2, .int a2), (3, .int a3), (4, .int a4), (5, .int a5)]) rfl ?_
  refine gd_iconst (pc := 3) X (0) dX6_touchesAny_3 (by decide) ?_
  refine gd_istore (pc := 4) X dX6_touchesAny_4 (by decide) (E2 := [(7, .int 0), (6, .int 0), (0, rf a0), (1, .int a1), (2, .int a2), (3, .int a3), (4, .int a4), (5, .int a5)]) rfl ?_
  refine gd_sub [2, 3, 4, 5, 6, 7, 1, 0] rfl ?_
  obtain ⟨f6, h⟩ := h
  exact g6 f6 _ _ _ _ _ _ _ _ _ h
