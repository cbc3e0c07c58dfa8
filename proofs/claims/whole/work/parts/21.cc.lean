abbrev rm_X3_parseKey : Room := { frames := 1, cells := 0, slots := 0, locals := 20 }
def w_X3_parseKey (S : MS) (a0 : Nat) (post : Int32 → MS → Prop) : Prop := kT S a0 = 4 ∧ w_X3_current S a0 (fun r3 S2 => w_X3_isDigit S2 r3 (fun r5 S4 => ((¬ r5 = 0 → kT S4 a0 = 4 ∧ w_X3_current S4 a0 (fun r8 S7 => ∀ v9 : Int32, v9 = r8 - 48 → kT S7 a0 = 4 ∧ ∀ S11 : MS, S11 = pI S7 a0 2 ((sI S7 a0 2) + 1) → w_X3_current S11 a0 (fun r14 S13 => w_X3_isDigit S13 r14 (fun r16 S15 => ((¬ r16 = 0 → kT S15 a0 = 4 ∧ w_X3_current S15 a0 (fun r19 S18 => ∀ v20 : Int32, v20 = (v9 * 10) + (r19 - 48) → ((v20 < 32 → kT S18 a0 = 4 ∧ ∀ S22 : MS, S22 = pI S18 a0 2 ((sI S18 a0 2) + 1) → post v20 S22) ∧ (¬ v20 < 32 → post ((-1)) S18)))) ∧ (r16 = 0 → post v9 S15)))))) ∧ (r5 = 0 → post ((-1)) S4))))
set_option maxHeartbeats 4000000 in
set_option maxRecDepth 100000 in
theorem ct_X3_parseKey (l : Launch) (G : GP) (S : MS) (a0 : Nat) (post : Int32 → MS → Prop) (h : w_X3_parseKey S a0 post) : MetM l yX3_parseKey cX3_parseKey 2 (some .int) rm_X3_parseKey [rf a0] G S (pI_ post) := by
  refine met_of (by decide) (cat1_r cat1_n) (Nat.le_of_ble_eq_true rfl) ?_
  intro p e s m args below meth c X hr hlk hin
  refine gd_aload_n (pc := 0) X 0 dX3_parseKey_0 rfl ?_
  obtain ⟨hk1, h⟩ := h
  refine gd_callV (pc := 1) (As := []) (rest := []) X (ct_X3_current l G S a0 _ h) mw_X3_current tw_924 ci3 rfl hk1 ⟨(Nat.le_of_ble_eq_true rfl), (Nat.le_of_ble_eq_true rfl)⟩ rfl rfl (Nat.le_of_ble_eq_true rfl) dX3_parseKey_1 ⟨Nat.le_of_ble_eq_true rfl, Nat.le_of_ble_eq_true rfl⟩ (kI (fun r3 S2 h => ?_))
  refine gd_wide (k2 := 0) (j2 := 0) (Nat.le_of_ble_eq_true rfl) (Nat.le_of_ble_eq_true rfl) ?_
  refine gd_callS (pc := 4) (As := [.int r3]) (rest := []) X (ct_X3_isDigit l G S2 r3 _ h) mw_X3_isDigit tw_935 ⟨(Nat.le_of_ble_eq_true rfl), (Nat.le_of_ble_eq_true rfl)⟩ rfl rfl (Nat.le_of_ble_eq_true rfl) dX3_parseKey_4 ⟨Nat.le_of_ble_eq_true rfl, Nat.le_of_ble_eq_true rfl⟩ (kI (fun r5 S4 h => ?_))
  refine gd_wide (k2 := 0) (j2 := 0) (Nat.le_of_ble_eq_true rfl) (Nat.le_of_ble_eq_true rfl) ?_
  refine gd_if_ne (pc := 7) X 12 dX3_parseKey_7 (by decide) (fun hc26 => ?_) (fun hc26 => ?_)
  · have h := h.1 hc26
    refine gd_aload_n (pc := 12) X 0 dX3_parseKey_12 rfl ?_
    obtain ⟨hk6, h⟩ := h
    refine gd_callV (pc := 13) (As := []) (rest := []) X (ct_X3_current l G S4 a0 _ h) mw_X3_current tw_924 ci3 rfl hk6 ⟨(Nat.le_of_ble_eq_true rfl), (Nat.le_of_ble_eq_true rfl)⟩ rfl rfl (Nat.le_of_ble_eq_true rfl) dX3_parseKey_13 ⟨Nat.le_of_ble_eq_true rfl, Nat.le_of_ble_eq_true rfl⟩ (kI (fun r8 S7 h => ?_))
    refine gd_wide (k2 := 0) (j2 := 0) (Nat.le_of_ble_eq_true rfl) (Nat.le_of_ble_eq_true rfl) ?_
    refine gd_bipush (pc := 16) X (48) dX3_parseKey_16 (by decide) ?_
    refine gd_isub (pc := 18) X dX3_parseKey_18 ?_
    refine gd_topI (fun v9 hv9 => ?_)
    have h := h v9 hv9
    refine gd_istore_n (pc := 19) X dX3_parseKey_19 (by decide) (E2 := [(1, .int v9), (0, rf a0)]) (by simp [rf_cat, lv1, int_cat] <;> decide) ?_
    refine gd_aload_n (pc := 20) X 1 dX3_parseKey_20 rfl ?_
    refine gd_dupR (pc := 21) X dX3_parseKey_21 ?_
    obtain ⟨hk10, h⟩ := h
    refine gd_getI (pc := 22) (kf := 2) X ci3 (by decide) rfl tw_67 dX3_parseKey_22 hk10 ?_
    refine gd_iconst (pc := 25) X (1) dX3_parseKey_25 (by decide) ?_
    refine gd_iadd (pc := 26) X dX3_parseKey_26 ?_
    refine gd_putI (pc := 27) (kf := 2) X ci3 (by decide) rfl rfl tw_67 rfl rfl dX3_parseKey_27 hk10 ?_
    refine gd_topS (fun S11 hS11 => ?_)
    have h := h S11 hS11
    have hk12 : kT S11 a0 = 4 := by rw [hS11]; exact hk10
    refine gd_aload_n (pc := 30) X 1 dX3_parseKey_30 rfl ?_
    refine gd_callV (pc := 31) (As := []) (rest := []) X (ct_X3_current l G S11 a0 _ h) mw_X3_current tw_924 ci3 rfl hk12 ⟨(Nat.le_of_ble_eq_true rfl), (Nat.le_of_ble_eq_true rfl)⟩ rfl rfl (Nat.le_of_ble_eq_true rfl) dX3_parseKey_31 ⟨Nat.le_of_ble_eq_true rfl, Nat.le_of_ble_eq_true rfl⟩ (kI (fun r14 S13 h => ?_))
    refine gd_wide (k2 := 0) (j2 := 0) (Nat.le_of_ble_eq_true rfl) (Nat.le_of_ble_eq_true rfl) ?_
    refine gd_callS (pc := 34) (As := [.int r14]) (rest := []) X (ct_X3_isDigit l G S13 r14 _ h) mw_X3_isDigit tw_935 ⟨(Nat.le_of_ble_eq_true rfl), (Nat.le_of_ble_eq_true rfl)⟩ rfl rfl (Nat.le_of_ble_eq_true rfl) dX3_parseKey_34 ⟨Nat.le_of_ble_eq_true rfl, Nat.le_of_ble_eq_true rfl⟩ (kI (fun r16 S15 h => ?_))
    refine gd_wide (k2 := 0) (j2 := 0) (Nat.le_of_ble_eq_true rfl) (Nat.le_of_ble_eq_true rfl) ?_
    refine gd_if_ne (pc := 37) X 42 dX3_parseKey_37 (by decide) (fun hc25 => ?_) (fun hc25 => ?_)
    · have h := h.1 hc25
      refine gd_iload_n (pc := 42) X 0 dX3_parseKey_42 rfl ?_
      refine gd_bipush (pc := 43) X (10) dX3_parseKey_43 (by decide) ?_
      refine gd_imul (pc := 45) X dX3_parseKey_45 ?_
      refine gd_aload_n (pc := 46) X 1 dX3_parseKey_46 rfl ?_
      obtain ⟨hk17, h⟩ := h
      refine gd_callV (pc := 47) (As := []) (rest := [.int (v9 * 10)]) X (ct_X3_current l G S15 a0 _ h) mw_X3_current tw_924 ci3 rfl hk17 ⟨(Nat.le_of_ble_eq_true rfl), (Nat.le_of_ble_eq_true rfl)⟩ rfl rfl (Nat.le_of_ble_eq_true rfl) dX3_parseKey_47 ⟨Nat.le_of_ble_eq_true rfl, Nat.le_of_ble_eq_true rfl⟩ (kI (fun r19 S18 h => ?_))
      refine gd_wide (k2 := 0) (j2 := 0) (Nat.le_of_ble_eq_true rfl) (Nat.le_of_ble_eq_true rfl) ?_
      refine gd_bipush (pc := 50) X (48) dX3_parseKey_50 (by decide) ?_
      refine gd_isub (pc := 52) X dX3_parseKey_52 ?_
      refine gd_iadd (pc := 53) X dX3_parseKey_53 ?_
      refine gd_topI (fun v20 hv20 => ?_)
      have h := h v20 hv20
      refine gd_istore_n (pc := 54) X dX3_parseKey_54 (by decide) (E2 := [(1, .int v20), (0, rf a0)]) (by simp [rf_cat, lv1, int_cat] <;> decide) ?_
      refine gd_iload_n (pc := 55) X 0 dX3_parseKey_55 rfl ?_
      refine gd_bipush (pc := 56) X (32) dX3_parseKey_56 (by decide) ?_
      refine gd_icmp_lt (pc := 58) X 63 dX3_parseKey_58 (by decide) (fun hc24 => ?_) (fun hc24 => ?_)
      · have h := h.1 hc24
        refine gd_aload_n (pc := 63) X 1 dX3_parseKey_63 rfl ?_
        refine gd_dupR (pc := 64) X dX3_parseKey_64 ?_
        obtain ⟨hk21, h⟩ := h
        refine gd_getI (pc := 65) (kf := 2) X ci3 (by decide) rfl tw_67 dX3_parseKey_65 hk21 ?_
        refine gd_iconst (pc := 68) X (1) dX3_parseKey_68 (by decide) ?_
        refine gd_iadd (pc := 69) X dX3_parseKey_69 ?_
        refine gd_putI (pc := 70) (kf := 2) X ci3 (by decide) rfl rfl tw_67 rfl rfl dX3_parseKey_70 hk21 ?_
        refine gd_topS (fun S22 hS22 => ?_)
        have h := h S22 hS22
        have hk23 : kT S22 a0 = 4 := by rw [hS22]; exact hk21
        refine gd_iload_n (pc := 73) X 0 dX3_parseKey_73 rfl ?_
        exact (gd_ret_i (pc := 74) X hr hlk rfl (by decide) (by decide) dX3_parseKey_74 ⟨_, rfl, h⟩)
      · have h := h.2 hc24
        refine gd_iconst (pc := 61) X (-1) dX3_parseKey_61 (by decide) ?_
        exact (gd_ret_i (pc := 62) X hr hlk rfl (by decide) (by decide) dX3_parseKey_62 ⟨_, rfl, h⟩)
    · have h := h.2 hc25
      refine gd_iload_n (pc := 40) X 0 dX3_parseKey_40 rfl ?_
      exact (gd_ret_i (pc := 41) X hr hlk rfl (by decide) (by decide) dX3_parseKey_41 ⟨_, rfl, h⟩)
  · have h := h.2 hc26
    refine gd_iconst (pc := 10) X (-1) dX3_parseKey_10 (by decide) ?_
    exact (gd_ret_i (pc := 11) X hr hlk rfl (by decide) (by decide) dX3_parseKey_11 ⟨_, rfl, h⟩)
abbrev rm_X3_pass : Room := { frames := 1, cells := 0, slots := 0, locals := 20 }
def w_X3_pass (S : MS) (a0 : Nat) (a1 : Int32) (post : Int32 → MS → Prop) : Prop := kT S a0 = 4 ∧ w_X3_current S a0 (fun r3 S2 => ((r3 = a1 → kT S2 a0 = 4 ∧ ∀ S5 : MS, S5 = pI S2 a0 2 ((sI S2 a0 2) + 1) → post 1 S5) ∧ (¬ r3 = a1 → post 0 S2)))
set_option maxHeartbeats 4000000 in
set_option maxRecDepth 100000 in
theorem ct_X3_pass (l : Launch) (G : GP) (S : MS) (a0 : Nat) (a1 : Int32) (post : Int32 → MS → Prop) (h : w_X3_pass S a0 a1 post) : MetM l yX3_pass cX3_pass 2 (some .boolean) rm_X3_pass [rf a0, .int a1] G S (pI_ post) := by
  refine met_of (by decide) (cat1_r (cat1_i cat1_n)) (Nat.le_of_ble_eq_true rfl) ?_
  intro p e s m args below meth c X hr hlk hin
  refine gd_aload_n (pc := 0) X 0 dX3_pass_0 rfl ?_
  obtain ⟨hk1, h⟩ := h
  refine gd_callV (pc := 1) (As := []) (rest := []) X (ct_X3_current l G S a0 _ h) mw_X3_current tw_924 ci3 rfl hk1 ⟨(Nat.le_of_ble_eq_true rfl), (Nat.le_of_ble_eq_true rfl)⟩ rfl rfl (Nat.le_of_ble_eq_true rfl) dX3_pass_1 ⟨Nat.le_of_ble_eq_true rfl, Nat.le_of_ble_eq_true rfl⟩ (kI (fun r3 S2 h => ?_))
  refine gd_wide (k2 := 0) (j2 := 0) (Nat.le_of_ble_eq_true rfl) (Nat.le_of_ble_eq_true rfl) ?_
  refine gd_iload_n (pc := 4) X 1 dX3_pass_4 rfl ?_
  refine gd_icmp_eq (pc := 5) X 10 dX3_pass_5 (by decide) (fun hc7 => ?_) (fun hc7 => ?_)
  · have h := h.1 hc7
    refine gd_aload_n (pc := 10) X 0 dX3_pass_10 rfl ?_
    refine gd_dupR (pc := 11) X dX3_pass_11 ?_
    obtain ⟨hk4, h⟩ := h
    refine gd_getI (pc := 12) (kf := 2) X ci3 (by decide) rfl tw_67 dX3_pass_12 hk4 ?_
    refine gd_iconst (pc := 15) X (1) dX3_pass_15 (by decide) ?_
    refine gd_iadd (pc := 16) X dX3_pass_16 ?_
    refine gd_putI (pc := 17) (kf := 2) X ci3 (by decide) rfl rfl tw_67 rfl rfl dX3_pass_17 hk4 ?_
    refine gd_topS (fun S5 hS5 => ?_)
    have h := h S5 hS5
    have hk6 : kT S5 a0 = 4 := by rw [hS5]; exact hk4
    refine gd_iconst (pc := 20) X (1) dX3_pass_20 (by decide) ?_
    exact (gd_ret_i (pc := 21) X hr hlk rfl (by decide) (by decide) dX3_pass_21 ⟨_, rfl, h⟩)
  · have h := h.2 hc7
    refine gd_iconst (pc := 8) X (0) dX3_pass_8 (by decide) ?_
    exact (gd_ret_i (pc := 9) X hr hlk rfl (by decide) (by decide) dX3_pass_9 ⟨_, rfl, h⟩)
abbrev rm_X3_parseDigits : Room := { frames := 2, cells := 1, slots := 6, locals := 44 }
def b_X3_parseDigits_84 (post : Nat → MS → Prop) (S : MS) (l0 : Nat) (l1 : Int32) (l2 : Int32) (l3 : Int32) (l4 : Int32) (l5 : Int32) (s0 : Nat) : Prop := post s0 S
def b_X3_parseDigits_81 (post : Nat → MS → Prop) (S : MS) (l0 : Nat) (l1 : Int32) (l2 : Int32) (l3 : Int32) (l4 : Int32) (l5 : Int32) (s0 : Int32) (s1 : Int32) (s2 : Int32) (s3 : Int32) (s4 : Nat) (s5 : Nat) : Prop := kT S s4 = 3 ∧ w_X2_init S s4 s3 s2 s1 s0 (fun S2 => b_X3_parseDigits_84 post S2 l0 l1 l2 l3 l4 l5 s5)
def b_X3_parseDigits_53 (post : Nat → MS → Prop) (S : MS) (l0 : Nat) (l1 : Int32) (l2 : Int32) (l3 : Int32) (l4 : Int32) (l5 : Int32) : Prop := ((¬ l5 = 0 → ∀ q1 : Nat, kT S q1 = 0 → ¬ q1 = 0 → ∀ S2 : MS, S2 = nw S q1 3 0 → ((l3 = 0 → b_X3_parseDigits_81 post S2 l0 l1 l2 l3 l4 l5 l4 l2 l2 l1 q1 q1) ∧ (¬ l3 = 0 → b_X3_parseDigits_81 post S2 l0 l1 l2 l3 l4 l5 (-l4) l2 l2 l1 q1 q1))) ∧ (l5 = 0 → b_X3_parseDigits_84 post S l0 l1 l2 l3 l4 l5 0))
def b_X3_parseDigits_6 (post : Nat → MS → Prop) : Nat → MS → Nat → Int32 → Int32 → Int32 → Int32 → Int32 → Prop
  | 0 => fun _ _ _ _ _ _ _ => False
  | f + 1 => fun S l0 l1 l2 l3 l4 l5 => ((3 ≤ l5 → b_X3_parseDigits_53 post S l0 l1 l2 l3 l4 l5) ∧ (¬ 3 ≤ l5 → kT S l0 = 4 ∧ w_X3_current S l0 (fun r3 S2 => w_X3_isDigit S2 r3 (fun r5 S4 => ((r5 = 0 → b_X3_parseDigits_53 post S4 l0 l1 l2 l3 l4 l5) ∧ (¬ r5 = 0 → kT S4 l0 = 4 ∧ w_X3_current S4 l0 (fun r8 S7 => ∀ v9 : Int32, v9 = (l4 * 10) + (r8 - 48) → kT S7 l0 = 4 ∧ ∀ S11 : MS, S11 = pI S7 l0 2 ((sI S7 l0 2) + 1) → ∀ v13 : Int32, v13 = l5 + 1 → b_X3_parseDigits_6 post f S11 l0 l1 l2 l3 v9 v13)))))))
def w_X3_parseDigits (S : MS) (a0 : Nat) (a1 : Int32) (a2 : Int32) (a3 : Int32) (post : Nat → MS → Prop) : Prop := ∃ f6, b_X3_parseDigits_6 post f6 S a0 a1 a2 a3 0 0
set_option maxHeartbeats 4000000 in
set_option maxRecDepth 100000 in
theorem ct_X3_parseDigits (l : Launch) (G : GP) (S : MS) (a0 : Nat) (a1 : Int32) (a2 : Int32) (a3 : Int32) (post : Nat → MS → Prop) (h : w_X3_parseDigits S a0 a1 a2 a3 post) : MetM l yX3_parseDigits cX3_parseDigits 6 (some (.object "OptimisticStore$Operation")) rm_X3_parseDigits [rf a0, .int a1, .int a2, .int a3] G S (pR_ post) := by
  refine met_of (by decide) (cat1_r (cat1_i (cat1_i (cat1_i cat1_n)))) (Nat.le_of_ble_eq_true rfl) ?_
  intro p e s m args below meth c X hr hlk hin
  revert h
  have g84 : ∀ (S : MS) (l0 : Nat) (l1 : Int32) (l2 : Int32) (l3 : Int32) (l4 : Int32) (l5 : Int32) (s0 : Nat), b_X3_parseDigits_84 post S l0 l1 l2 l3 l4 l5 s0 → Gd p l e rm_X3_parseDigits s m args below meth c 6 G (MQ below (QcM G (pR_ post)) args s rm_X3_parseDigits.cells rm_X3_parseDigits.slots (Ab G)) 1 6 S 84 [(0, rf l0), (1, .int l1), (2, .int l2), (3, .int l3), (4, .int l4), (5, .int l5)] [rf s0] := by
    intro S l0 l1 l2 l3 l4 l5 s0 h
    exact (gd_ret_a (pc := 84) X hr (Or.inl ⟨_, rfl⟩) hlk (by decide) (by decide) dX3_parseDigits_84 ⟨_, rfl, h⟩)
  have g81 : ∀ (S : MS) (l0 : Nat) (l1 : Int32) (l2 : Int32) (l3 : Int32) (l4 : Int32) (l5 : Int32) (s0 : Int32) (s1 : Int32) (s2 : Int32) (s3 : Int32) (s4 : Nat) (s5 : Nat), b_X3_parseDigits_81 post S l0 l1 l2 l3 l4 l5 s0 s1 s2 s3 s4 s5 → Gd p l e rm_X3_parseDigits s m args below meth c 6 G (MQ below (QcM G (pR_ post)) args s rm_X3_parseDigits.cells rm_X3_parseDigits.slots (Ab G)) 1 6 S 81 [(0, rf l0), (1, .int l1), (2, .int l2), (3, .int l3), (4, .int l4), (5, .int l5)] [.int s0, .int s1, .int s2, .int s3, rf s4, rf s5] := by
    intro S l0 l1 l2 l3 l4 l5 s0 s1 s2 s3 s4 s5 h
    obtain ⟨hk1, h⟩ := h
    refine gd_callI (pc := 81) (As := [.int s3, .int s2, .int s1, .int s0]) (rest := [rf s5]) X (ct_X2_init l G S s4 s3 s2 s1 s0 _ h) mw_X2_init tw_950 (by rw [hk1]; decide) ⟨(Nat.le_of_ble_eq_true rfl), (Nat.le_of_ble_eq_true rfl)⟩ rfl rfl (Nat.le_of_ble_eq_true rfl) dX3_parseDigits_81 ⟨Nat.le_of_ble_eq_true rfl, Nat.le_of_ble_eq_true rfl⟩ (kV (fun S2 h => ?_))
    refine gd_wide (k2 := 1) (j2 := 6) (Nat.le_of_ble_eq_true rfl) (Nat.le_of_ble_eq_true rfl) ?_
    exact g84 _ _ _ _ _ _ _ _ h
  have g53 : ∀ (S : MS) (l0 : Nat) (l1 : Int32) (l2 : Int32) (l3 : Int32) (l4 : Int32) (l5 : Int32), b_X3_parseDigits_53 post S l0 l1 l2 l3 l4 l5 → Gd p l e rm_X3_parseDigits s m args below meth c 6 G (MQ below (QcM G (pR_ post)) args s rm_X3_parseDigits.cells rm_X3_parseDigits.slots (Ab G)) 0 0 S 53 [(0, rf l0), (1, .int l1), (2, .int l2), (3, .int l3), (4, .int l4), (5, .int l5)] [] := by
    intro S l0 l1 l2 l3 l4 l5 h
    refine gd_iload (pc := 53) X 5 dX3_parseDigits_53 rfl ?_
    refine gd_if_ne (pc := 55) X 62 dX3_parseDigits_55 (by decide) (fun hc5 => ?_) (fun hc5 => ?_)
    · have h := h.1 hc5
      refine gd_new (pc := 62) X ci2 tw_63 tw_176 tw_15 (by decide +kernel) dX3_parseDigits_62 ⟨Nat.le_of_ble_eq_true rfl, Nat.le_of_ble_eq_true rfl⟩ (fun q1 hzq1 hnq1 => ?_)
      have h := h q1 hzq1 hnq1
      refine gd_wide (k2 := 1) (j2 := 6) (Nat.le_of_ble_eq_true rfl) (Nat.le_of_ble_eq_true rfl) ?_
      refine gd_topS (fun S2 hS2 => ?_)
      have h := h S2 hS2
      have hk3 : kT S2 q1 = 3 := by rw [hS2]; exact kT_nw _ _ _ _
      refine gd_dupR (pc := 65) X dX3_parseDigits_65 ?_
      refine gd_iload_n (pc := 66) X 1 dX3_parseDigits_66 rfl ?_
      refine gd_iload_n (pc := 67) X 2 dX3_parseDigits_67 rfl ?_
      refine gd_iload_n (pc := 68) X 2 dX3_parseDigits_68 rfl ?_
      refine gd_iload_n (pc := 69) X 3 dX3_parseDigits_69 rfl ?_
      refine gd_if_eq (pc := 70) X 79 dX3_parseDigits_70 (by decide) (fun hc4 => ?_) (fun hc4 => ?_)
      · have h := h.1 hc4
        refine gd_iload (pc := 79) X 4 dX3_parseDigits_79 rfl ?_
        exact g81 _ _ _ _ _ _ _ _ _ _ _ _ _ h
      · have h := h.2 hc4
        refine gd_iload (pc := 73) X 4 dX3_parseDigits_73 rfl ?_
        refine gd_ineg (pc := 75) X dX3_parseDigits_75 ?_
        refine gd_goto (pc := 76) X 81 dX3_parseDigits_76 (by decide) ?_
        exact g81 _ _ _ _ _ _ _ _ _ _ _ _ _ h
    · have h := h.2 hc5
      refine gd_null (pc := 58) X dX3_parseDigits_58 ?_
      refine gd_goto (pc := 59) X 84 dX3_parseDigits_59 (by decide) ?_
      refine gd_wide (k2 := 1) (j2 := 6) (Nat.le_of_ble_eq_true rfl) (Nat.le_of_ble_eq_true rfl) ?_
      exact g84 _ _ _ _ _ _ _ _ h
  have g6 : ∀ (f : Nat) (S : MS) (l0 : Nat) (l1 : Int32) (l2 : Int32) (l3 : Int32) (l4 : Int32) (l5 : Int32), b_X3_parseDigits_6 post f S l0 l1 l2 l3 l4 l5 → Gd p l e rm_X3_parseDigits s m args below meth c 6 G (MQ below (QcM G (pR_ post)) args s rm_X3_parseDigits.cells rm_X3_parseDigits.slots (Ab G)) 0 0 S 6 [(0, rf l0), (1, .int l1), (2, .int l2), (3, .int l3), (4, .int l4), (5, .int l5)] [] := by
    intro f
    induction f with
    | zero => intro S l0 l1 l2 l3 l4 l5 h; exact h.elim
    | succ f ih =>
      intro S l0 l1 l2 l3 l4 l5 h
      refine gd_iload (pc := 6) X 5 dX3_parseDigits_6 rfl ?_
      refine gd_iconst (pc := 8) X (3) dX3_parseDigits_8 (by decide) ?_
      refine gd_icmp_ge (pc := 9) X 53 dX3_parseDigits_9 (by decide) (fun hc15 => ?_) (fun hc15 => ?_)
      · have h := h.1 hc15
        exact g53 _ _ _ _ _ _ _ h
      · have h := h.2 hc15
        refine gd_aload_n (pc := 12) X 0 dX3_parseDigits_12 rfl ?_
        obtain ⟨hk1, h⟩ := h
        refine gd_callV (pc := 13) (As := []) (rest := []) X (ct_X3_current l G S l0 _ h) mw_X3_current tw_924 ci3 rfl hk1 ⟨(Nat.le_of_ble_eq_true rfl), (Nat.le_of_ble_eq_true rfl)⟩ rfl rfl (Nat.le_of_ble_eq_true rfl) dX3_parseDigits_13 ⟨Nat.le_of_ble_eq_true rfl, Nat.le_of_ble_eq_true rfl⟩ (kI (fun r3 S2 h => ?_))
        refine gd_wide (k2 := 0) (j2 := 0) (Nat.le_of_ble_eq_true rfl) (Nat.le_of_ble_eq_true rfl) ?_
        refine gd_callS (pc := 16) (As := [.int r3]) (rest := []) X (ct_X3_isDigit l G S2 r3 _ h) mw_X3_isDigit tw_935 ⟨(Nat.le_of_ble_eq_true rfl), (Nat.le_of_ble_eq_true rfl)⟩ rfl rfl (Nat.le_of_ble_eq_true rfl) dX3_parseDigits_16 ⟨Nat.le_of_ble_eq_true rfl, Nat.le_of_ble_eq_true rfl⟩ (kI (fun r5 S4 h => ?_))
        refine gd_wide (k2 := 0) (j2 := 0) (Nat.le_of_ble_eq_true rfl) (Nat.le_of_ble_eq_true rfl) ?_
        refine gd_if_eq (pc := 19) X 53 dX3_parseDigits_19 (by decide) (fun hc14 => ?_) (fun hc14 => ?_)
        · have h := h.1 hc14
          exact g53 _ _ _ _ _ _ _ h
        · have h := h.2 hc14
          refine gd_iload (pc := 22) X 4 dX3_parseDigits_22 rfl ?_
          refine gd_bipush (pc := 24) X (10) dX3_parseDigits_24 (by decide) ?_
          refine gd_imul (pc := 26) X dX3_parseDigits_26 ?_
          refine gd_aload_n (pc := 27) X 0 dX3_parseDigits_27 rfl ?_
          obtain ⟨hk6, h⟩ := h
          refine gd_callV (pc := 28) (As := []) (rest := [.int (l4 * 10)]) X (ct_X3_current l G S4 l0 _ h) mw_X3_current tw_924 ci3 rfl hk6 ⟨(Nat.le_of_ble_eq_true rfl), (Nat.le_of_ble_eq_true rfl)⟩ rfl rfl (Nat.le_of_ble_eq_true rfl) dX3_parseDigits_28 ⟨Nat.le_of_ble_eq_true rfl, Nat.le_of_ble_eq_true rfl⟩ (kI (fun r8 S7 h => ?_))
          refine gd_wide (k2 := 0) (j2 := 0) (Nat.le_of_ble_eq_true rfl) (Nat.le_of_ble_eq_true rfl) ?_
          refine gd_bipush (pc := 31) X (48) dX3_parseDigits_31 (by decide) ?_
          refine gd_isub (pc := 33) X dX3_parseDigits_33 ?_
          refine gd_iadd (pc := 34) X dX3_parseDigits_34 ?_
          refine gd_topI (fun v9 hv9 => ?_)
          have h := h v9 hv9
          refine gd_istore (pc := 35) X dX3_parseDigits_35 (by decide) (E2 := [(4, .int v9), (0, rf l0), (1, .int l1), (2, .int l2), (3, .int l3), (5, .int l5)]) rfl ?_
          refine gd_aload_n (pc := 37) X 1 dX3_parseDigits_37 rfl ?_
          refine gd_dupR (pc := 38) X dX3_parseDigits_38 ?_
          obtain ⟨hk10, h⟩ := h
          refine gd_getI (pc := 39) (kf := 2) X ci3 (by decide) rfl tw_67 dX3_parseDigits_39 hk10 ?_
          refine gd_iconst (pc := 42) X (1) dX3_parseDigits_42 (by decide) ?_
          refine gd_iadd (pc := 43) X dX3_parseDigits_43 ?_
          refine gd_putI (pc := 44) (kf := 2) X ci3 (by decide) rfl rfl tw_67 rfl rfl dX3_parseDigits_44 hk10 ?_
          refine gd_topS (fun S11 hS11 => ?_)
          have h := h S11 hS11
          have hk12 : kT S11 l0 = 4 := by rw [hS11]; exact hk10
          obtain ⟨v13, hv13⟩ : ∃ z : Int32, z = l5 + 1 := ⟨_, rfl⟩
          have h := h v13 hv13
          refine gd_iinc (pc := 47) (v := v13) X 5 dX3_parseDigits_47 rfl (by rw [hv13]; rfl) (by decide) (E2 := [(5, .int v13), (4, .int v9), (0, rf l0), (1, .int l1), (2, .int l2), (3, .int l3)]) rfl ?_
          refine gd_goto (pc := 50) X 6 dX3_parseDigits_50 (by decide) ?_
          refine gd_sub [2, 3, 4, 5, 1, 0] rfl ?_
          exact ih _ _ _ _ _ _ _ h
  intro h
  refine gd_iconst (pc := 0) X (0) dX3_parseDigits_0 (by decide) ?_
  refine gd_istore (pc := 1) X dX3_parseDigits_1 (by decide) (E2 := [(4, .int 0), (0, rf a0), (1, .int a1), (2, .int a2), (3, .int a3)]) rfl ?_
  refine gd_iconst (pc := 3) X (0) dX3_parseDigits_3 (by decide) ?_
  refine gd_istore (pc := 4) X dX3_parseDigits_4 (by decide) (E2 := [(5, .int 0), (4, .int 0), (0, rf a0), (1, .int a1), (2, .int a2), (3, .int a3)]) rfl ?_
  refine gd_sub [2, 3, 4, 5, 1, 0] rfl ?_
  obtain ⟨f6, h⟩ := h
  exact g6 f6 _ _ _ _ _ _ _ h
abbrev rm_X3_parseWrite : Room := { frames := 3, cells := 1, slots := 6, locals := 69 }
def w_X3_parseWrite (S : MS) (a0 : Nat) (a1 : Int32) (post : Nat → MS → Prop) : Prop := kT S a0 = 4 ∧ w_X3_pass S a0 61 (fun r3 S2 => ((¬ r3 = 0 → kT S2 a0 = 4 ∧ w_X3_pass S2 a0 45 (fun r6 S5 => kT S5 a0 = 4 ∧ w_X3_parseDigits S5 a0 3 a1 r6 (fun r9 S8 => post r9 S8))) ∧ (r3 = 0 → post 0 S2)))
set_option maxHeartbeats 4000000 in
set_option maxRecDepth 100000 in
theorem ct_X3_parseWrite (l : Launch) (G : GP) (S : MS) (a0 : Nat) (a1 : Int32) (post : Nat → MS → Prop) (h : w_X3_parseWrite S a0 a1 post) : MetM l yX3_parseWrite cX3_parseWrite 3 (some (.object "OptimisticStore$Operation")) rm_X3_parseWrite [rf a0, .int a1] G S (pR_ post) := by
  refine met_of (by decide) (cat1_r (cat1_i cat1_n)) (Nat.le_of_ble_eq_true rfl) ?_
  intro p e s m args below meth c X hr hlk hin
  refine gd_aload_n (pc := 0) X 0 dX3_parseWrite_0 rfl ?_
  refine gd_bipush (pc := 1) X (61) dX3_parseWrite_1 (by decide) ?_
  obtain ⟨hk1, h⟩ := h
  refine gd_callV (pc := 3) (As := [.int 61]) (rest := []) X (ct_X3_pass l G S a0 61 _ h) mw_X3_pass tw_942 ci3 rfl hk1 ⟨(Nat.le_of_ble_eq_true rfl), (Nat.le_of_ble_eq_true rfl)⟩ rfl rfl (Nat.le_of_ble_eq_true rfl) dX3_parseWrite_3 ⟨Nat.le_of_ble_eq_true rfl, Nat.le_of_ble_eq_true rfl⟩ (kI (fun r3 S2 h => ?_))
  refine gd_wide (k2 := 0) (j2 := 0) (Nat.le_of_ble_eq_true rfl) (Nat.le_of_ble_eq_true rfl) ?_
  refine gd_if_ne (pc := 6) X 11 dX3_parseWrite_6 (by decide) (fun hc10 => ?_) (fun hc10 => ?_)
  · have h := h.1 hc10
    refine gd_aload_n (pc := 11) X 0 dX3_parseWrite_11 rfl ?_
    refine gd_bipush (pc := 12) X (45) dX3_parseWrite_12 (by decide) ?_
    obtain ⟨hk4, h⟩ := h
    refine gd_callV (pc := 14) (As := [.int 45]) (rest := []) X (ct_X3_pass l G S2 a0 45 _ h) mw_X3_pass tw_942 ci3 rfl hk4 ⟨(Nat.le_of_ble_eq_true rfl), (Nat.le_of_ble_eq_true rfl)⟩ rfl rfl (Nat.le_of_ble_eq_true rfl) dX3_parseWrite_14 ⟨Nat.le_of_ble_eq_true rfl, Nat.le_of_ble_eq_true rfl⟩ (kI (fun r6 S5 h => ?_))
    refine gd_wide (k2 := 0) (j2 := 0) (Nat.le_of_ble_eq_true rfl) (Nat.le_of_ble_eq_true rfl) ?_
    refine gd_istore_n (pc := 17) X dX3_parseWrite_17 (by decide) (E2 := [(2, .int r6), (0, rf a0), (1, .int a1)]) rfl ?_
    refine gd_aload_n (pc := 18) X 1 dX3_parseWrite_18 rfl ?_
    refine gd_iconst (pc := 19) X (3) dX3_parseWrite_19 (by decide) ?_
    refine gd_iload_n (pc := 20) X 2 dX3_parseWrite_20 rfl ?_
    refine gd_iload_n (pc := 21) X 0 dX3_parseWrite_21 rfl ?_
    obtain ⟨hk7, h⟩ := h
    refine gd_callV (pc := 22) (As := [.int 3, .int a1, .int r6]) (rest := []) X (ct_X3_parseDigits l G S5 a0 3 a1 r6 _ h) mw_X3_parseDigits tw_946 ci3 rfl hk7 ⟨(Nat.le_of_ble_eq_true rfl), (Nat.le_of_ble_eq_true rfl)⟩ rfl rfl (Nat.le_of_ble_eq_true rfl) dX3_parseWrite_22 ⟨Nat.le_of_ble_eq_true rfl, Nat.le_of_ble_eq_true rfl⟩ (kR (fun r9 S8 h => ?_))
    refine gd_wide (k2 := 1) (j2 := 6) (Nat.le_of_ble_eq_true rfl) (Nat.le_of_ble_eq_true rfl) ?_
    exact (gd_ret_a (pc := 25) X hr (Or.inl ⟨_, rfl⟩) hlk (by decide) (by decide) dX3_parseWrite_25 ⟨_, rfl, h⟩)
  · have h := h.2 hc10
    refine gd_null (pc := 9) X dX3_parseWrite_9 ?_
    exact (gd_ret_a (pc := 10) X hr (Or.inl ⟨_, rfl⟩) hlk (by decide) (by decide) dX3_parseWrite_10 ⟨_, rfl, h⟩)
abbrev rm_X3_parseAdd : Room := { frames := 3, cells := 1, slots := 6, locals := 69 }
def b_X3_parseAdd_22 (post : Nat → MS → Prop) (S : MS) (l0 : Nat) (l1 : Int32) (l2 : Int32) : Prop := kT S l0 = 4 ∧ w_X3_parseDigits S l0 5 l1 l2 (fun r3 S2 => post r3 S2)
def w_X3_parseAdd (S : MS) (a0 : Nat) (a1 : Int32) (post : Nat → MS → Prop) : Prop := kT S a0 = 4 ∧ w_X3_pass S a0 45 (fun r3 S2 => ((¬ r3 = 0 → b_X3_parseAdd_22 post S2 a0 a1 r3) ∧ (r3 = 0 → kT S2 a0 = 4 ∧ w_X3_pass S2 a0 43 (fun r6 S5 => ((¬ r6 = 0 → b_X3_parseAdd_22 post S5 a0 a1 r3) ∧ (r6 = 0 → post 0 S5))))))
set_option maxHeartbeats 4000000 in
set_option maxRecDepth 100000 in
theorem ct_X3_parseAdd (l : Launch) (G : GP) (S : MS) (a0 : Nat) (a1 : Int32) (post : Nat → MS → Prop) (h : w_X3_parseAdd S a0 a1 post) : MetM l yX3_parseAdd cX3_parseAdd 3 (some (.object "OptimisticStore$Operation")) rm_X3_parseAdd [rf a0, .int a1] G S (pR_ post) := by
  refine met_of (by decide) (cat1_r (cat1_i cat1_n)) (Nat.le_of_ble_eq_true rfl) ?_
  intro p e s m args below meth c X hr hlk hin
  revert h
  have g22 : ∀ (S : MS) (l0 : Nat) (l1 : Int32) (l2 : Int32), b_X3_parseAdd_22 post S l0 l1 l2 → Gd p l e rm_X3_parseAdd s m args below meth c 3 G (MQ below (QcM G (pR_ post)) args s rm_X3_parseAdd.cells rm_X3_parseAdd.slots (Ab G)) 0 0 S 22 [(0, rf l0), (1, .int l1), (2, .int l2)] [] := by
    intro S l0 l1 l2 h
    refine gd_aload_n (pc := 22) X 0 dX3_parseAdd_22 rfl ?_
    refine gd_iconst (pc := 23) X (5) dX3_parseAdd_23 (by decide) ?_
    refine gd_iload_n (pc := 24) X 1 dX3_parseAdd_24 rfl ?_
    refine gd_iload_n (pc := 25) X 2 dX3_parseAdd_25 rfl ?_
    obtain ⟨hk1, h⟩ := h
    refine gd_callV (pc := 26) (As := [.int 5, .int l1, .int l2]) (rest := []) X (ct_X3_parseDigits l G S l0 5 l1 l2 _ h) mw_X3_parseDigits tw_946 ci3 rfl hk1 ⟨(Nat.le_of_ble_eq_true rfl), (Nat.le_of_ble_eq_true rfl)⟩ rfl rfl (Nat.le_of_ble_eq_true rfl) dX3_parseAdd_26 ⟨Nat.le_of_ble_eq_true rfl, Nat.le_of_ble_eq_true rfl⟩ (kR (fun r3 S2 h => ?_))
    refine gd_wide (k2 := 1) (j2 := 6) (Nat.le_of_ble_eq_true rfl) (Nat.le_of_ble_eq_true rfl) ?_
    exact (gd_ret_a (pc := 29) X hr (Or.inl ⟨_, rfl⟩) hlk (by decide) (by decide) dX3_parseAdd_29 ⟨_, rfl, h⟩)
  intro h
  refine gd_aload_n (pc := 0) X 0 dX3_parseAdd_0 rfl ?_
  refine gd_bipush (pc := 1) X (45) dX3_parseAdd_1 (by decide) ?_
  obtain ⟨hk1, h⟩ := h
  refine gd_callV (pc := 3) (As := [.int 45]) (rest := []) X (ct_X3_pass l G S a0 45 _ h) mw_X3_pass tw_942 ci3 rfl hk1 ⟨(Nat.le_of_ble_eq_true rfl), (Nat.le_of_ble_eq_true rfl)⟩ rfl rfl (Nat.le_of_ble_eq_true rfl) dX3_parseAdd_3 ⟨Nat.le_of_ble_eq_true rfl, Nat.le_of_ble_eq_true rfl⟩ (kI (fun r3 S2 h => ?_))
  refine gd_wide (k2 := 0) (j2 := 0) (Nat.le_of_ble_eq_true rfl) (Nat.le_of_ble_eq_true rfl) ?_
  refine gd_istore_n (pc := 6) X dX3_parseAdd_6 (by decide) (E2 := [(2, .int r3), (0, rf a0), (1, .int a1)]) rfl ?_
  refine gd_iload_n (pc := 7) X 0 dX3_parseAdd_7 rfl ?_
  refine gd_if_ne (pc := 8) X 22 dX3_parseAdd_8 (by decide) (fun hc8 => ?_) (fun hc8 => ?_)
  · have h := h.1 hc8
    refine gd_sub [1, 2, 0] rfl ?_
    exact g22 _ _ _ _ h
  · have h := h.2 hc8
    refine gd_aload_n (pc := 11) X 1 dX3_parseAdd_11 rfl ?_
    refine gd_bipush (pc := 12) X (43) dX3_parseAdd_12 (by decide) ?_
    obtain ⟨hk4, h⟩ := h
    refine gd_callV (pc := 14) (As := [.int 43]) (rest := []) X (ct_X3_pass l G S2 a0 43 _ h) mw_X3_pass tw_942 ci3 rfl hk4 ⟨(Nat.le_of_ble_eq_true rfl), (Nat.le_of_ble_eq_true rfl)⟩ rfl rfl (Nat.le_of_ble_eq_true rfl) dX3_parseAdd_14 ⟨Nat.le_of_ble_eq_true rfl, Nat.le_of_ble_eq_true rfl⟩ (kI (fun r6 S5 h => ?_))
    refine gd_wide (k2 := 0) (j2 := 0) (Nat.le_of_ble_eq_true rfl) (Nat.le_of_ble_eq_true rfl) ?_
    refine gd_if_ne (pc := 17) X 22 dX3_parseAdd_17 (by decide) (fun hc7 => ?_) (fun hc7 => ?_)
    · have h := h.1 hc7
      refine gd_sub [1, 2, 0] rfl ?_
      exact g22 _ _ _ _ h
    · have h := h.2 hc7
      refine gd_null (pc := 20) X dX3_parseAdd_20 ?_
      exact (gd_ret_a (pc := 21) X hr (Or.inl ⟨_, rfl⟩) hlk (by decide) (by decide) dX3_parseAdd_21 ⟨_, rfl, h⟩)
abbrev rm_X3_parseSum : Room := { frames := 2, cells := 1, slots := 6, locals := 44 }
def b_X3_parseSum_38 (post : Nat → MS → Prop) (S : MS) (l0 : Nat) (l1 : Int32) (l2 : Int32) (s0 : Nat) : Prop := post s0 S
def w_X3_parseSum (S : MS) (a0 : Nat) (a1 : Int32) (post : Nat → MS → Prop) : Prop := kT S a0 = 4 ∧ w_X3_pass S a0 45 (fun r3 S2 => ((¬ r3 = 0 → kT S2 a0 = 4 ∧ w_X3_parseKey S2 a0 (fun r6 S5 => ((¬ r6 = ((-1)) → ∀ q7 : Nat, kT S5 q7 = 0 → ¬ q7 = 0 → ∀ S8 : MS, S8 = nw S5 q7 3 0 → w_X2_init S8 q7 2 a1 r6 ((-999)) (fun S10 => b_X3_parseSum_38 post S10 a0 a1 r6 q7)) ∧ (r6 = ((-1)) → b_X3_parseSum_38 post S5 a0 a1 r6 0)))) ∧ (r3 = 0 → post 0 S2)))
set_option maxHeartbeats 4000000 in
set_option maxRecDepth 100000 in
theorem ct_X3_parseSum (l : Launch) (G : GP) (S : MS) (a0 : Nat) (a1 : Int32) (post : Nat → MS → Prop) (h : w_X3_parseSum S a0 a1 post) : MetM l yX3_parseSum cX3_parseSum 3 (some (.object "OptimisticStore$Operation")) rm_X3_parseSum [rf a0, .int a1] G S (pR_ post) := by
  refine met_of (by decide) (cat1_r (cat1_i cat1_n)) (Nat.le_of_ble_eq_true rfl) ?_
  intro p e s m args below meth c X hr hlk hin
  revert h
  have g38 : ∀ (S : MS) (l0 : Nat) (l1 : Int32) (l2 : Int32) (s0 : Nat), b_X3_parseSum_38 post S l0 l1 l2 s0 → Gd p l e rm_X3_parseSum s m args below meth c 3 G (MQ below (QcM G (pR_ post)) args s rm_X3_parseSum.cells rm_X3_parseSum.slots (Ab G)) 1 6 S 38 [(0, rf l0), (1, .int l1), (2, .int l2)] [rf s0] := by
    intro S l0 l1 l2 s0 h
    exact (gd_ret_a (pc := 38) X hr (Or.inl ⟨_, rfl⟩) hlk (by decide) (by decide) dX3_parseSum_38 ⟨_, rfl, h⟩)
  intro h
  refine gd_aload_n (pc := 0) X 0 dX3_parseSum_0 rfl ?_
  refine gd_bipush (pc := 1) X (45) dX3_parseSum_1 (by decide) ?_
  obtain ⟨hk1, h⟩ := h
  refine gd_callV (pc := 3) (As := [.int 45]) (rest := []) X (ct_X3_pass l G S a0 45 _ h) mw_X3_pass tw_942 ci3 rfl hk1 ⟨(Nat.le_of_ble_eq_true rfl), (Nat.le_of_ble_eq_true rfl)⟩ rfl rfl (Nat.le_of_ble_eq_true rfl) dX3_parseSum_3 ⟨Nat.le_of_ble_eq_true rfl, Nat.le_of_ble_eq_true rfl⟩ (kI (fun r3 S2 h => ?_))
  refine gd_wide (k2 := 0) (j2 := 0) (Nat.le_of_ble_eq_true rfl) (Nat.le_of_ble_eq_true rfl) ?_
  refine gd_if_ne (pc := 6) X 11 dX3_parseSum_6 (by decide) (fun hc13 => ?_) (fun hc13 => ?_)
  · have h := h.1 hc13
    refine gd_aload_n (pc := 11) X 0 dX3_parseSum_11 rfl ?_
    obtain ⟨hk4, h⟩ := h
    refine gd_callV (pc := 12) (As := []) (rest := []) X (ct_X3_parseKey l G S2 a0 _ h) mw_X3_parseKey tw_931 ci3 rfl hk4 ⟨(Nat.le_of_ble_eq_true rfl), (Nat.le_of_ble_eq_true rfl)⟩ rfl rfl (Nat.le_of_ble_eq_true rfl) dX3_parseSum_12 ⟨Nat.le_of_ble_eq_true rfl, Nat.le_of_ble_eq_true rfl⟩ (kI (fun r6 S5 h => ?_))
    refine gd_wide (k2 := 0) (j2 := 0) (Nat.le_of_ble_eq_true rfl) (Nat.le_of_ble_eq_true rfl) ?_
    refine gd_istore_n (pc := 15) X dX3_parseSum_15 (by decide) (E2 := [(2, .int r6), (0, rf a0), (1, .int a1)]) rfl ?_
    refine gd_iload_n (pc := 16) X 0 dX3_parseSum_16 rfl ?_
    refine gd_iconst (pc := 17) X (-1) dX3_parseSum_17 (by decide) ?_
    refine gd_icmp_ne (pc := 18) X 25 dX3_parseSum_18 (by decide) (fun hc12 => ?_) (fun hc12 => ?_)
    · have h := h.1 hc12
      refine gd_new (pc := 25) X ci2 tw_63 tw_176 tw_15 (by decide +kernel) dX3_parseSum_25 ⟨Nat.le_of_ble_eq_true rfl, Nat.le_of_ble_eq_true rfl⟩ (fun q7 hzq7 hnq7 => ?_)
      have h := h q7 hzq7 hnq7
      refine gd_wide (k2 := 1) (j2 := 6) (Nat.le_of_ble_eq_true rfl) (Nat.le_of_ble_eq_true rfl) ?_
      refine gd_topS (fun S8 hS8 => ?_)
      have h := h S8 hS8
      have hk9 : kT S8 q7 = 3 := by rw [hS8]; exact kT_nw _ _ _ _
      refine gd_dupR (pc := 28) X dX3_parseSum_28 ?_
      refine gd_iconst (pc := 29) X (2) dX3_parseSum_29 (by decide) ?_
      refine gd_iload_n (pc := 30) X 2 dX3_parseSum_30 rfl ?_
      refine gd_iload_n (pc := 31) X 0 dX3_parseSum_31 rfl ?_
      refine gd_sipush (pc := 32) X (-999) dX3_parseSum_32 (by decide) ?_
      refine gd_callI (pc := 35) (As := [.int 2, .int a1, .int r6, .int ((-999))]) (rest := [rf q7]) X (ct_X2_init l G S8 q7 2 a1 r6 ((-999)) _ h) mw_X2_init tw_950 (by rw [hk9]; decide) ⟨(Nat.le_of_ble_eq_true rfl), (Nat.le_of_ble_eq_true rfl)⟩ rfl rfl (Nat.le_of_ble_eq_true rfl) dX3_parseSum_35 ⟨Nat.le_of_ble_eq_true rfl, Nat.le_of_ble_eq_true rfl⟩ (kV (fun S10 h => ?_))
      refine gd_wide (k2 := 1) (j2 := 6) (Nat.le_of_ble_eq_true rfl) (Nat.le_of_ble_eq_true rfl) ?_
      refine gd_sub [1, 2, 0] rfl ?_
      exact g38 _ _ _ _ _ h
    · have h := h.2 hc12
      refine gd_null (pc := 21) X dX3_parseSum_21 ?_
      refine gd_goto (pc := 22) X 38 dX3_parseSum_22 (by decide) ?_
      refine gd_wide (k2 := 1) (j2 := 6) (Nat.le_of_ble_eq_true rfl) (Nat.le_of_ble_eq_true rfl) ?_
      refine gd_sub [1, 2, 0] rfl ?_
      exact g38 _ _ _ _ _ h
  · have h := h.2 hc13
    refine gd_null (pc := 9) X dX3_parseSum_9 ?_
    exact (gd_ret_a (pc := 10) X hr (Or.inl ⟨_, rfl⟩) hlk (by decide) (by decide) dX3_parseSum_10 ⟨_, rfl, h⟩)
abbrev rm_X3_parseStep : Room := { frames := 4, cells := 1, slots := 6, locals := 91 }
def b_X3_parseStep_86 (post : Nat → MS → Prop) (S : MS) (l0 : Nat) (l1 : Int32) (l2 : Int32) : Prop := ∀ q1 : Nat, kT S q1 = 0 → ¬ q1 = 0 → ∀ S2 : MS, S2 = nw S q1 3 0 → w_X2_init S2 q1 l1 l2 l2 0 (fun S4 => post q1 S4)
def w_X3_parseStep (S : MS) (a0 : Nat) (post : Nat → MS → Prop) : Prop := kT S a0 = 4 ∧ w_X3_current S a0 (fun r3 S2 => w_X3_kindOf S2 r3 (fun r5 S4 => ((¬ r5 = ((-1)) → kT S4 a0 = 4 ∧ ∀ S7 : MS, S7 = pI S4 a0 2 ((sI S4 a0 2) + 1) → w_X3_parseKey S7 a0 (fun r10 S9 => ((¬ r10 = ((-1)) → ((r5.toInt = 2 → kT S9 a0 = 4 ∧ w_X3_parseSum S9 a0 r10 (fun r13 S12 => post r13 S12)) ∧ (r5.toInt = 3 → kT S9 a0 = 4 ∧ w_X3_parseWrite S9 a0 r10 (fun r16 S15 => post r16 S15)) ∧ (r5.toInt = 4 → b_X3_parseStep_86 post S9 a0 r5 r10) ∧ (r5.toInt = 5 → kT S9 a0 = 4 ∧ w_X3_parseAdd S9 a0 r10 (fun r19 S18 => post r19 S18)) ∧ (r5.toInt < 2 ∨ 5 < r5.toInt → b_X3_parseStep_86 post S9 a0 r5 r10))) ∧ (r10 = ((-1)) → post 0 S9)))) ∧ (r5 = ((-1)) → post 0 S4))))
set_option maxHeartbeats 4000000 in
set_option maxRecDepth 100000 in
theorem ct_X3_parseStep (l : Launch) (G : GP) (S : MS) (a0 : Nat) (post : Nat → MS → Prop) (h : w_X3_parseStep S a0 post) : MetM l yX3_parseStep cX3_parseStep 3 (some (.object "OptimisticStore$Operation")) rm_X3_parseStep [rf a0] G S (pR_ post) := by
  refine met_of (by decide) (cat1_r cat1_n) (Nat.le_of_ble_eq_true rfl) ?_
  intro p e s m args below meth c X hr hlk hin
  revert h
  have g86 : ∀ (S : MS) (l0 : Nat) (l1 : Int32) (l2 : Int32), b_X3_parseStep_86 post S l0 l1 l2 → Gd p l e rm_X3_parseStep s m args below meth c 3 G (MQ below (QcM G (pR_ post)) args s rm_X3_parseStep.cells rm_X3_parseStep.slots (Ab G)) 0 0 S 86 [(0, rf l0), (1, .int l1), (2, .int l2)] [] := by
    intro S l0 l1 l2 h
    refine gd_new (pc := 86) X ci2 tw_63 tw_176 tw_15 (by decide +kernel) dX3_parseStep_86 ⟨Nat.le_of_ble_eq_true rfl, Nat.le_of_ble_eq_true rfl⟩ (fun q1 hzq1 hnq1 => ?_)
    have h := h q1 hzq1 hnq1
    refine gd_wide (k2 := 1) (j2 := 6) (Nat.le_of_ble_eq_true rfl) (Nat.le_of_ble_eq_true rfl) ?_
    refine gd_topS (fun S2 hS2 => ?_)
    have h := h S2 hS2
    have hk3 : kT S2 q1 = 3 := by rw [hS2]; exact kT_nw _ _ _ _
    refine gd_dupR (pc := 89) X dX3_parseStep_89 ?_
    refine gd_iload_n (pc := 90) X 1 dX3_parseStep_90 rfl ?_
    refine gd_iload_n (pc := 91) X 2 dX3_parseStep_91 rfl ?_
    refine gd_iload_n (pc := 92) X 2 dX3_parseStep_92 rfl ?_
    refine gd_iconst (pc := 93) X (0) dX3_parseStep_93 (by decide) ?_
    refine gd_callI (pc := 94) (As := [.int l1, .int l2, .int l2, .int 0]) (rest := [rf q1]) X (ct_X2_init l G S2 q1 l1 l2 l2 0 _ h) mw_X2_init tw_950 (by rw [hk3]; decide) ⟨(Nat.le_of_ble_eq_true rfl), (Nat.le_of_ble_eq_true rfl)⟩ rfl rfl (Nat.le_of_ble_eq_true rfl) dX3_parseStep_94 ⟨Nat.le_of_ble_eq_true rfl, Nat.le_of_ble_eq_true rfl⟩ (kV (fun S4 h => ?_))
    refine gd_wide (k2 := 1) (j2 := 6) (Nat.le_of_ble_eq_true rfl) (Nat.le_of_ble_eq_true rfl) ?_
    exact (gd_ret_a (pc := 97) X hr (Or.inl ⟨_, rfl⟩) hlk (by decide) (by decide) dX3_parseStep_97 ⟨_, rfl, h⟩)
  intro h
  refine gd_aload_n (pc := 0) X 0 dX3_parseStep_0 rfl ?_
  obtain ⟨hk1, h⟩ := h
  refine gd_callV (pc := 1) (As := []) (rest := []) X (ct_X3_current l G S a0 _ h) mw_X3_current tw_924 ci3 rfl hk1 ⟨(Nat.le_of_ble_eq_true rfl), (Nat.le_of_ble_eq_true rfl)⟩ rfl rfl (Nat.le_of_ble_eq_true rfl) dX3_parseStep_1 ⟨Nat.le_of_ble_eq_true rfl, Nat.le_of_ble_eq_true rfl⟩ (kI (fun r3 S2 h => ?_))
  refine gd_wide (k2 := 0) (j2 := 0) (Nat.le_of_ble_eq_true rfl) (Nat.le_of_ble_eq_true rfl) ?_
  refine gd_callS (pc := 4) (As := [.int r3]) (rest := []) X (ct_X3_kindOf l G S2 r3 _ h) mw_X3_kindOf tw_928 ⟨(Nat.le_of_ble_eq_true rfl), (Nat.le_of_ble_eq_true rfl)⟩ rfl rfl (Nat.le_of_ble_eq_true rfl) dX3_parseStep_4 ⟨Nat.le_of_ble_eq_true rfl, Nat.le_of_ble_eq_true rfl⟩ (kI (fun r5 S4 h => ?_))
  refine gd_wide (k2 := 0) (j2 := 0) (Nat.le_of_ble_eq_true rfl) (Nat.le_of_ble_eq_true rfl) ?_
  refine gd_istore_n (pc := 7) X dX3_parseStep_7 (by decide) (E2 := [(1, .int r5), (0, rf a0)]) (by simp [rf_cat, lv1, int_cat] <;> decide) ?_
  refine gd_iload_n (pc := 8) X 0 dX3_parseStep_8 rfl ?_
  refine gd_iconst (pc := 9) X (-1) dX3_parseStep_9 (by decide) ?_
  refine gd_icmp_ne (pc := 10) X 15 dX3_parseStep_10 (by decide) (fun hc21 => ?_) (fun hc21 => ?_)
  · have h := h.1 hc21
    refine gd_aload_n (pc := 15) X 1 dX3_parseStep_15 rfl ?_
    refine gd_dupR (pc := 16) X dX3_parseStep_16 ?_
    obtain ⟨hk6, h⟩ := h
    refine gd_getI (pc := 17) (kf := 2) X ci3 (by decide) rfl tw_67 dX3_parseStep_17 hk6 ?_
    refine gd_iconst (pc := 20) X (1) dX3_parseStep_20 (by decide) ?_
    refine gd_iadd (pc := 21) X dX3_parseStep_21 ?_
    refine gd_putI (pc := 22) (kf := 2) X ci3 (by decide) rfl rfl tw_67 rfl rfl dX3_parseStep_22 hk6 ?_
    refine gd_topS (fun S7 hS7 => ?_)
    have h := h S7 hS7
    have hk8 : kT S7 a0 = 4 := by rw [hS7]; exact hk6
    refine gd_aload_n (pc := 25) X 1 dX3_parseStep_25 rfl ?_
    refine gd_callV (pc := 26) (As := []) (rest := []) X (ct_X3_parseKey l G S7 a0 _ h) mw_X3_parseKey tw_931 ci3 rfl hk8 ⟨(Nat.le_of_ble_eq_true rfl), (Nat.le_of_ble_eq_true rfl)⟩ rfl rfl (Nat.le_of_ble_eq_true rfl) dX3_parseStep_26 ⟨Nat.le_of_ble_eq_true rfl, Nat.le_of_ble_eq_true rfl⟩ (kI (fun r10 S9 h => ?_))
    refine gd_wide (k2 := 0) (j2 := 0) (Nat.le_of_ble_eq_true rfl) (Nat.le_of_ble_eq_true rfl) ?_
    refine gd_istore_n (pc := 29) X dX3_parseStep_29 (by decide) (E2 := [(2, .int r10), (1, .int r5), (0, rf a0)]) rfl ?_
    refine gd_iload_n (pc := 30) X 0 dX3_parseStep_30 rfl ?_
    refine gd_iconst (pc := 31) X (-1) dX3_parseStep_31 (by decide) ?_
    refine gd_icmp_ne (pc := 32) X 37 dX3_parseStep_32 (by decide) (fun hc20 => ?_) (fun hc20 => ?_)
    · have h := h.1 hc20
      refine gd_iload_n (pc := 37) X 1 dX3_parseStep_37 rfl ?_
      by_cases hout : r5.toInt < 2 ∨ 5 < r5.toInt
      · have h := h.2.2.2.2 hout
        refine gd_tableOut (pc := 38) X 86 dX3_parseStep_38 hout (by decide) ?_
        refine gd_sub [2, 1, 0] rfl ?_
        exact g86 _ _ _ _ h
      · rcases (show r5.toInt = 2 ∨ r5.toInt = 3 ∨ r5.toInt = 4 ∨ r5.toInt = 5 by omega) with hx | hx | hx | hx
        · have h := h.1 hx
          refine gd_tableIn (pc := 38) X 80 dX3_parseStep_38 (by omega) (by omega) (by rw [hx]; rfl) (by decide) ?_
          refine gd_aload_n (pc := 80) X 2 dX3_parseStep_80 rfl ?_
          refine gd_iload_n (pc := 81) X 0 dX3_parseStep_81 rfl ?_
          obtain ⟨hk11, h⟩ := h
          refine gd_callV (pc := 82) (As := [.int r10]) (rest := []) X (ct_X3_parseSum l G S9 a0 r10 _ h) mw_X3_parseSum tw_955 ci3 rfl hk11 ⟨(Nat.le_of_ble_eq_true rfl), (Nat.le_of_ble_eq_true rfl)⟩ rfl rfl (Nat.le_of_ble_eq_true rfl) dX3_parseStep_82 ⟨Nat.le_of_ble_eq_true rfl, Nat.le_of_ble_eq_true rfl⟩ (kR (fun r13 S12 h => ?_))
          refine gd_wide (k2 := 1) (j2 := 6) (Nat.le_of_ble_eq_true rfl) (Nat.le_of_ble_eq_true rfl) ?_
          exact (gd_ret_a (pc := 85) X hr (Or.inl ⟨_, rfl⟩) hlk (by decide) (by decide) dX3_parseStep_85 ⟨_, rfl, h⟩)
        · have h := h.2.1 hx
          refine gd_tableIn (pc := 38) X 68 dX3_parseStep_38 (by omega) (by omega) (by rw [hx]; rfl) (by decide) ?_
          refine gd_aload_n (pc := 68) X 2 dX3_parseStep_68 rfl ?_
          refine gd_iload_n (pc := 69) X 0 dX3_parseStep_69 rfl ?_
          obtain ⟨hk14, h⟩ := h
          refine gd_callV (pc := 70) (As := [.int r10]) (rest := []) X (ct_X3_parseWrite l G S9 a0 r10 _ h) mw_X3_parseWrite tw_938 ci3 rfl hk14 ⟨(Nat.le_of_ble_eq_true rfl), (Nat.le_of_ble_eq_true rfl)⟩ rfl rfl (Nat.le_of_ble_eq_true rfl) dX3_parseStep_70 ⟨Nat.le_of_ble_eq_true rfl, Nat.le_of_ble_eq_true rfl⟩ (kR (fun r16 S15 h => ?_))
          refine gd_wide (k2 := 1) (j2 := 6) (Nat.le_of_ble_eq_true rfl) (Nat.le_of_ble_eq_true rfl) ?_
          exact (gd_ret_a (pc := 73) X hr (Or.inl ⟨_, rfl⟩) hlk (by decide) (by decide) dX3_parseStep_73 ⟨_, rfl, h⟩)
        · have h := h.2.2.1 hx
          refine gd_tableIn (pc := 38) X 86 dX3_parseStep_38 (by omega) (by omega) (by rw [hx]; rfl) (by decide) ?_
          refine gd_sub [2, 1, 0] rfl ?_
          exact g86 _ _ _ _ h
        · have h := h.2.2.2.1 hx
          refine gd_tableIn (pc := 38) X 74 dX3_parseStep_38 (by omega) (by omega) (by rw [hx]; rfl) (by decide) ?_
          refine gd_aload_n (pc := 74) X 2 dX3_parseStep_74 rfl ?_
          refine gd_iload_n (pc := 75) X 0 dX3_parseStep_75 rfl ?_
          obtain ⟨hk17, h⟩ := h
          refine gd_callV (pc := 76) (As := [.int r10]) (rest := []) X (ct_X3_parseAdd l G S9 a0 r10 _ h) mw_X3_parseAdd tw_951 ci3 rfl hk17 ⟨(Nat.le_of_ble_eq_true rfl), (Nat.le_of_ble_eq_true rfl)⟩ rfl rfl (Nat.le_of_ble_eq_true rfl) dX3_parseStep_76 ⟨Nat.le_of_ble_eq_true rfl, Nat.le_of_ble_eq_true rfl⟩ (kR (fun r19 S18 h => ?_))
          refine gd_wide (k2 := 1) (j2 := 6) (Nat.le_of_ble_eq_true rfl) (Nat.le_of_ble_eq_true rfl) ?_
          exact (gd_ret_a (pc := 79) X hr (Or.inl ⟨_, rfl⟩) hlk (by decide) (by decide) dX3_parseStep_79 ⟨_, rfl, h⟩)
    · have h := h.2 hc20
      refine gd_null (pc := 35) X dX3_parseStep_35 ?_
      exact (gd_ret_a (pc := 36) X hr (Or.inl ⟨_, rfl⟩) hlk (by decide) (by decide) dX3_parseStep_36 ⟨_, rfl, h⟩)
  · have h := h.2 hc21
    refine gd_null (pc := 13) X dX3_parseStep_13 ?_
    exact (gd_ret_a (pc := 14) X hr (Or.inl ⟨_, rfl⟩) hlk (by decide) (by decide) dX3_parseStep_14 ⟨_, rfl, h⟩)
abbrev rm_X3_parseSteps : Room := { frames := 5, cells := 32, slots := 192, locals := 113 }
def b_X3_parseSteps_2 (post : Int32 → MS → Prop) : Nat → MS → Nat → Int32 → Prop
  | 0 => fun _ _ _ => False
  | f + 1 => fun S l0 l1 => ((30 ≤ l1 → post 0 S) ∧ (¬ 30 ≤ l1 → kT S l0 = 4 ∧ w_X3_parseStep S l0 (fun r3 S2 => ((¬ r3 = 0 → kT S2 l0 = 4 ∧ kT S2 (sR S2 l0 1) = 12 ∧ kT S2 r3 = 3 ∧ vp_in l1 (kL S2 (sR S2 l0 1)) ∧ ∀ S8 : MS, S8 = pR S2 (sR S2 l0 1) (ix l1) r3 → ∀ S12 : MS, S12 = pI S8 l0 4 (l1 + 1) → ((¬ (sI S12 l0 2) = (sI S12 l0 3) → w_X3_pass S12 l0 59 (fun r17 S16 => ((¬ r17 = 0 → ∀ v18 : Int32, v18 = l1 + 1 → b_X3_parseSteps_2 post f S16 l0 v18) ∧ (r17 = 0 → post 0 S16)))) ∧ ((sI S12 l0 2) = (sI S12 l0 3) → post 1 S12))) ∧ (r3 = 0 → post 0 S2)))))
def w_X3_parseSteps (S : MS) (a0 : Nat) (post : Int32 → MS → Prop) : Prop := ∃ f2, f2 ≤ 31 ∧ b_X3_parseSteps_2 post f2 S a0 0
set_option maxHeartbeats 4000000 in
set_option maxRecDepth 100000 in
theorem ct_X3_parseSteps (l : Launch) (G : GP) (S : MS) (a0 : Nat) (post : Int32 → MS → Prop) (h : w_X3_parseSteps S a0 post) : MetM l yX3_parseSteps cX3_parseSteps 3 (some .boolean) rm_X3_parseSteps [rf a0] G S (pI_ post) := by
  refine met_of (by decide) (cat1_r cat1_n) (Nat.le_of_ble_eq_true rfl) ?_
  intro p e s m args below meth c X hr hlk hin
  revert h
  have g2 : ∀ (f : Nat) (_ : f ≤ 31) (S : MS) (l0 : Nat) (l1 : Int32), b_X3_parseSteps_2 post f S l0 l1 → Gd p l e rm_X3_parseSteps s m args below meth c 3 G (MQ below (QcM G (pI_ post)) args s rm_X3_parseSteps.cells rm_X3_parseSteps.slots (Ab G)) (0 + (31 - f) * 1) (0 + (31 - f) * 6) S 2 [(0, rf l0), (1, .int l1)] [] := by
    intro f
    induction f with
    | zero => intro _ S l0 l1 h; exact h.elim
    | succ f ih =>
      intro hf S l0 l1 h
      refine gd_iload_n (pc := 2) X 1 dX3_parseSteps_2 rfl ?_
      refine gd_bipush (pc := 3) X (30) dX3_parseSteps_3 (by decide) ?_
      refine gd_icmp_ge (pc := 5) X 63 dX3_parseSteps_5 (by decide) (fun hc22 => ?_) (fun hc22 => ?_)
      · have h := h.1 hc22
        refine gd_iconst (pc := 63) X (0) dX3_parseSteps_63 (by decide) ?_
        exact (gd_ret_i (pc := 64) X hr hlk rfl (by (try simp only [rm_X3_parseSteps, rm_X3_pass]); omega) (by (try simp only [rm_X3_parseSteps, rm_X3_pass]); omega) dX3_parseSteps_64 ⟨_, rfl, h⟩)
      · have h := h.2 hc22
        refine gd_aload_n (pc := 8) X 0 dX3_parseSteps_8 rfl ?_
        obtain ⟨hk1, h⟩ := h
        refine gd_callV (pc := 9) (As := []) (rest := []) X (ct_X3_parseStep l G S l0 _ h) mw_X3_parseStep tw_920 ci3 rfl hk1 ⟨(by (try simp only [rm_X3_parseSteps, rm_X3_parseStep]); omega), (by (try simp only [rm_X3_parseSteps, rm_X3_parseStep]); omega)⟩ rfl rfl (Nat.le_of_ble_eq_true rfl) dX3_parseSteps_9 ⟨(by (try simp only [rm_X3_parseSteps, rm_X3_parseStep]); omega), (by (try simp only [rm_X3_parseSteps, rm_X3_parseStep]); omega)⟩ (kR (fun r3 S2 h => ?_))
        refine gd_astore_n (pc := 12) X dX3_parseSteps_12 (by decide) (E2 := [(2, rf r3), (0, rf l0), (1, .int l1)]) rfl ?_
        refine gd_aload_n (pc := 13) X 0 dX3_parseSteps_13 rfl ?_
        refine gd_ifnonnull (pc := 14) X 19 dX3_parseSteps_14 (by decide) (fun hc21 => ?_) (fun hc21 => ?_)
        · have h := h.1 hc21
          refine gd_aload_n (pc := 19) X 1 dX3_parseSteps_19 rfl ?_
          obtain ⟨hk4, h⟩ := h
          refine gd_getR (pc := 20) (kf := 1) X ci3 (by decide) rfl tw_66 dX3_parseSteps_20 hk4 ?_
          refine gd_iload_n (pc := 23) X 2 dX3_parseSteps_23 rfl ?_
          refine gd_aload_n (pc := 24) X 0 dX3_parseSteps_24 rfl ?_
          obtain ⟨hk5, h⟩ := h
          obtain ⟨hk6, h⟩ := h
          obtain ⟨hi7, h⟩ := h
          refine gd_aast (pc := 25) (t := 4) X ci2 rfl (by decide) (by decide) dX3_parseSteps_25 hk5 hk6 hi7 ?_
          refine gd_topS (fun S8 hS8 => ?_)
          have h := h S8 hS8
          have hk9 : kT S8 l0 = 4 := by rw [hS8]; exact hk4
          have hk10 : kT S8 (sR S2 l0 1) = 12 := by rw [hS8]; exact hk5
          have hk11 : kT S8 r3 = 3 := by rw [hS8]; exact hk6
          refine gd_aload_n (pc := 26) X 1 dX3_parseSteps_26 rfl ?_
          refine gd_iload_n (pc := 27) X 2 dX3_parseSteps_27 rfl ?_
          refine gd_iconst (pc := 28) X (1) dX3_parseSteps_28 (by decide) ?_
          refine gd_iadd (pc := 29) X dX3_parseSteps_29 ?_
          refine gd_putI (pc := 30) (kf := 4) X ci3 (by decide) rfl rfl tw_70 rfl rfl dX3_parseSteps_30 hk9 ?_
          refine gd_topS (fun S12 hS12 => ?_)
          have h := h S12 hS12
          have hk13 : kT S12 l0 = 4 := by rw [hS12]; exact hk9
          have hk14 : kT S12 (sR S2 l0 1) = 12 := by rw [hS12]; exact hk10
          have hk15 : kT S12 r3 = 3 := by rw [hS12]; exact hk11
          refine gd_aload_n (pc := 33) X 1 dX3_parseSteps_33 rfl ?_
          refine gd_getI (pc := 34) (kf := 2) X ci3 (by decide) rfl tw_67 dX3_parseSteps_34 hk13 ?_
          refine gd_aload_n (pc := 37) X 1 dX3_parseSteps_37 rfl ?_
          refine gd_getI (pc := 38) (kf := 3) X ci3 (by decide) rfl tw_68 dX3_parseSteps_38 hk13 ?_
          refine gd_icmp_ne (pc := 41) X 46 dX3_parseSteps_41 (by decide) (fun hc20 => ?_) (fun hc20 => ?_)
          · have h := h.1 hc20
            refine gd_aload_n (pc := 46) X 1 dX3_parseSteps_46 rfl ?_
            refine gd_bipush (pc := 47) X (59) dX3_parseSteps_47 (by decide) ?_
            refine gd_callV (pc := 49) (As := [.int 59]) (rest := []) X (ct_X3_pass l G S12 l0 59 _ h) mw_X3_pass tw_942 ci3 rfl hk13 ⟨(by (try simp only [rm_X3_parseSteps, rm_X3_pass]); omega), (by (try simp only [rm_X3_parseSteps, rm_X3_pass]); omega)⟩ rfl rfl (Nat.le_of_ble_eq_true rfl) dX3_parseSteps_49 ⟨(by (try simp only [rm_X3_parseSteps, rm_X3_pass]); omega), (by (try simp only [rm_X3_parseSteps, rm_X3_pass]); omega)⟩ (kI (fun r17 S16 h => ?_))
            refine gd_if_ne (pc := 52) X 57 dX3_parseSteps_52 (by decide) (fun hc19 => ?_) (fun hc19 => ?_)
            · have h := h.1 hc19
              obtain ⟨v18, hv18⟩ : ∃ z : Int32, z = l1 + 1 := ⟨_, rfl⟩
              have h := h v18 hv18
              refine gd_iinc (pc := 57) (v := v18) X 2 dX3_parseSteps_57 rfl (by rw [hv18]; rfl) (by decide) (E2 := [(1, .int v18), (2, rf r3), (0, rf l0)]) (by simp [rf_cat, lv1, int_cat] <;> decide) ?_
              refine gd_goto (pc := 60) X 2 dX3_parseSteps_60 (by decide) ?_
              refine gd_wide (k2 := 0 + (31 - f) * 1) (j2 := 0 + (31 - f) * 6) (by (try simp only [rm_X3_parseSteps, rm_X3_pass]); omega) (by (try simp only [rm_X3_parseSteps, rm_X3_pass]); omega) ?_
              refine gd_sub [2, 0] rfl ?_
              exact ih (by omega) _ _ _ h
            · have h := h.2 hc19
              refine gd_iconst (pc := 55) X (0) dX3_parseSteps_55 (by decide) ?_
              exact (gd_ret_i (pc := 56) X hr hlk rfl (by (try simp only [rm_X3_parseSteps, rm_X3_pass]); omega) (by (try simp only [rm_X3_parseSteps, rm_X3_pass]); omega) dX3_parseSteps_56 ⟨_, rfl, h⟩)
          · have h := h.2 hc20
            refine gd_iconst (pc := 44) X (1) dX3_parseSteps_44 (by decide) ?_
            exact (gd_ret_i (pc := 45) X hr hlk rfl (by (try simp only [rm_X3_parseSteps, rm_X3_pass]); omega) (by (try simp only [rm_X3_parseSteps, rm_X3_pass]); omega) dX3_parseSteps_45 ⟨_, rfl, h⟩)
        · have h := h.2 hc21
          refine gd_iconst (pc := 17) X (0) dX3_parseSteps_17 (by decide) ?_
          exact (gd_ret_i (pc := 18) X hr hlk rfl (by (try simp only [rm_X3_parseSteps, rm_X3_pass]); omega) (by (try simp only [rm_X3_parseSteps, rm_X3_pass]); omega) dX3_parseSteps_18 ⟨_, rfl, h⟩)
  intro h
  refine gd_iconst (pc := 0) X (0) dX3_parseSteps_0 (by decide) ?_
  refine gd_istore_n (pc := 1) X dX3_parseSteps_1 (by decide) (E2 := [(1, .int 0), (0, rf a0)]) (by simp [rf_cat, lv1, int_cat] <;> decide) ?_
  refine gd_sub [1, 0] rfl ?_
  obtain ⟨f2, hf, h⟩ := h
  refine gd_wide (k2 := 0 + (31 - f2) * 1) (j2 := 0 + (31 - f2) * 6) (by (try simp only [rm_X3_parseSteps, rm_X3_pass]); omega) (by (try simp only [rm_X3_parseSteps, rm_X3_pass]); omega) ?_
  exact g2 f2 hf _ _ _ h
abbrev rm_X3_parseAndEmpty : Room := { frames := 6, cells := 32, slots := 192, locals := 135 }
def b_X3_parseAndEmpty_28 (post : Int32 → MS → Prop) (S : MS) (l0 : Nat) (l1 : Int32) (s0 : Int32) (s1 : Nat) : Prop := kT S s1 = 4 ∧ ∀ S2 : MS, S2 = pI S s1 5 s0 → kT S2 l0 = 4 ∧ ∀ S5 : MS, S5 = pI S2 l0 3 0 → narrow .boolean (.int l1) = .int l1 ∧ post l1 S5
def w_X3_parseAndEmpty (S : MS) (a0 : Nat) (post : Int32 → MS → Prop) : Prop := kT S a0 = 4 ∧ ∀ S2 : MS, S2 = pI S a0 2 0 → ∀ S4 : MS, S4 = pI S2 a0 4 0 → w_X3_parseSteps S4 a0 (fun r7 S6 => ((r7 = 0 → kT S6 a0 = 4 ∧ b_X3_parseAndEmpty_28 post S6 a0 r7 (sI S6 a0 2) a0) ∧ (¬ r7 = 0 → b_X3_parseAndEmpty_28 post S6 a0 r7 ((-1)) a0)))
set_option maxHeartbeats 4000000 in
set_option maxRecDepth 100000 in
theorem ct_X3_parseAndEmpty (l : Launch) (G : GP) (S : MS) (a0 : Nat) (post : Int32 → MS → Prop) (h : w_X3_parseAndEmpty S a0 post) : MetM l yX3_parseAndEmpty cX3_parseAndEmpty 2 (some .boolean) rm_X3_parseAndEmpty [rf a0] G S (pI_ post) := by
  refine met_of (by decide) (cat1_r cat1_n) (Nat.le_of_ble_eq_true rfl) ?_
  intro p e s m args below meth c X hr hlk hin
  revert h
  have g28 : ∀ (S : MS) (l0 : Nat) (l1 : Int32) (s0 : Int32) (s1 : Nat), b_X3_parseAndEmpty_28 post S l0 l1 s0 s1 → Gd p l e rm_X3_parseAndEmpty s m args below meth c 2 G (MQ below (QcM G (pI_ post)) args s rm_X3_parseAndEmpty.cells rm_X3_parseAndEmpty.slots (Ab G)) 32 192 S 28 [(0, rf l0), (1, .int l1)] [.int s0, rf s1] := by
    intro S l0 l1 s0 s1 h
    obtain ⟨hk1, h⟩ := h
    refine gd_putI (pc := 28) (kf := 5) X ci3 (by decide) rfl rfl tw_72 rfl rfl dX3_parseAndEmpty_28 hk1 ?_
    refine gd_topS (fun S2 hS2 => ?_)
    have h := h S2 hS2
    have hk3 : kT S2 s1 = 4 := by rw [hS2]; exact hk1
    refine gd_aload_n (pc := 31) X 0 dX3_parseAndEmpty_31 rfl ?_
    refine gd_iconst (pc := 32) X (0) dX3_parseAndEmpty_32 (by decide) ?_
    obtain ⟨hk4, h⟩ := h
    refine gd_putI (pc := 33) (kf := 3) X ci3 (by decide) rfl rfl tw_68 rfl rfl dX3_parseAndEmpty_33 hk4 ?_
    refine gd_topS (fun S5 hS5 => ?_)
    have h := h S5 hS5
    have hk6 : kT S5 s1 = 4 := by rw [hS5]; exact hk3
    have hk7 : kT S5 l0 = 4 := by rw [hS5]; exact hk4
    refine gd_iload_n (pc := 36) X 1 dX3_parseAndEmpty_36 rfl ?_
    obtain ⟨hnz, h⟩ := h
    exact (gd_ret_i (pc := 37) X hr hlk hnz (by decide) (by decide) dX3_parseAndEmpty_37 ⟨_, rfl, h⟩)
  intro h
  refine gd_aload_n (pc := 0) X 0 dX3_parseAndEmpty_0 rfl ?_
  refine gd_iconst (pc := 1) X (0) dX3_parseAndEmpty_1 (by decide) ?_
  obtain ⟨hk1, h⟩ := h
  refine gd_putI (pc := 2) (kf := 2) X ci3 (by decide) rfl rfl tw_67 rfl rfl dX3_parseAndEmpty_2 hk1 ?_
  refine gd_topS (fun S2 hS2 => ?_)
  have h := h S2 hS2
  have hk3 : kT S2 a0 = 4 := by rw [hS2]; exact hk1
  refine gd_aload_n (pc := 5) X 0 dX3_parseAndEmpty_5 rfl ?_
  refine gd_iconst (pc := 6) X (0) dX3_parseAndEmpty_6 (by decide) ?_
  refine gd_putI (pc := 7) (kf := 4) X ci3 (by decide) rfl rfl tw_70 rfl rfl dX3_parseAndEmpty_7 hk3 ?_
  refine gd_topS (fun S4 hS4 => ?_)
  have h := h S4 hS4
  have hk5 : kT S4 a0 = 4 := by rw [hS4]; exact hk3
  refine gd_aload_n (pc := 10) X 0 dX3_parseAndEmpty_10 rfl ?_
  refine gd_callV (pc := 11) (As := []) (rest := []) X (ct_X3_parseSteps l G S4 a0 _ h) mw_X3_parseSteps tw_916 ci3 rfl hk5 ⟨(Nat.le_of_ble_eq_true rfl), (Nat.le_of_ble_eq_true rfl)⟩ rfl rfl (Nat.le_of_ble_eq_true rfl) dX3_parseAndEmpty_11 ⟨Nat.le_of_ble_eq_true rfl, Nat.le_of_ble_eq_true rfl⟩ (kI (fun r7 S6 h => ?_))
  refine gd_wide (k2 := 32) (j2 := 192) (Nat.le_of_ble_eq_true rfl) (Nat.le_of_ble_eq_true rfl) ?_
  refine gd_istore_n (pc := 14) X dX3_parseAndEmpty_14 (by decide) (E2 := [(1, .int r7), (0, rf a0)]) (by simp [rf_cat, lv1, int_cat] <;> decide) ?_
  refine gd_aload_n (pc := 15) X 1 dX3_parseAndEmpty_15 rfl ?_
  refine gd_iload_n (pc := 16) X 0 dX3_parseAndEmpty_16 rfl ?_
  refine gd_if_eq (pc := 17) X 24 dX3_parseAndEmpty_17 (by decide) (fun hc9 => ?_) (fun hc9 => ?_)
  · have h := h.1 hc9
    refine gd_aload_n (pc := 24) X 1 dX3_parseAndEmpty_24 rfl ?_
    obtain ⟨hk8, h⟩ := h
    refine gd_getI (pc := 25) (kf := 2) X ci3 (by decide) rfl tw_67 dX3_parseAndEmpty_25 hk8 ?_
    refine gd_sub [1, 0] rfl ?_
    exact g28 _ _ _ _ _ h
  · have h := h.2 hc9
    refine gd_iconst (pc := 20) X (-1) dX3_parseAndEmpty_20 (by decide) ?_
    refine gd_goto (pc := 21) X 28 dX3_parseAndEmpty_21 (by decide) ?_
    refine gd_sub [1, 0] rfl ?_
    exact g28 _ _ _ _ _ h
abbrev rm_X4_init : Room := { frames := 1, cells := 3, slots := 88, locals := 20 }
def w_X4_init (S : MS) (a0 : Nat) (a1 : Int32) (a2 : Int32) (post : MS → Prop) : Prop := kT S a0 = 5 ∧ ∀ S2 : MS, S2 = pI S a0 0 a1 → ∀ S4 : MS, S4 = pI S2 a0 1 a2 → ∀ q6 : Nat, kT S4 q6 = 0 → ¬ q6 = 0 → ∀ S7 : MS, S7 = nw S4 q6 12 24 → ∀ S10 : MS, S10 = pR S7 a0 2 q6 → ∀ q13 : Nat, kT S10 q13 = 0 → ¬ q13 = 0 → ∀ S14 : MS, S14 = nw S10 q13 9 32 → ∀ S18 : MS, S18 = pR S14 a0 3 q13 → ∀ q22 : Nat, kT S18 q22 = 0 → ¬ q22 = 0 → ∀ S23 : MS, S23 = nw S18 q22 9 32 → ∀ S28 : MS, S28 = pR S23 a0 4 q22 → ∀ S33 : MS, S33 = pI S28 a0 8 0 → post S33
set_option maxHeartbeats 4000000 in
set_option maxRecDepth 100000 in
theorem ct_X4_init (l : Launch) (G : GP) (S : MS) (a0 : Nat) (a1 : Int32) (a2 : Int32) (post : MS → Prop) (h : w_X4_init S a0 a1 a2 post) : MetM l yX4_init cX4_init 3 none rm_X4_init [rf a0, .int a1, .int a2] G S (pV_ post) := by
  refine met_of (by decide) (cat1_r (cat1_i (cat1_i cat1_n))) (Nat.le_of_ble_eq_true rfl) ?_
  intro p e s m args below meth c X hr hlk hin
  refine gd_aload_n (pc := 0) X 0 dX4_init_0 rfl ?_
  obtain ⟨hk1, h⟩ := h
  refine gd_objInit (pc := 1) X (by rw [hk1]; decide) tw_341 oi_1 oi_2 dX4_init_1 (Nat.le_of_ble_eq_true rfl) ⟨(Nat.le_of_ble_eq_true rfl), (Nat.le_of_ble_eq_true rfl)⟩ ?_
  refine gd_aload_n (pc := 4) X 0 dX4_init_4 rfl ?_
  refine gd_iload_n (pc := 5) X 1 dX4_init_5 rfl ?_
  refine gd_putFI (pc := 6) (kf := 0) X ci4 (by decide) rfl rfl hin rfl tw_343 rfl rfl dX4_init_6 hk1 ?_
  refine gd_topS (fun S2 hS2 => ?_)
  have h := h S2 hS2
  have hk3 : kT S2 a0 = 5 := by rw [hS2]; exact hk1
  refine gd_aload_n (pc := 9) X 0 dX4_init_9 rfl ?_
  refine gd_iload_n (pc := 10) X 2 dX4_init_10 rfl ?_
  refine gd_putFI (pc := 11) (kf := 1) X ci4 (by decide) rfl rfl hin rfl tw_345 rfl rfl dX4_init_11 hk3 ?_
  refine gd_topS (fun S4 hS4 => ?_)
  have h := h S4 hS4
  have hk5 : kT S4 a0 = 5 := by rw [hS4]; exact hk3
  refine gd_aload_n (pc := 14) X 0 dX4_init_14 rfl ?_
  refine gd_bipush (pc := 15) X (24) dX4_init_15 (by decide) ?_
  refine gd_anew (pc := 17) (t := 4) (N := 24) X tw_342 (by decide) rfl (by decide) (by decide) (by decide) (by decide) (by decide) dX4_init_17 ⟨Nat.le_of_ble_eq_true rfl, Nat.le_of_ble_eq_true rfl⟩ (fun q6 hzq6 hnq6 => ?_)
  have h := h q6 hzq6 hnq6
  refine gd_wide (k2 := 1) (j2 := 24) (Nat.le_of_ble_eq_true rfl) (Nat.le_of_ble_eq_true rfl) ?_
  refine gd_topS (fun S7 hS7 => ?_)
  have h := h S7 hS7
  have hk8 : kT S7 a0 = 5 := by rw [hS7]; exact kT_nwo hk5 hzq6 (by decide)
  have hk9 : kT S7 q6 = 12 := by rw [hS7]; exact kT_nw _ _ _ _
  refine gd_putFR (pc := 20) (kf := 2) X ci4 (by decide) rfl rfl hin rfl tw_347 (rf_nar (by decide) q6) (rf_fit (by decide) q6) dX4_init_20 hk8 ?_
  refine gd_topS (fun S10 hS10 => ?_)
  have h := h S10 hS10
  have hk11 : kT S10 a0 = 5 := by rw [hS10]; exact hk8
  have hk12 : kT S10 q6 = 12 := by rw [hS10]; exact hk9
  refine gd_aload_n (pc := 23) X 0 dX4_init_23 rfl ?_
  refine gd_bipush (pc := 24) X (32) dX4_init_24 (by decide) ?_
  refine gd_newaI (pc := 26) (N := 32) X tw_53 (by decide) (by decide) (by decide) dX4_init_26 ⟨Nat.le_of_ble_eq_true rfl, Nat.le_of_ble_eq_true rfl⟩ (fun q13 hzq13 hnq13 => ?_)
  have h := h q13 hzq13 hnq13
  refine gd_wide (k2 := 2) (j2 := 56) (Nat.le_of_ble_eq_true rfl) (Nat.le_of_ble_eq_true rfl) ?_
  refine gd_topS (fun S14 hS14 => ?_)
  have h := h S14 hS14
  have hk15 : kT S14 a0 = 5 := by rw [hS14]; exact kT_nwo hk11 hzq13 (by decide)
  have hk16 : kT S14 q6 = 12 := by rw [hS14]; exact kT_nwo hk12 hzq13 (by decide)
  have hk17 : kT S14 q13 = 9 := by rw [hS14]; exact kT_nw _ _ _ _
  refine gd_putFR (pc := 28) (kf := 3) X ci4 (by decide) rfl rfl hin rfl tw_349 (rf_nar (by decide) q13) (rf_fit (by decide) q13) dX4_init_28 hk15 ?_
  refine gd_topS (fun S18 hS18 => ?_)
  have h := h S18 hS18
  have hk19 : kT S18 a0 = 5 := by rw [hS18]; exact hk15
  have hk20 : kT S18 q6 = 12 := by rw [hS18]; exact hk16
  have hk21 : kT S18 q13 = 9 := by rw [hS18]; exact hk17
  refine gd_aload_n (pc := 31) X 0 dX4_init_31 rfl ?_
  refine gd_bipush (pc := 32) X (32) dX4_init_32 (by decide) ?_
  refine gd_newaI (pc := 34) (N := 32) X tw_53 (by decide) (by decide) (by decide) dX4_init_34 ⟨Nat.le_of_ble_eq_true rfl, Nat.le_of_ble_eq_true rfl⟩ (fun q22 hzq22 hnq22 => ?_)
  have h := h q22 hzq22 hnq22
  refine gd_wide (k2 := 3) (j2 := 88) (Nat.le_of_ble_eq_true rfl) (Nat.le_of_ble_eq_true rfl) ?_
  refine gd_topS (fun S23 hS23 => ?_)
  have h := h S23 hS23
  have hk24 : kT S23 a0 = 5 := by rw [hS23]; exact kT_nwo hk19 hzq22 (by decide)
  have hk25 : kT S23 q6 = 12 := by rw [hS23]; exact kT_nwo hk20 hzq22 (by decide)
  have hk26 : kT S23 q13 = 9 := by rw [hS23]; exact kT_nwo hk21 hzq22 (by decide)
  have hk27 : kT S23 q22 = 9 := by rw [hS23]; exact kT_nw _ _ _ _
  refine gd_putFR (pc := 36) (kf := 4) X ci4 (by decide) rfl rfl hin rfl tw_351 (rf_nar (by decide) q22) (rf_fit (by decide) q22) dX4_init_36 hk24 ?_
  refine gd_topS (fun S28 hS28 => ?_)
  have h := h S28 hS28
  have hk29 : kT S28 a0 = 5 := by rw [hS28]; exact hk24
  have hk30 : kT S28 q6 = 12 := by rw [hS28]; exact hk25
  have hk31 : kT S28 q13 = 9 := by rw [hS28]; exact hk26
  have hk32 : kT S28 q22 = 9 := by rw [hS28]; exact hk27
  refine gd_aload_n (pc := 39) X 0 dX4_init_39 rfl ?_
  refine gd_iconst (pc := 40) X (0) dX4_init_40 (by decide) ?_
  refine gd_putI (pc := 41) (kf := 8) X ci4 (by decide) rfl rfl tw_362 rfl rfl dX4_init_41 hk29 ?_
  refine gd_topS (fun S33 hS33 => ?_)
  have h := h S33 hS33
  have hk34 : kT S33 a0 = 5 := by rw [hS33]; exact hk29
  have hk35 : kT S33 q6 = 12 := by rw [hS33]; exact hk30
  have hk36 : kT S33 q13 = 9 := by rw [hS33]; exact hk31
  have hk37 : kT S33 q22 = 9 := by rw [hS33]; exact hk32
  exact (gd_ret_v (pc := 44) X hr hlk (by decide) (by decide) dX4_init_44 ⟨rfl, h⟩)
abbrev rm_X4_canOperate : Room := { frames := 0, cells := 0, slots := 0, locals := 0 }
def b_X4_canOperate_21 (post : Int32 → MS → Prop) (S : MS) (l0 : Nat) (s0 : Int32) : Prop := narrow .boolean (.int s0) = .int s0 ∧ post s0 S
def b_X4_canOperate_20 (post : Int32 → MS → Prop) (S : MS) (l0 : Nat) : Prop := b_X4_canOperate_21 post S l0 0
def w_X4_canOperate (S : MS) (a0 : Nat) (post : Int32 → MS → Prop) : Prop := kT S a0 = 5 ∧ ((¬ (sI S a0 8) = 0 → b_X4_canOperate_20 post S a0) ∧ ((sI S a0 8) = 0 → ((24 ≤ (sI S a0 5) → b_X4_canOperate_20 post S a0) ∧ (¬ 24 ≤ (sI S a0 5) → b_X4_canOperate_21 post S a0 1))))
set_option maxHeartbeats 4000000 in
set_option maxRecDepth 100000 in
theorem ct_X4_canOperate (l : Launch) (G : GP) (S : MS) (a0 : Nat) (post : Int32 → MS → Prop) (h : w_X4_canOperate S a0 post) : MetM l yX4_canOperate cX4_canOperate 1 (some .boolean) rm_X4_canOperate [rf a0] G S (pI_ post) := by
  refine met_of (by decide) (cat1_r cat1_n) (Nat.le_of_ble_eq_true rfl) ?_
  intro p e s m args below meth c X hr hlk hin
  revert h
  have g21 : ∀ (S : MS) (l0 : Nat) (s0 : Int32), b_X4_canOperate_21 post S l0 s0 → Gd p l e rm_X4_canOperate s m args below meth c 1 G (MQ below (QcM G (pI_ post)) args s rm_X4_canOperate.cells rm_X4_canOperate.slots (Ab G)) 0 0 S 21 [(0, rf l0)] [.int s0] := by
    intro S l0 s0 h
    obtain ⟨hnz, h⟩ := h
    exact (gd_ret_i (pc := 21) X hr hlk hnz (by decide) (by decide) dX4_canOperate_21 ⟨_, rfl, h⟩)
  have g20 : ∀ (S : MS) (l0 : Nat), b_X4_canOperate_20 post S l0 → Gd p l e rm_X4_canOperate s m args below meth c 1 G (MQ below (QcM G (pI_ post)) args s rm_X4_canOperate.cells rm_X4_canOperate.slots (Ab G)) 0 0 S 20 [(0, rf l0)] [] := by
    intro S l0 h
    refine gd_iconst (pc := 20) X (0) dX4_canOperate_20 (by decide) ?_
    exact g21 _ _ _ h
  intro h
  refine gd_aload_n (pc := 0) X 0 dX4_canOperate_0 rfl ?_
  obtain ⟨hk1, h⟩ := h
  refine gd_getI (pc := 1) (kf := 8) X ci4 (by decide) rfl tw_362 dX4_canOperate_1 hk1 ?_
  refine gd_if_ne (pc := 4) X 20 dX4_canOperate_4 (by decide) (fun hc3 => ?_) (fun hc3 => ?_)
  · have h := h.1 hc3
    exact g20 _ _ h
  · have h := h.2 hc3
    refine gd_aload_n (pc := 7) X 0 dX4_canOperate_7 rfl ?_
    refine gd_getI (pc := 8) (kf := 5) X ci4 (by decide) rfl tw_353 dX4_canOperate_8 hk1 ?_
    refine gd_bipush (pc := 11) X (24) dX4_canOperate_11 (by decide) ?_
    refine gd_icmp_ge (pc := 13) X 20 dX4_canOperate_13 (by decide) (fun hc2 => ?_) (fun hc2 => ?_)
    · have h := h.1 hc2
      exact g20 _ _ h
    · have h := h.2 hc2
      refine gd_iconst (pc := 16) X (1) dX4_canOperate_16 (by decide) ?_
      refine gd_goto (pc := 17) X 21 dX4_canOperate_17 (by decide) ?_
      exact g21 _ _ _ h
abbrev rm_X4_keep : Room := { frames := 1, cells := 0, slots := 0, locals := 21 }
def b_X4_keep_119 (post : MS → Prop) (S : MS) (l0 : Nat) (l1 : Nat) (l2 : Int32) (l3 : Int32) (l4 : Int32) : Prop := post S
def b_X4_keep_91 (post : MS → Prop) (S : MS) (l0 : Nat) (l1 : Nat) (l2 : Int32) (l3 : Int32) (l4 : Int32) : Prop := kT S l1 = 3 ∧ w_X2_makesWrite S l1 (fun r3 S2 => ((r3 = 0 → b_X4_keep_119 post S2 l0 l1 l2 l3 l4) ∧ (¬ r3 = 0 → kT S2 l0 = 5 ∧ ∀ S5 : MS, S5 = pI S2 l0 7 ((sI S2 l0 7) ||| (1 <<< (l4 &&& 31))) → kT S5 (sR S5 l0 4) = 9 ∧ vp_in l4 (kL S5 (sR S5 l0 4)) ∧ ∀ S9 : MS, S9 = pI S5 (sR S5 l0 4) (ix l4) l3 → b_X4_keep_119 post S9 l0 l1 l2 l3 l4)))
def b_X4_keep_39 (post : MS → Prop) (S : MS) (l0 : Nat) (l1 : Nat) (l2 : Int32) (l3 : Int32) : Prop := kT S l1 = 3 ∧ ∀ v2 : Int32, v2 = sI S l1 1 → w_X2_makesRead S l1 (fun r4 S3 => ((r4 = 0 → b_X4_keep_91 post S3 l0 l1 l2 l3 v2) ∧ (¬ r4 = 0 → kT S3 l0 = 5 ∧ w_X4_hasRecorded S3 l0 v2 (fun r7 S6 => ((¬ r7 = 0 → b_X4_keep_91 post S6 l0 l1 l2 l3 v2) ∧ (r7 = 0 → kT S6 l0 = 5 ∧ w_X4_hasWritten S6 l0 v2 (fun r10 S9 => ((¬ r10 = 0 → b_X4_keep_91 post S9 l0 l1 l2 l3 v2) ∧ (r10 = 0 → kT S9 l0 = 5 ∧ ∀ S12 : MS, S12 = pI S9 l0 6 ((sI S9 l0 6) ||| (1 <<< (v2 &&& 31))) → kT S12 (sR S12 l0 3) = 9 ∧ vp_in v2 (kL S12 (sR S12 l0 3)) ∧ ∀ S16 : MS, S16 = pI S12 (sR S12 l0 3) (ix v2) l2 → b_X4_keep_91 post S16 l0 l1 l2 l3 v2)))))))))
def w_X4_keep (S : MS) (a0 : Nat) (a1 : Nat) (a2 : Int32) (a3 : Int32) (post : MS → Prop) : Prop := kT S a1 = 3 ∧ ∀ S2 : MS, S2 = pI S a1 4 a2 → ∀ S4 : MS, S4 = pI S2 a1 5 a3 → kT S4 a0 = 5 ∧ ((24 ≤ (sI S4 a0 5) → b_X4_keep_39 post S4 a0 a1 a2 a3) ∧ (¬ 24 ≤ (sI S4 a0 5) → kT S4 (sR S4 a0 2) = 12 ∧ vp_in (sI S4 a0 5) (kL S4 (sR S4 a0 2)) ∧ ∀ S9 : MS, S9 = pR S4 (sR S4 a0 2) (ix (sI S4 a0 5)) a1 → ∀ S13 : MS, S13 = pI S9 a0 5 ((sI S9 a0 5) + 1) → b_X4_keep_39 post S13 a0 a1 a2 a3))
set_option maxHeartbeats 4000000 in
set_option maxRecDepth 100000 in
theorem ct_X4_keep (l : Launch) (G : GP) (S : MS) (a0 : Nat) (a1 : Nat) (a2 : Int32) (a3 : Int32) (post : MS → Prop) (h : w_X4_keep S a0 a1 a2 a3 post) : MetM l yX4_keep cX4_keep 5 none rm_X4_keep [rf a0, rf a1, .int a2, .int a3] G S (pV_ post) := by
  refine met_of (by decide) (cat1_r (cat1_r (cat1_i (cat1_i cat1_n)))) (Nat.le_of_ble_eq_true rfl) ?_
  intro p e s m args below meth c X hr hlk hin
  revert h
  have g119 : ∀ (S : MS) (l0 : Nat) (l1 : Nat) (l2 : Int32) (l3 : Int32) (l4 : Int32), b_X4_keep_119 post S l0 l1 l2 l3 l4 → Gd p l e rm_X4_keep s m args below meth c 5 G (MQ below (QcM G (pV_ post)) args s rm_X4_keep.cells rm_X4_keep.slots (Ab G)) 0 0 S 119 [(0, rf l0), (1, rf l1), (2, .int l2), (3, .int l3), (4, .int l4)] [] := by
    intro S l0 l1 l2 l3 l4 h
    exact (gd_ret_v (pc := 119) X hr hlk (by decide) (by decide) dX4_keep_119 ⟨rfl, h⟩)
  have g91 : ∀ (S : MS) (l0 : Nat) (l1 : Nat) (l2 : Int32) (l3 : Int32) (l4 : Int32), b_X4_keep_91 post S l0 l1 l2 l3 l4 → Gd p l e rm_X4_keep s m args below meth c 5 G (MQ below (QcM G (pV_ post)) args s rm_X4_keep.cells rm_X4_keep.slots (Ab G)) 0 0 S 91 [(0, rf l0), (1, rf l1), (2, .int l2), (3, .int l3), (4, .int l4)] [] := by
    intro S l0 l1 l2 l3 l4 h
    refine gd_aload_n (pc := 91) X 1 dX4_keep_91 rfl ?_
    obtain ⟨hk1, h⟩ := h
    refine gd_callV (pc := 92) (As := []) (rest := []) X (ct_X2_makesWrite l G S l1 _ h) mw_X2_makesWrite tw_545 ci2 rfl hk1 ⟨(Nat.le_of_ble_eq_true rfl), (Nat.le_of_ble_eq_true rfl)⟩ rfl rfl (Nat.le_of_ble_eq_true rfl) dX4_keep_92 ⟨Nat.le_of_ble_eq_true rfl, Nat.le_of_ble_eq_true rfl⟩ (kI (fun r3 S2 h => ?_))
    refine gd_wide (k2 := 0) (j2 := 0) (Nat.le_of_ble_eq_true rfl) (Nat.le_of_ble_eq_true rfl) ?_
    refine gd_if_eq (pc := 95) X 119 dX4_keep_95 (by decide) (fun hc12 => ?_) (fun hc12 => ?_)
    · have h := h.1 hc12
      exact g119 _ _ _ _ _ _ h
    · have h := h.2 hc12
      refine gd_aload_n (pc := 98) X 0 dX4_keep_98 rfl ?_
      refine gd_dupR (pc := 99) X dX4_keep_99 ?_
      obtain ⟨hk4, h⟩ := h
      refine gd_getI (pc := 100) (kf := 7) X ci4 (by decide) rfl tw_359 dX4_keep_100 hk4 ?_
      refine gd_iconst (pc := 103) X (1) dX4_keep_103 (by decide) ?_
      refine gd_iload (pc := 104) X 4 dX4_keep_104 rfl ?_
      refine gd_ishl (pc := 106) X dX4_keep_106 ?_
      refine gd_ior (pc := 107) X dX4_keep_107 ?_
      refine gd_putI (pc := 108) (kf := 7) X ci4 (by decide) rfl rfl tw_359 rfl rfl dX4_keep_108 hk4 ?_
      refine gd_topS (fun S5 hS5 => ?_)
      have h := h S5 hS5
      have hk6 : kT S5 l0 = 5 := by rw [hS5]; exact hk4
      refine gd_aload_n (pc := 111) X 0 dX4_keep_111 rfl ?_
      refine gd_getR (pc := 112) (kf := 4) X ci4 (by decide) rfl tw_351 dX4_keep_112 hk6 ?_
      refine gd_iload (pc := 115) X 4 dX4_keep_115 rfl ?_
      refine gd_iload_n (pc := 117) X 3 dX4_keep_117 rfl ?_
      obtain ⟨hk7, h⟩ := h
      obtain ⟨hi8, h⟩ := h
      refine gd_iast (pc := 118) X dX4_keep_118 hk7 hi8 ?_
      refine gd_topS (fun S9 hS9 => ?_)
      have h := h S9 hS9
      have hk10 : kT S9 l0 = 5 := by rw [hS9]; exact hk6
      have hk11 : kT S9 (sR S5 l0 4) = 9 := by rw [hS9]; exact hk7
      exact g119 _ _ _ _ _ _ h
  have g39 : ∀ (S : MS) (l0 : Nat) (l1 : Nat) (l2 : Int32) (l3 : Int32), b_X4_keep_39 post S l0 l1 l2 l3 → Gd p l e rm_X4_keep s m args below meth c 5 G (MQ below (QcM G (pV_ post)) args s rm_X4_keep.cells rm_X4_keep.slots (Ab G)) 0 0 S 39 [(0, rf l0), (1, rf l1), (2, .int l2), (3, .int l3)] [] := by
    intro S l0 l1 l2 l3 h
    refine gd_aload_n (pc := 39) X 1 dX4_keep_39 rfl ?_
    obtain ⟨hk1, h⟩ := h
    refine gd_getI (pc := 40) (kf := 1) X ci2 (by decide) rfl tw_458 dX4_keep_40 hk1 ?_
    refine gd_topI (fun v2 hv2 => ?_)
    have h := h v2 hv2
    refine gd_istore (pc := 43) X dX4_keep_43 (by decide) (E2 := [(4, .int v2), (0, rf l0), (1, rf l1), (2, .int l2), (3, .int l3)]) rfl ?_
    refine gd_aload_n (pc := 45) X 2 dX4_keep_45 rfl ?_
    refine gd_callV (pc := 46) (As := []) (rest := []) X (ct_X2_makesRead l G S l1 _ h) mw_X2_makesRead tw_537 ci2 rfl hk1 ⟨(Nat.le_of_ble_eq_true rfl), (Nat.le_of_ble_eq_true rfl)⟩ rfl rfl (Nat.le_of_ble_eq_true rfl) dX4_keep_46 ⟨Nat.le_of_ble_eq_true rfl, Nat.le_of_ble_eq_true rfl⟩ (kI (fun r4 S3 h => ?_))
    refine gd_wide (k2 := 0) (j2 := 0) (Nat.le_of_ble_eq_true rfl) (Nat.le_of_ble_eq_true rfl) ?_
    refine gd_if_eq (pc := 49) X 91 dX4_keep_49 (by decide) (fun hc21 => ?_) (fun hc21 => ?_)
    · have h := h.1 hc21
      refine gd_sub [1, 2, 3, 4, 0] rfl ?_
      exact g91 _ _ _ _ _ _ h
    · have h := h.2 hc21
      refine gd_aload_n (pc := 52) X 1 dX4_keep_52 rfl ?_
      refine gd_iload (pc := 53) X 0 dX4_keep_53 rfl ?_
      obtain ⟨hk5, h⟩ := h
      refine gd_callV (pc := 55) (As := [.int v2]) (rest := []) X (ct_X4_hasRecorded l G S3 l0 v2 _ h) mw_X4_hasRecorded tw_541 ci4 rfl hk5 ⟨(Nat.le_of_ble_eq_true rfl), (Nat.le_of_ble_eq_true rfl)⟩ rfl rfl (Nat.le_of_ble_eq_true rfl) dX4_keep_55 ⟨Nat.le_of_ble_eq_true rfl, Nat.le_of_ble_eq_true rfl⟩ (kI (fun r7 S6 h => ?_))
      refine gd_wide (k2 := 0) (j2 := 0) (Nat.le_of_ble_eq_true rfl) (Nat.le_of_ble_eq_true rfl) ?_
      refine gd_if_ne (pc := 58) X 91 dX4_keep_58 (by decide) (fun hc20 => ?_) (fun hc20 => ?_)
      · have h := h.1 hc20
        refine gd_sub [1, 2, 3, 4, 0] rfl ?_
        exact g91 _ _ _ _ _ _ h
      · have h := h.2 hc20
        refine gd_aload_n (pc := 61) X 1 dX4_keep_61 rfl ?_
        refine gd_iload (pc := 62) X 0 dX4_keep_62 rfl ?_
        obtain ⟨hk8, h⟩ := h
        refine gd_callV (pc := 64) (As := [.int v2]) (rest := []) X (ct_X4_hasWritten l G S6 l0 v2 _ h) mw_X4_hasWritten tw_507 ci4 rfl hk8 ⟨(Nat.le_of_ble_eq_true rfl), (Nat.le_of_ble_eq_true rfl)⟩ rfl rfl (Nat.le_of_ble_eq_true rfl) dX4_keep_64 ⟨Nat.le_of_ble_eq_true rfl, Nat.le_of_ble_eq_true rfl⟩ (kI (fun r10 S9 h => ?_))
        refine gd_wide (k2 := 0) (j2 := 0) (Nat.le_of_ble_eq_true rfl) (Nat.le_of_ble_eq_true rfl) ?_
        refine gd_if_ne (pc := 67) X 91 dX4_keep_67 (by decide) (fun hc19 => ?_) (fun hc19 => ?_)
        · have h := h.1 hc19
          refine gd_sub [1, 2, 3, 4, 0] rfl ?_
          exact g91 _ _ _ _ _ _ h
        · have h := h.2 hc19
          refine gd_aload_n (pc := 70) X 1 dX4_keep_70 rfl ?_
          refine gd_dupR (pc := 71) X dX4_keep_71 ?_
          obtain ⟨hk11, h⟩ := h
          refine gd_getI (pc := 72) (kf := 6) X ci4 (by decide) rfl tw_356 dX4_keep_72 hk11 ?_
          refine gd_iconst (pc := 75) X (1) dX4_keep_75 (by decide) ?_
          refine gd_iload (pc := 76) X 0 dX4_keep_76 rfl ?_
          refine gd_ishl (pc := 78) X dX4_keep_78 ?_
          refine gd_ior (pc := 79) X dX4_keep_79 ?_
          refine gd_putI (pc := 80) (kf := 6) X ci4 (by decide) rfl rfl tw_356 rfl rfl dX4_keep_80 hk11 ?_
          refine gd_topS (fun S12 hS12 => ?_)
          have h := h S12 hS12
          have hk13 : kT S12 l0 = 5 := by rw [hS12]; exact hk11
          refine gd_aload_n (pc := 83) X 1 dX4_keep_83 rfl ?_
          refine gd_getR (pc := 84) (kf := 3) X ci4 (by decide) rfl tw_349 dX4_keep_84 hk13 ?_
          refine gd_iload (pc := 87) X 0 dX4_keep_87 rfl ?_
          refine gd_iload_n (pc := 89) X 3 dX4_keep_89 rfl ?_
          obtain ⟨hk14, h⟩ := h
          obtain ⟨hi15, h⟩ := h
          refine gd_iast (pc := 90) X dX4_keep_90 hk14 hi15 ?_
          refine gd_topS (fun S16 hS16 => ?_)
          have h := h S16 hS16
          have hk17 : kT S16 l0 = 5 := by rw [hS16]; exact hk13
          have hk18 : kT S16 (sR S12 l0 3) = 9 := by rw [hS16]; exact hk14
          refine gd_sub [1, 2, 3, 4, 0] rfl ?_
          exact g91 _ _ _ _ _ _ h
  intro h
  refine gd_aload_n (pc := 0) X 1 dX4_keep_0 rfl ?_
  refine gd_iload_n (pc := 1) X 2 dX4_keep_1 rfl ?_
  obtain ⟨hk1, h⟩ := h
  refine gd_putI (pc := 2) (kf := 4) X ci2 (by decide) rfl rfl tw_461 rfl rfl dX4_keep_2 hk1 ?_
  refine gd_topS (fun S2 hS2 => ?_)
  have h := h S2 hS2
  have hk3 : kT S2 a1 = 3 := by rw [hS2]; exact hk1
  refine gd_aload_n (pc := 5) X 1 dX4_keep_5 rfl ?_
  refine gd_iload_n (pc := 6) X 3 dX4_keep_6 rfl ?_
  refine gd_putI (pc := 7) (kf := 5) X ci2 (by decide) rfl rfl tw_463 rfl rfl dX4_keep_7 hk3 ?_
  refine gd_topS (fun S4 hS4 => ?_)
  have h := h S4 hS4
  have hk5 : kT S4 a1 = 3 := by rw [hS4]; exact hk3
  refine gd_aload_n (pc := 10) X 0 dX4_keep_10 rfl ?_
  obtain ⟨hk6, h⟩ := h
  refine gd_getI (pc := 11) (kf := 5) X ci4 (by decide) rfl tw_353 dX4_keep_11 hk6 ?_
  refine gd_bipush (pc := 14) X (24) dX4_keep_14 (by decide) ?_
  refine gd_icmp_ge (pc := 16) X 39 dX4_keep_16 (by decide) (fun hc17 => ?_) (fun hc17 => ?_)
  · have h := h.1 hc17
    exact g39 _ _ _ _ _ h
  · have h := h.2 hc17
    refine gd_aload_n (pc := 19) X 0 dX4_keep_19 rfl ?_
    refine gd_getR (pc := 20) (kf := 2) X ci4 (by decide) rfl tw_347 dX4_keep_20 hk6 ?_
    refine gd_aload_n (pc := 23) X 0 dX4_keep_23 rfl ?_
    refine gd_getI (pc := 24) (kf := 5) X ci4 (by decide) rfl tw_353 dX4_keep_24 hk6 ?_
    refine gd_aload_n (pc := 27) X 1 dX4_keep_27 rfl ?_
    obtain ⟨hk7, h⟩ := h
    obtain ⟨hi8, h⟩ := h
    refine gd_aast (pc := 28) (t := 4) X ci2 rfl (by decide) (by decide) dX4_keep_28 hk7 hk5 hi8 ?_
    refine gd_topS (fun S9 hS9 => ?_)
    have h := h S9 hS9
    have hk10 : kT S9 a1 = 3 := by rw [hS9]; exact hk5
    have hk11 : kT S9 a0 = 5 := by rw [hS9]; exact hk6
    have hk12 : kT S9 (sR S4 a0 2) = 12 := by rw [hS9]; exact hk7
    refine gd_aload_n (pc := 29) X 0 dX4_keep_29 rfl ?_
    refine gd_dupR (pc := 30) X dX4_keep_30 ?_
    refine gd_getI (pc := 31) (kf := 5) X ci4 (by decide) rfl tw_353 dX4_keep_31 hk11 ?_
    refine gd_iconst (pc := 34) X (1) dX4_keep_34 (by decide) ?_
    refine gd_iadd (pc := 35) X dX4_keep_35 ?_
    refine gd_putI (pc := 36) (kf := 5) X ci4 (by decide) rfl rfl tw_353 rfl rfl dX4_keep_36 hk11 ?_
    refine gd_topS (fun S13 hS13 => ?_)
    have h := h S13 hS13
    have hk14 : kT S13 a1 = 3 := by rw [hS13]; exact hk10
    have hk15 : kT S13 a0 = 5 := by rw [hS13]; exact hk11
    have hk16 : kT S13 (sR S4 a0 2) = 12 := by rw [hS13]; exact hk12
    exact g39 _ _ _ _ _ h
abbrev rm_X4_countPredicates : Room := { frames := 1, cells := 0, slots := 0, locals := 20 }
def b_X4_countPredicates_33 (KH4 : MS → Nat → Int32 → Int32 → Prop) (post : Int32 → MS → Prop) (S : MS) (l0 : Nat) (l1 : Int32) (l2 : Int32) (l3 : Nat) : Prop := ∀ v1 : Int32, v1 = l2 + 1 → KH4 S l0 l1 v1
def b_X4_countPredicates_4 (post : Int32 → MS → Prop) : Nat → MS → Nat → Int32 → Int32 → Prop
  | 0 => fun _ _ _ _ => False
  | f + 1 => fun S l0 l1 l2 => kT S l0 = 5 ∧ (((sI S l0 5) ≤ l2 → post l1 S) ∧ (¬ (sI S l0 5) ≤ l2 → kT S (sR S l0 2) = 12 ∧ vp_in l2 (kL S (sR S l0 2)) ∧ ∀ r4 : Nat, r4 = sR S (sR S l0 2) (ix l2) → ((r4 = 0 → b_X4_countPredicates_33 (b_X4_countPredicates_4 post f) post S l0 l1 l2 r4) ∧ (¬ r4 = 0 → kT S r4 = 3 ∧ w_X2_isPredicate S r4 (fun r7 S6 => ((r7 = 0 → b_X4_countPredicates_33 (b_X4_countPredicates_4 post f) post S6 l0 l1 l2 r4) ∧ (¬ r7 = 0 → ∀ v8 : Int32, v8 = l1 + 1 → b_X4_countPredicates_33 (b_X4_countPredicates_4 post f) post S6 l0 v8 l2 r4)))))))
def w_X4_countPredicates (S : MS) (a0 : Nat) (post : Int32 → MS → Prop) : Prop := ∃ f4, b_X4_countPredicates_4 post f4 S a0 0 0
set_option maxHeartbeats 4000000 in
set_option maxRecDepth 100000 in
theorem ct_X4_countPredicates (l : Launch) (G : GP) (S : MS) (a0 : Nat) (post : Int32 → MS → Prop) (h : w_X4_countPredicates S a0 post) : MetM l yX4_countPredicates cX4_countPredicates 4 (some .int) rm_X4_countPredicates [rf a0] G S (pI_ post) := by
  refine met_of (by decide) (cat1_r cat1_n) (Nat.le_of_ble_eq_true rfl) ?_
  intro p e s m args below meth c X hr hlk hin
  revert h
  have g33 : ∀ (KH4 : MS → Nat → Int32 → Int32 → Prop) (hKH4 : ∀ (S : MS) (l0 : Nat) (l1 : Int32) (l2 : Int32), KH4 S l0 l1 l2 → Gd p l e rm_X4_countPredicates s m args below meth c 4 G (MQ below (QcM G (pI_ post)) args s rm_X4_countPredicates.cells rm_X4_countPredicates.slots (Ab G)) 0 0 S 4 [(0, rf l0), (1, .int l1), (2, .int l2)] []) (S : MS) (l0 : Nat) (l1 : Int32) (l2 : Int32) (l3 : Nat), b_X4_countPredicates_33 KH4 post S l0 l1 l2 l3 → Gd p l e rm_X4_countPredicates s m args below meth c 4 G (MQ below (QcM G (pI_ post)) args s rm_X4_countPredicates.cells rm_X4_countPredicates.slots (Ab G)) 0 0 S 33 [(0, rf l0), (1, .int l1), (2, .int l2), (3, rf l3)] [] := by
    intro KH4 hKH4 S l0 l1 l2 l3 h
    obtain ⟨v1, hv1⟩ : ∃ z : Int32, z = l2 + 1 := ⟨_, rfl⟩
    have h := h v1 hv1
    refine gd_iinc (pc := 33) (v := v1) X 2 dX4_countPredicates_33 rfl (by rw [hv1]; rfl) (by decide) (E2 := [(2, .int v1), (0, rf l0), (1, .int l1), (3, rf l3)]) rfl ?_
    refine gd_goto (pc := 36) X 4 dX4_countPredicates_36 (by decide) ?_
    refine gd_sub [1, 2, 0] rfl ?_
    exact hKH4 _ _ _ _ h
  have g4 : ∀ (f : Nat) (S : MS) (l0 : Nat) (l1 : Int32) (l2 : Int32), b_X4_countPredicates_4 post f S l0 l1 l2 → Gd p l e rm_X4_countPredicates s m args below meth c 4 G (MQ below (QcM G (pI_ post)) args s rm_X4_countPredicates.cells rm_X4_countPredicates.slots (Ab G)) 0 0 S 4 [(0, rf l0), (1, .int l1), (2, .int l2)] [] := by
    intro f
    induction f with
    | zero => intro S l0 l1 l2 h; exact h.elim
    | succ f ih =>
      intro S l0 l1 l2 h
      refine gd_iload_n (pc := 4) X 2 dX4_countPredicates_4 rfl ?_
      refine gd_aload_n (pc := 5) X 0 dX4_countPredicates_5 rfl ?_
      obtain ⟨hk1, h⟩ := h
      refine gd_getI (pc := 6) (kf := 5) X ci4 (by decide) rfl tw_353 dX4_countPredicates_6 hk1 ?_
      refine gd_icmp_ge (pc := 9) X 39 dX4_countPredicates_9 (by decide) (fun hc11 => ?_) (fun hc11 => ?_)
      · have h := h.1 hc11
        refine gd_iload_n (pc := 39) X 1 dX4_countPredicates_39 rfl ?_
        exact (gd_ret_i (pc := 40) X hr hlk rfl (by decide) (by decide) dX4_countPredicates_40 ⟨_, rfl, h⟩)
      · have h := h.2 hc11
        refine gd_aload_n (pc := 12) X 0 dX4_countPredicates_12 rfl ?_
        refine gd_getR (pc := 13) (kf := 2) X ci4 (by decide) rfl tw_347 dX4_countPredicates_13 hk1 ?_
        refine gd_iload_n (pc := 16) X 2 dX4_countPredicates_16 rfl ?_
        obtain ⟨hk2, h⟩ := h
        obtain ⟨hi3, h⟩ := h
        refine gd_aald (pc := 17) (t := 4) X rfl rfl (by decide) (by decide) dX4_countPredicates_17 hk2 hi3 ?_
        refine gd_topR (fun r4 hr4 => ?_)
        have h := h r4 hr4
        refine gd_astore_n (pc := 18) X dX4_countPredicates_18 (by decide) (E2 := [(3, rf r4), (0, rf l0), (1, .int l1), (2, .int l2)]) rfl ?_
        refine gd_aload_n (pc := 19) X 0 dX4_countPredicates_19 rfl ?_
        refine gd_ifnull (pc := 20) X 33 dX4_countPredicates_20 (by decide) (fun hc10 => ?_) (fun hc10 => ?_)
        · have h := h.1 hc10
          refine gd_sub [1, 2, 3, 0] rfl ?_
          exact g33 _ ih _ _ _ _ _ h
        · have h := h.2 hc10
          refine gd_aload_n (pc := 23) X 0 dX4_countPredicates_23 rfl ?_
          obtain ⟨hk5, h⟩ := h
          refine gd_callV (pc := 24) (As := []) (rest := []) X (ct_X2_isPredicate l G S r4 _ h) mw_X2_isPredicate tw_756 ci2 rfl hk5 ⟨(Nat.le_of_ble_eq_true rfl), (Nat.le_of_ble_eq_true rfl)⟩ rfl rfl (Nat.le_of_ble_eq_true rfl) dX4_countPredicates_24 ⟨Nat.le_of_ble_eq_true rfl, Nat.le_of_ble_eq_true rfl⟩ (kI (fun r7 S6 h => ?_))
          refine gd_wide (k2 := 0) (j2 := 0) (Nat.le_of_ble_eq_true rfl) (Nat.le_of_ble_eq_true rfl) ?_
          refine gd_if_eq (pc := 27) X 33 dX4_countPredicates_27 (by decide) (fun hc9 => ?_) (fun hc9 => ?_)
          · have h := h.1 hc9
            refine gd_sub [1, 2, 3, 0] rfl ?_
            exact g33 _ ih _ _ _ _ _ h
          · have h := h.2 hc9
            obtain ⟨v8, hv8⟩ : ∃ z : Int32, z = l1 + 1 := ⟨_, rfl⟩
            have h := h v8 hv8
            refine gd_iinc (pc := 30) (v := v8) X 2 dX4_countPredicates_30 rfl (by rw [hv8]; rfl) (by decide) (E2 := [(1, .int v8), (3, rf r4), (0, rf l0), (2, .int l2)]) (by simp [rf_cat, lv1, int_cat] <;> decide) ?_
            refine gd_sub [2, 0, 3, 1] rfl ?_
            exact g33 _ ih _ _ _ _ _ h
  intro h
  refine gd_iconst (pc := 0) X (0) dX4_countPredicates_0 (by decide) ?_
  refine gd_istore_n (pc := 1) X dX4_countPredicates_1 (by decide) (E2 := [(1, .int 0), (0, rf a0)]) (by simp [rf_cat, lv1, int_cat] <;> decide) ?_
  refine gd_iconst (pc := 2) X (0) dX4_countPredicates_2 (by decide) ?_
  refine gd_istore_n (pc := 3) X dX4_countPredicates_3 (by decide) (E2 := [(2, .int 0), (1, .int 0), (0, rf a0)]) rfl ?_
  refine gd_sub [2, 1, 0] rfl ?_
  obtain ⟨f4, h⟩ := h
  exact g4 f4 _ _ _ _ h
abbrev rm_X4_repeatsAlikeOn : Room := { frames := 2, cells := 0, slots := 0, locals := 46 }
def b_X4_repeatsAlikeOn_35 (KH2 : MS → Nat → Nat → Int32 → Prop) (post : Int32 → MS → Prop) (S : MS) (l0 : Nat) (l1 : Nat) (l2 : Int32) (l3 : Nat) : Prop := ∀ v1 : Int32, v1 = l2 + 1 → KH2 S l0 l1 v1
def b_X4_repeatsAlikeOn_2 (post : Int32 → MS → Prop) : Nat → MS → Nat → Nat → Int32 → Prop
  | 0 => fun _ _ _ _ => False
  | f + 1 => fun S l0 l1 l2 => kT S l0 = 5 ∧ (((sI S l0 5) ≤ l2 → post 1 S) ∧ (¬ (sI S l0 5) ≤ l2 → kT S (sR S l0 2) = 12 ∧ vp_in l2 (kL S (sR S l0 2)) ∧ ∀ r4 : Nat, r4 = sR S (sR S l0 2) (ix l2) → ((r4 = 0 → b_X4_repeatsAlikeOn_35 (b_X4_repeatsAlikeOn_2 post f) post S l0 l1 l2 r4) ∧ (¬ r4 = 0 → kT S r4 = 3 ∧ w_X2_carryOut S r4 l1 (fun r7 S6 => kT S6 r4 = 3 ∧ ((r7 = (sI S6 r4 5) → b_X4_repeatsAlikeOn_35 (b_X4_repeatsAlikeOn_2 post f) post S6 l0 l1 l2 r4) ∧ (¬ r7 = (sI S6 r4 5) → post 0 S6)))))))
def w_X4_repeatsAlikeOn (S : MS) (a0 : Nat) (a1 : Nat) (post : Int32 → MS → Prop) : Prop := ∃ f2, b_X4_repeatsAlikeOn_2 post f2 S a0 a1 0
set_option maxHeartbeats 4000000 in
set_option maxRecDepth 100000 in
theorem ct_X4_repeatsAlikeOn (l : Launch) (G : GP) (S : MS) (a0 : Nat) (a1 : Nat) (post : Int32 → MS → Prop) (h : w_X4_repeatsAlikeOn S a0 a1 post) : MetM l yX4_repeatsAlikeOn cX4_repeatsAlikeOn 4 (some .boolean) rm_X4_repeatsAlikeOn [rf a0, rf a1] G S (pI_ post) := by
  refine met_of (by decide) (cat1_r (cat1_r cat1_n)) (Nat.le_of_ble_eq_true rfl) ?_
  intro p e s m args below meth c X hr hlk hin
  revert h
  have g35 : ∀ (KH2 : MS → Nat → Nat → Int32 → Prop) (hKH2 : ∀ (S : MS) (l0 : Nat) (l1 : Nat) (l2 : Int32), KH2 S l0 l1 l2 → Gd p l e rm_X4_repeatsAlikeOn s m args below meth c 4 G (MQ below (QcM G (pI_ post)) args s rm_X4_repeatsAlikeOn.cells rm_X4_repeatsAlikeOn.slots (Ab G)) 0 0 S 2 [(0, rf l0), (1, rf l1), (2, .int l2)] []) (S : MS) (l0 : Nat) (l1 : Nat) (l2 : Int32) (l3 : Nat), b_X4_repeatsAlikeOn_35 KH2 post S l0 l1 l2 l3 → Gd p l e rm_X4_repeatsAlikeOn s m args below meth c 4 G (MQ below (QcM G (pI_ post)) args s rm_X4_repeatsAlikeOn.cells rm_X4_repeatsAlikeOn.slots (Ab G)) 0 0 S 35 [(0, rf l0), (1, rf l1), (2, .int l2), (3, rf l3)] [] := by
    intro KH2 hKH2 S l0 l1 l2 l3 h
    obtain ⟨v1, hv1⟩ : ∃ z : Int32, z = l2 + 1 := ⟨_, rfl⟩
    have h := h v1 hv1
    refine gd_iinc (pc := 35) (v := v1) X 2 dX4_repeatsAlikeOn_35 rfl (by rw [hv1]; rfl) (by decide) (E2 := [(2, .int v1), (0, rf l0), (1, rf l1), (3, rf l3)]) (by simp [rf_cat, lv1, int_cat] <;> decide) ?_
    refine gd_goto (pc := 38) X 2 dX4_repeatsAlikeOn_38 (by decide) ?_
    refine gd_sub [1, 2, 0] rfl ?_
    exact hKH2 _ _ _ _ h
  have g2 : ∀ (f : Nat) (S : MS) (l0 : Nat) (l1 : Nat) (l2 : Int32), b_X4_repeatsAlikeOn_2 post f S l0 l1 l2 → Gd p l e rm_X4_repeatsAlikeOn s m args below meth c 4 G (MQ below (QcM G (pI_ post)) args s rm_X4_repeatsAlikeOn.cells rm_X4_repeatsAlikeOn.slots (Ab G)) 0 0 S 2 [(0, rf l0), (1, rf l1), (2, .int l2)] [] := by
    intro f
    induction f with
    | zero => intro S l0 l1 l2 h; exact h.elim
    | succ f ih =>
      intro S l0 l1 l2 h
      refine gd_iload_n (pc := 2) X 2 dX4_repeatsAlikeOn_2 rfl ?_
      refine gd_aload_n (pc := 3) X 0 dX4_repeatsAlikeOn_3 rfl ?_
      obtain ⟨hk1, h⟩ := h
      refine gd_getI (pc := 4) (kf := 5) X ci4 (by decide) rfl tw_353 dX4_repeatsAlikeOn_4 hk1 ?_
      refine gd_icmp_ge (pc := 7) X 41 dX4_repeatsAlikeOn_7 (by decide) (fun hc11 => ?_) (fun hc11 => ?_)
      · have h := h.1 hc11
        refine gd_iconst (pc := 41) X (1) dX4_repeatsAlikeOn_41 (by decide) ?_
        exact (gd_ret_i (pc := 42) X hr hlk rfl (by decide) (by decide) dX4_repeatsAlikeOn_42 ⟨_, rfl, h⟩)
      · have h := h.2 hc11
        refine gd_aload_n (pc := 10) X 0 dX4_repeatsAlikeOn_10 rfl ?_
        refine gd_getR (pc := 11) (kf := 2) X ci4 (by decide) rfl tw_347 dX4_repeatsAlikeOn_11 hk1 ?_
        refine gd_iload_n (pc := 14) X 2 dX4_repeatsAlikeOn_14 rfl ?_
        obtain ⟨hk2, h⟩ := h
        obtain ⟨hi3, h⟩ := h
        refine gd_aald (pc := 15) (t := 4) X rfl rfl (by decide) (by decide) dX4_repeatsAlikeOn_15 hk2 hi3 ?_
        refine gd_topR (fun r4 hr4 => ?_)
        have h := h r4 hr4
        refine gd_astore_n (pc := 16) X dX4_repeatsAlikeOn_16 (by decide) (E2 := [(3, rf r4), (0, rf l0), (1, rf l1), (2, .int l2)]) rfl ?_
        refine gd_aload_n (pc := 17) X 0 dX4_repeatsAlikeOn_17 rfl ?_
        refine gd_ifnull (pc := 18) X 35 dX4_repeatsAlikeOn_18 (by decide) (fun hc10 => ?_) (fun hc10 => ?_)
        · have h := h.1 hc10
          refine gd_sub [1, 2, 3, 0] rfl ?_
          exact g35 _ ih _ _ _ _ _ h
        · have h := h.2 hc10
          refine gd_aload_n (pc := 21) X 0 dX4_repeatsAlikeOn_21 rfl ?_
          refine gd_aload_n (pc := 22) X 2 dX4_repeatsAlikeOn_22 rfl ?_
          obtain ⟨hk5, h⟩ := h
          refine gd_callV (pc := 23) (As := [rf l1]) (rest := []) X (ct_X2_carryOut l G S r4 l1 _ h) mw_X2_carryOut tw_200 ci2 rfl hk5 ⟨(Nat.le_of_ble_eq_true rfl), (Nat.le_of_ble_eq_true rfl)⟩ rfl rfl (Nat.le_of_ble_eq_true rfl) dX4_repeatsAlikeOn_23 ⟨Nat.le_of_ble_eq_true rfl, Nat.le_of_ble_eq_true rfl⟩ (kI (fun r7 S6 h => ?_))
          refine gd_wide (k2 := 0) (j2 := 0) (Nat.le_of_ble_eq_true rfl) (Nat.le_of_ble_eq_true rfl) ?_
          refine gd_aload_n (pc := 26) X 0 dX4_repeatsAlikeOn_26 rfl ?_
          obtain ⟨hk8, h⟩ := h
          refine gd_getI (pc := 27) (kf := 5) X ci2 (by decide) rfl tw_463 dX4_repeatsAlikeOn_27 hk8 ?_
          refine gd_icmp_eq (pc := 30) X 35 dX4_repeatsAlikeOn_30 (by decide) (fun hc9 => ?_) (fun hc9 => ?_)
          · have h := h.1 hc9
            refine gd_sub [1, 2, 3, 0] rfl ?_
            exact g35 _ ih _ _ _ _ _ h
          · have h := h.2 hc9
            refine gd_iconst (pc := 33) X (0) dX4_repeatsAlikeOn_33 (by decide) ?_
            exact (gd_ret_i (pc := 34) X hr hlk rfl (by decide) (by decide) dX4_repeatsAlikeOn_34 ⟨_, rfl, h⟩)
  intro h
  refine gd_iconst (pc := 0) X (0) dX4_repeatsAlikeOn_0 (by decide) ?_
  refine gd_istore_n (pc := 1) X dX4_repeatsAlikeOn_1 (by decide) (E2 := [(2, .int 0), (0, rf a0), (1, rf a1)]) (by simp [rf_cat, lv1, int_cat] <;> decide) ?_
  refine gd_sub [1, 2, 0] rfl ?_
  obtain ⟨f2, h⟩ := h
  exact g2 f2 _ _ _ _ h
