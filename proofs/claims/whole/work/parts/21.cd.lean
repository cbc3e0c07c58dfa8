abbrev rm_X5_init : Room := { frames := 2, cells := 71, slots := 2349, locals := 43 }
def w_X5_init (S : MS) (a0 : Nat) (post : MS → Prop) : Prop := kT S a0 = 6 ∧ ∀ q2 : Nat, kT S q2 = 0 → ¬ q2 = 0 → ∀ S3 : MS, S3 = nw S q2 2 0 → w_X1_init S3 q2 (fun S5 => kT S5 a0 = 6 ∧ ∀ S8 : MS, S8 = pR S5 a0 0 q2 → ∀ q10 : Nat, kT S8 q10 = 0 → ¬ q10 = 0 → ∀ S11 : MS, S11 = nw S8 q10 13 80 → ∀ S14 : MS, S14 = pR S11 a0 1 q10 → ∀ q17 : Nat, kT S14 q17 = 0 → ¬ q17 = 0 → ∀ S18 : MS, S18 = nw S14 q17 11 3 → ∀ S22 : MS, S22 = pR S18 a0 2 q17 → ∀ q26 : Nat, kT S22 q26 = 0 → ¬ q26 = 0 → ∀ S27 : MS, S27 = nw S22 q26 4 0 → w_X3_init S27 q26 (fun S29 => kT S29 a0 = 6 ∧ ∀ S32 : MS, S32 = pR S29 a0 3 q26 → ∀ q34 : Nat, kT S32 q34 = 0 → ¬ q34 = 0 → ∀ S35 : MS, S35 = nw S32 q34 9 32 → ∀ S38 : MS, S38 = pR S35 a0 4 q34 → ∀ q41 : Nat, kT S38 q41 = 0 → ¬ q41 = 0 → ∀ S42 : MS, S42 = nw S38 q41 9 61 → ∀ S46 : MS, S46 = pR S42 a0 5 q41 → ∀ S50 : MS, S50 = pI S46 a0 8 0 → ∀ S54 : MS, S54 = pI S50 a0 9 0 → ∀ S58 : MS, S58 = pI S54 a0 10 3 → ∀ S62 : MS, S62 = pI S58 a0 11 ((-1)) → post S62))
set_option maxHeartbeats 4000000 in
set_option maxRecDepth 100000 in
theorem ct_X5_init (l : Launch) (G : GP) (S : MS) (a0 : Nat) (post : MS → Prop) (h : w_X5_init S a0 post) : MetM l yX5_init cX5_init 1 none rm_X5_init [rf a0] G S (pV_ post) := by
  refine met_of (by decide) (cat1_r cat1_n) (Nat.le_of_ble_eq_true rfl) ?_
  intro p e s m args below meth c X hr hlk hin
  refine gd_aload_n (pc := 0) X 0 dX5_init_0 rfl ?_
  obtain ⟨hk1, h⟩ := h
  refine gd_objInit (pc := 1) X (by rw [hk1]; decide) tw_26 oi_1 oi_2 dX5_init_1 (Nat.le_of_ble_eq_true rfl) ⟨(Nat.le_of_ble_eq_true rfl), (Nat.le_of_ble_eq_true rfl)⟩ ?_
  refine gd_aload_n (pc := 4) X 0 dX5_init_4 rfl ?_
  refine gd_new (pc := 5) X ci1 tw_29 tw_30 tw_2 (by decide +kernel) dX5_init_5 ⟨Nat.le_of_ble_eq_true rfl, Nat.le_of_ble_eq_true rfl⟩ (fun q2 hzq2 hnq2 => ?_)
  have h := h q2 hzq2 hnq2
  refine gd_wide (k2 := 1) (j2 := 3) (Nat.le_of_ble_eq_true rfl) (Nat.le_of_ble_eq_true rfl) ?_
  refine gd_topS (fun S3 hS3 => ?_)
  have h := h S3 hS3
  have hk4 : kT S3 q2 = 2 := by rw [hS3]; exact kT_nw _ _ _ _
  refine gd_dupR (pc := 8) X dX5_init_8 ?_
  refine gd_callI (pc := 9) (As := []) (rest := [rf q2, rf a0]) X (ct_X1_init l G S3 q2 _ h) mw_X1_init tw_31 (by rw [hk4]; decide) ⟨(Nat.le_of_ble_eq_true rfl), (Nat.le_of_ble_eq_true rfl)⟩ rfl rfl (Nat.le_of_ble_eq_true rfl) dX5_init_9 ⟨Nat.le_of_ble_eq_true rfl, Nat.le_of_ble_eq_true rfl⟩ (kV (fun S5 h => ?_))
  refine gd_wide (k2 := 64) (j2 := 2077) (Nat.le_of_ble_eq_true rfl) (Nat.le_of_ble_eq_true rfl) ?_
  obtain ⟨hk7, h⟩ := h
  refine gd_putFR (pc := 12) (kf := 0) X ci5 (by decide) rfl rfl hin rfl tw_88 (rf_nar (by decide) q2) (rf_fit (by decide) q2) dX5_init_12 hk7 ?_
  refine gd_topS (fun S8 hS8 => ?_)
  have h := h S8 hS8
  have hk9 : kT S8 a0 = 6 := by rw [hS8]; exact hk7
  refine gd_aload_n (pc := 15) X 0 dX5_init_15 rfl ?_
  refine gd_bipush (pc := 16) X (80) dX5_init_16 (by decide) ?_
  refine gd_anew (pc := 18) (t := 5) (N := 80) X tw_54 (by decide) rfl (by decide) (by decide) (by decide) (by decide) (by decide) dX5_init_18 ⟨Nat.le_of_ble_eq_true rfl, Nat.le_of_ble_eq_true rfl⟩ (fun q10 hzq10 hnq10 => ?_)
  have h := h q10 hzq10 hnq10
  refine gd_wide (k2 := 65) (j2 := 2157) (Nat.le_of_ble_eq_true rfl) (Nat.le_of_ble_eq_true rfl) ?_
  refine gd_topS (fun S11 hS11 => ?_)
  have h := h S11 hS11
  have hk12 : kT S11 a0 = 6 := by rw [hS11]; exact kT_nwo hk9 hzq10 (by decide)
  have hk13 : kT S11 q10 = 13 := by rw [hS11]; exact kT_nw _ _ _ _
  refine gd_putFR (pc := 21) (kf := 1) X ci5 (by decide) rfl rfl hin rfl tw_89 (rf_nar (by decide) q10) (rf_fit (by decide) q10) dX5_init_21 hk12 ?_
  refine gd_topS (fun S14 hS14 => ?_)
  have h := h S14 hS14
  have hk15 : kT S14 a0 = 6 := by rw [hS14]; exact hk12
  have hk16 : kT S14 q10 = 13 := by rw [hS14]; exact hk13
  refine gd_aload_n (pc := 24) X 0 dX5_init_24 rfl ?_
  refine gd_iconst (pc := 25) X (3) dX5_init_25 (by decide) ?_
  refine gd_anew (pc := 26) (t := 3) (N := 3) X tw_55 (by decide) rfl (by decide) (by decide) (by decide) (by decide) (by decide) dX5_init_26 ⟨Nat.le_of_ble_eq_true rfl, Nat.le_of_ble_eq_true rfl⟩ (fun q17 hzq17 hnq17 => ?_)
  have h := h q17 hzq17 hnq17
  refine gd_wide (k2 := 66) (j2 := 2160) (Nat.le_of_ble_eq_true rfl) (Nat.le_of_ble_eq_true rfl) ?_
  refine gd_topS (fun S18 hS18 => ?_)
  have h := h S18 hS18
  have hk19 : kT S18 a0 = 6 := by rw [hS18]; exact kT_nwo hk15 hzq17 (by decide)
  have hk20 : kT S18 q10 = 13 := by rw [hS18]; exact kT_nwo hk16 hzq17 (by decide)
  have hk21 : kT S18 q17 = 11 := by rw [hS18]; exact kT_nw _ _ _ _
  refine gd_putFR (pc := 29) (kf := 2) X ci5 (by decide) rfl rfl hin rfl tw_90 (rf_nar (by decide) q17) (rf_fit (by decide) q17) dX5_init_29 hk19 ?_
  refine gd_topS (fun S22 hS22 => ?_)
  have h := h S22 hS22
  have hk23 : kT S22 a0 = 6 := by rw [hS22]; exact hk19
  have hk24 : kT S22 q10 = 13 := by rw [hS22]; exact hk20
  have hk25 : kT S22 q17 = 11 := by rw [hS22]; exact hk21
  refine gd_aload_n (pc := 32) X 0 dX5_init_32 rfl ?_
  refine gd_new (pc := 33) X ci3 tw_57 tw_58 tw_4 (by decide +kernel) dX5_init_33 ⟨Nat.le_of_ble_eq_true rfl, Nat.le_of_ble_eq_true rfl⟩ (fun q26 hzq26 hnq26 => ?_)
  have h := h q26 hzq26 hnq26
  refine gd_wide (k2 := 67) (j2 := 2166) (Nat.le_of_ble_eq_true rfl) (Nat.le_of_ble_eq_true rfl) ?_
  refine gd_topS (fun S27 hS27 => ?_)
  have h := h S27 hS27
  have hk28 : kT S27 q26 = 4 := by rw [hS27]; exact kT_nw _ _ _ _
  refine gd_dupR (pc := 36) X dX5_init_36 ?_
  refine gd_callI (pc := 37) (As := []) (rest := [rf q26, rf a0]) X (ct_X3_init l G S27 q26 _ h) mw_X3_init tw_59 (by rw [hk28]; decide) ⟨(Nat.le_of_ble_eq_true rfl), (Nat.le_of_ble_eq_true rfl)⟩ rfl rfl (Nat.le_of_ble_eq_true rfl) dX5_init_37 ⟨Nat.le_of_ble_eq_true rfl, Nat.le_of_ble_eq_true rfl⟩ (kV (fun S29 h => ?_))
  refine gd_wide (k2 := 69) (j2 := 2256) (Nat.le_of_ble_eq_true rfl) (Nat.le_of_ble_eq_true rfl) ?_
  obtain ⟨hk31, h⟩ := h
  refine gd_putFR (pc := 40) (kf := 3) X ci5 (by decide) rfl rfl hin rfl tw_91 (rf_nar (by decide) q26) (rf_fit (by decide) q26) dX5_init_40 hk31 ?_
  refine gd_topS (fun S32 hS32 => ?_)
  have h := h S32 hS32
  have hk33 : kT S32 a0 = 6 := by rw [hS32]; exact hk31
  refine gd_aload_n (pc := 43) X 0 dX5_init_43 rfl ?_
  refine gd_bipush (pc := 44) X (32) dX5_init_44 (by decide) ?_
  refine gd_newaI (pc := 46) (N := 32) X tw_53 (by decide) (by decide) (by decide) dX5_init_46 ⟨Nat.le_of_ble_eq_true rfl, Nat.le_of_ble_eq_true rfl⟩ (fun q34 hzq34 hnq34 => ?_)
  have h := h q34 hzq34 hnq34
  refine gd_wide (k2 := 70) (j2 := 2288) (Nat.le_of_ble_eq_true rfl) (Nat.le_of_ble_eq_true rfl) ?_
  refine gd_topS (fun S35 hS35 => ?_)
  have h := h S35 hS35
  have hk36 : kT S35 a0 = 6 := by rw [hS35]; exact kT_nwo hk33 hzq34 (by decide)
  have hk37 : kT S35 q34 = 9 := by rw [hS35]; exact kT_nw _ _ _ _
  refine gd_putFR (pc := 48) (kf := 4) X ci5 (by decide) rfl rfl hin rfl tw_92 (rf_nar (by decide) q34) (rf_fit (by decide) q34) dX5_init_48 hk36 ?_
  refine gd_topS (fun S38 hS38 => ?_)
  have h := h S38 hS38
  have hk39 : kT S38 a0 = 6 := by rw [hS38]; exact hk36
  have hk40 : kT S38 q34 = 9 := by rw [hS38]; exact hk37
  refine gd_aload_n (pc := 51) X 0 dX5_init_51 rfl ?_
  refine gd_bipush (pc := 52) X (61) dX5_init_52 (by decide) ?_
  refine gd_newaI (pc := 54) (N := 61) X tw_53 (by decide) (by decide) (by decide) dX5_init_54 ⟨Nat.le_of_ble_eq_true rfl, Nat.le_of_ble_eq_true rfl⟩ (fun q41 hzq41 hnq41 => ?_)
  have h := h q41 hzq41 hnq41
  refine gd_wide (k2 := 71) (j2 := 2349) (Nat.le_of_ble_eq_true rfl) (Nat.le_of_ble_eq_true rfl) ?_
  refine gd_topS (fun S42 hS42 => ?_)
  have h := h S42 hS42
  have hk43 : kT S42 a0 = 6 := by rw [hS42]; exact kT_nwo hk39 hzq41 (by decide)
  have hk44 : kT S42 q34 = 9 := by rw [hS42]; exact kT_nwo hk40 hzq41 (by decide)
  have hk45 : kT S42 q41 = 9 := by rw [hS42]; exact kT_nw _ _ _ _
  refine gd_putFR (pc := 56) (kf := 5) X ci5 (by decide) rfl rfl hin rfl tw_93 (rf_nar (by decide) q41) (rf_fit (by decide) q41) dX5_init_56 hk43 ?_
  refine gd_topS (fun S46 hS46 => ?_)
  have h := h S46 hS46
  have hk47 : kT S46 a0 = 6 := by rw [hS46]; exact hk43
  have hk48 : kT S46 q34 = 9 := by rw [hS46]; exact hk44
  have hk49 : kT S46 q41 = 9 := by rw [hS46]; exact hk45
  refine gd_aload_n (pc := 59) X 0 dX5_init_59 rfl ?_
  refine gd_iconst (pc := 60) X (0) dX5_init_60 (by decide) ?_
  refine gd_putI (pc := 61) (kf := 8) X ci5 (by decide) rfl rfl tw_96 rfl rfl dX5_init_61 hk47 ?_
  refine gd_topS (fun S50 hS50 => ?_)
  have h := h S50 hS50
  have hk51 : kT S50 a0 = 6 := by rw [hS50]; exact hk47
  have hk52 : kT S50 q34 = 9 := by rw [hS50]; exact hk48
  have hk53 : kT S50 q41 = 9 := by rw [hS50]; exact hk49
  refine gd_aload_n (pc := 64) X 0 dX5_init_64 rfl ?_
  refine gd_iconst (pc := 65) X (0) dX5_init_65 (by decide) ?_
  refine gd_putI (pc := 66) (kf := 9) X ci5 (by decide) rfl rfl tw_97 rfl rfl dX5_init_66 hk51 ?_
  refine gd_topS (fun S54 hS54 => ?_)
  have h := h S54 hS54
  have hk55 : kT S54 a0 = 6 := by rw [hS54]; exact hk51
  have hk56 : kT S54 q34 = 9 := by rw [hS54]; exact hk52
  have hk57 : kT S54 q41 = 9 := by rw [hS54]; exact hk53
  refine gd_aload_n (pc := 69) X 0 dX5_init_69 rfl ?_
  refine gd_iconst (pc := 70) X (3) dX5_init_70 (by decide) ?_
  refine gd_putI (pc := 71) (kf := 10) X ci5 (by decide) rfl rfl tw_98 rfl rfl dX5_init_71 hk55 ?_
  refine gd_topS (fun S58 hS58 => ?_)
  have h := h S58 hS58
  have hk59 : kT S58 a0 = 6 := by rw [hS58]; exact hk55
  have hk60 : kT S58 q34 = 9 := by rw [hS58]; exact hk56
  have hk61 : kT S58 q41 = 9 := by rw [hS58]; exact hk57
  refine gd_aload_n (pc := 74) X 0 dX5_init_74 rfl ?_
  refine gd_iconst (pc := 75) X (-1) dX5_init_75 (by decide) ?_
  refine gd_putI (pc := 76) (kf := 11) X ci5 (by decide) rfl rfl tw_99 rfl rfl dX5_init_76 hk59 ?_
  refine gd_topS (fun S62 hS62 => ?_)
  have h := h S62 hS62
  have hk63 : kT S62 a0 = 6 := by rw [hS62]; exact hk59
  have hk64 : kT S62 q34 = 9 := by rw [hS62]; exact hk60
  have hk65 : kT S62 q41 = 9 := by rw [hS62]; exact hk61
  exact (gd_ret_v (pc := 79) X hr hlk (by decide) (by decide) dX5_init_79 ⟨rfl, h⟩)
abbrev rm_X5_countInState : Room := { frames := 0, cells := 0, slots := 0, locals := 0 }
def b_X5_countInState_37 (KH4 : MS → Nat → Int32 → Int32 → Int32 → Prop) (post : Int32 → MS → Prop) (S : MS) (l0 : Nat) (l1 : Int32) (l2 : Int32) (l3 : Int32) (l4 : Nat) : Prop := ∀ v1 : Int32, v1 = l3 + 1 → KH4 S l0 l1 l2 v1
def b_X5_countInState_4 (post : Int32 → MS → Prop) : Nat → MS → Nat → Int32 → Int32 → Int32 → Prop
  | 0 => fun _ _ _ _ _ => False
  | f + 1 => fun S l0 l1 l2 l3 => kT S l0 = 6 ∧ (((sI S l0 6) ≤ l3 → post l2 S) ∧ (¬ (sI S l0 6) ≤ l3 → kT S (sR S l0 1) = 13 ∧ vp_in l3 (kL S (sR S l0 1)) ∧ ∀ r4 : Nat, r4 = sR S (sR S l0 1) (ix l3) → ((r4 = 0 → b_X5_countInState_37 (b_X5_countInState_4 post f) post S l0 l1 l2 l3 r4) ∧ (¬ r4 = 0 → kT S r4 = 5 ∧ ((¬ (sI S r4 8) = l1 → b_X5_countInState_37 (b_X5_countInState_4 post f) post S l0 l1 l2 l3 r4) ∧ ((sI S r4 8) = l1 → ∀ v6 : Int32, v6 = l2 + 1 → b_X5_countInState_37 (b_X5_countInState_4 post f) post S l0 l1 v6 l3 r4))))))
def w_X5_countInState (S : MS) (a0 : Nat) (a1 : Int32) (post : Int32 → MS → Prop) : Prop := ∃ f4, b_X5_countInState_4 post f4 S a0 a1 0 0
set_option maxHeartbeats 4000000 in
set_option maxRecDepth 100000 in
theorem ct_X5_countInState (l : Launch) (G : GP) (S : MS) (a0 : Nat) (a1 : Int32) (post : Int32 → MS → Prop) (h : w_X5_countInState S a0 a1 post) : MetM l yX5_countInState cX5_countInState 5 (some .int) rm_X5_countInState [rf a0, .int a1] G S (pI_ post) := by
  refine met_of (by decide) (cat1_r (cat1_i cat1_n)) (Nat.le_of_ble_eq_true rfl) ?_
  intro p e s m args below meth c X hr hlk hin
  revert h
  have g37 : ∀ (KH4 : MS → Nat → Int32 → Int32 → Int32 → Prop) (hKH4 : ∀ (S : MS) (l0 : Nat) (l1 : Int32) (l2 : Int32) (l3 : Int32), KH4 S l0 l1 l2 l3 → Gd p l e rm_X5_countInState s m args below meth c 5 G (MQ below (QcM G (pI_ post)) args s rm_X5_countInState.cells rm_X5_countInState.slots (Ab G)) 0 0 S 4 [(0, rf l0), (1, .int l1), (2, .int l2), (3, .int l3)] []) (S : MS) (l0 : Nat) (l1 : Int32) (l2 : Int32) (l3 : Int32) (l4 : Nat), b_X5_countInState_37 KH4 post S l0 l1 l2 l3 l4 → Gd p l e rm_X5_countInState s m args below meth c 5 G (MQ below (QcM G (pI_ post)) args s rm_X5_countInState.cells rm_X5_countInState.slots (Ab G)) 0 0 S 37 [(0, rf l0), (1, .int l1), (2, .int l2), (3, .int l3), (4, rf l4)] [] := by
    intro KH4 hKH4 S l0 l1 l2 l3 l4 h
    obtain ⟨v1, hv1⟩ : ∃ z : Int32, z = l3 + 1 := ⟨_, rfl⟩
    have h := h v1 hv1
    refine gd_iinc (pc := 37) (v := v1) X 3 dX5_countInState_37 rfl (by rw [hv1]; rfl) (by decide) (E2 := [(3, .int v1), (0, rf l0), (1, .int l1), (2, .int l2), (4, rf l4)]) rfl ?_
    refine gd_goto (pc := 40) X 4 dX5_countInState_40 (by decide) ?_
    refine gd_sub [1, 2, 3, 0] rfl ?_
    exact hKH4 _ _ _ _ _ h
  have g4 : ∀ (f : Nat) (S : MS) (l0 : Nat) (l1 : Int32) (l2 : Int32) (l3 : Int32), b_X5_countInState_4 post f S l0 l1 l2 l3 → Gd p l e rm_X5_countInState s m args below meth c 5 G (MQ below (QcM G (pI_ post)) args s rm_X5_countInState.cells rm_X5_countInState.slots (Ab G)) 0 0 S 4 [(0, rf l0), (1, .int l1), (2, .int l2), (3, .int l3)] [] := by
    intro f
    induction f with
    | zero => intro S l0 l1 l2 l3 h; exact h.elim
    | succ f ih =>
      intro S l0 l1 l2 l3 h
      refine gd_iload_n (pc := 4) X 3 dX5_countInState_4 rfl ?_
      refine gd_aload_n (pc := 5) X 0 dX5_countInState_5 rfl ?_
      obtain ⟨hk1, h⟩ := h
      refine gd_getI (pc := 6) (kf := 6) X ci5 (by decide) rfl tw_94 dX5_countInState_6 hk1 ?_
      refine gd_icmp_ge (pc := 9) X 43 dX5_countInState_9 (by decide) (fun hc9 => ?_) (fun hc9 => ?_)
      · have h := h.1 hc9
        refine gd_iload_n (pc := 43) X 2 dX5_countInState_43 rfl ?_
        exact (gd_ret_i (pc := 44) X hr hlk rfl (by decide) (by decide) dX5_countInState_44 ⟨_, rfl, h⟩)
      · have h := h.2 hc9
        refine gd_aload_n (pc := 12) X 0 dX5_countInState_12 rfl ?_
        refine gd_getR (pc := 13) (kf := 1) X ci5 (by decide) rfl tw_89 dX5_countInState_13 hk1 ?_
        refine gd_iload_n (pc := 16) X 3 dX5_countInState_16 rfl ?_
        obtain ⟨hk2, h⟩ := h
        obtain ⟨hi3, h⟩ := h
        refine gd_aald (pc := 17) (t := 5) X rfl rfl (by decide) (by decide) dX5_countInState_17 hk2 hi3 ?_
        refine gd_topR (fun r4 hr4 => ?_)
        have h := h r4 hr4
        refine gd_astore (pc := 18) X dX5_countInState_18 (by decide) (E2 := [(4, rf r4), (0, rf l0), (1, .int l1), (2, .int l2), (3, .int l3)]) rfl ?_
        refine gd_aload (pc := 20) X 0 dX5_countInState_20 rfl ?_
        refine gd_ifnull (pc := 22) X 37 dX5_countInState_22 (by decide) (fun hc8 => ?_) (fun hc8 => ?_)
        · have h := h.1 hc8
          refine gd_sub [1, 2, 3, 4, 0] rfl ?_
          exact g37 _ ih _ _ _ _ _ _ h
        · have h := h.2 hc8
          refine gd_aload (pc := 25) X 0 dX5_countInState_25 rfl ?_
          obtain ⟨hk5, h⟩ := h
          refine gd_getI (pc := 27) (kf := 8) X ci4 (by decide) rfl tw_363 dX5_countInState_27 hk5 ?_
          refine gd_iload_n (pc := 30) X 2 dX5_countInState_30 rfl ?_
          refine gd_icmp_ne (pc := 31) X 37 dX5_countInState_31 (by decide) (fun hc7 => ?_) (fun hc7 => ?_)
          · have h := h.1 hc7
            refine gd_sub [1, 2, 3, 4, 0] rfl ?_
            exact g37 _ ih _ _ _ _ _ _ h
          · have h := h.2 hc7
            obtain ⟨v6, hv6⟩ : ∃ z : Int32, z = l2 + 1 := ⟨_, rfl⟩
            have h := h v6 hv6
            refine gd_iinc (pc := 34) (v := v6) X 3 dX5_countInState_34 rfl (by rw [hv6]; rfl) (by decide) (E2 := [(2, .int v6), (4, rf r4), (0, rf l0), (1, .int l1), (3, .int l3)]) rfl ?_
            refine gd_sub [2, 3, 0, 4, 1] rfl ?_
            exact g37 _ ih _ _ _ _ _ _ h
  intro h
  refine gd_iconst (pc := 0) X (0) dX5_countInState_0 (by decide) ?_
  refine gd_istore_n (pc := 1) X dX5_countInState_1 (by decide) (E2 := [(2, .int 0), (0, rf a0), (1, .int a1)]) rfl ?_
  refine gd_iconst (pc := 2) X (0) dX5_countInState_2 (by decide) ?_
  refine gd_istore_n (pc := 3) X dX5_countInState_3 (by decide) (E2 := [(3, .int 0), (2, .int 0), (0, rf a0), (1, .int a1)]) rfl ?_
  refine gd_sub [2, 3, 1, 0] rfl ?_
  obtain ⟨f4, h⟩ := h
  exact g4 f4 _ _ _ _ _ h
abbrev rm_X5_configure : Room := { frames := 6, cells := 1, slots := 6, locals := 100 }
def b_X5_configure_27 (post : MS → Prop) (xp : String → MS → Prop) (S : MS) (l0 : Nat) (l1 : Int32) (l2 : Int32) (l3 : Int32) : Prop := xp "java/lang/IllegalArgumentException" S
def w_X5_configure (S : MS) (a0 : Nat) (a1 : Int32) (a2 : Int32) (a3 : Int32) (post : MS → Prop) (xp : String → MS → Prop) : Prop := w_X5_isBetween S a1 0 1 (fun r2 S1 => ((r2 = 0 → b_X5_configure_27 post xp S1 a0 a1 a2 a3) ∧ (¬ r2 = 0 → w_X5_isBetween S1 a2 0 2 (fun r4 S3 => ((r4 = 0 → b_X5_configure_27 post xp S3 a0 a1 a2 a3) ∧ (¬ r4 = 0 → w_X5_isBetween S3 a3 1 5 (fun r6 S5 => ((¬ r6 = 0 → kT S5 a0 = 6 ∧ w_X5_countInState S5 a0 0 (fun r9 S8 => ((r9 ≤ 0 → kT S8 a0 = 6 ∧ ∀ S11 : MS, S11 = pI S8 a0 8 a1 → ∀ S13 : MS, S13 = pI S11 a0 9 a2 → ∀ S15 : MS, S15 = pI S13 a0 10 a3 → post S15) ∧ (¬ r9 ≤ 0 → xp "java/lang/IllegalStateException" S8)))) ∧ (r6 = 0 → b_X5_configure_27 post xp S5 a0 a1 a2 a3)))))))))
set_option maxHeartbeats 4000000 in
set_option maxRecDepth 100000 in
theorem ct_X5_configure (l : Launch) (hfl : l.stackTraces = false) (G : GP) (S : MS) (a0 : Nat) (a1 : Int32) (a2 : Int32) (a3 : Int32) (post : MS → Prop) (xp : String → MS → Prop) (h : w_X5_configure S a0 a1 a2 a3 post xp) : MetX l yX5_configure cX5_configure 4 none rm_X5_configure [rf a0, .int a1, .int a2, .int a3] G S (pV_ post) xp := by
  refine metX_of (by decide) (cat1_r (cat1_i (cat1_i (cat1_i cat1_n)))) (Nat.le_of_ble_eq_true rfl) ?_
  intro p e s m args below meth c X hr hlk ht
  revert h
  have g27 : ∀ (S : MS) (l0 : Nat) (l1 : Int32) (l2 : Int32) (l3 : Int32), b_X5_configure_27 post xp S l0 l1 l2 l3 → Gd p l e rm_X5_configure s m args below meth c 4 G (vx_MQ below (QcM G (pV_ post)) (XcM G xp) args s rm_X5_configure.cells rm_X5_configure.slots (Ab G)) 0 0 S 27 [(0, rf l0), (1, .int l1), (2, .int l2), (3, .int l3)] [] := by
    intro S l0 l1 l2 l3 h
    exact gd_throw (pc := 27) hfl X hlk ht th_2 dX5_configure_27 dX5_configure_30 dX5_configure_31 dX5_configure_33 dX5_configure_36 (by decide) (by decide) (by decide) (by decide) h
  intro h
  refine gd_iload_n (pc := 0) X 1 dX5_configure_0 rfl ?_
  refine gd_iconst (pc := 1) X (0) dX5_configure_1 (by decide) ?_
  refine gd_iconst (pc := 2) X (1) dX5_configure_2 (by decide) ?_
  refine gd_callS (pc := 3) (As := [.int a1, .int 0, .int 1]) (rest := []) X (ct_X5_isBetween l G S a1 0 1 _ h) mw_X5_isBetween tw_231 ⟨(Nat.le_of_ble_eq_true rfl), (Nat.le_of_ble_eq_true rfl)⟩ rfl rfl (Nat.le_of_ble_eq_true rfl) dX5_configure_3 ⟨Nat.le_of_ble_eq_true rfl, Nat.le_of_ble_eq_true rfl⟩ (kI (fun r2 S1 h => ?_))
  refine gd_wide (k2 := 0) (j2 := 0) (Nat.le_of_ble_eq_true rfl) (Nat.le_of_ble_eq_true rfl) ?_
  refine gd_if_eq (pc := 6) X 27 dX5_configure_6 (by decide) (fun hc20 => ?_) (fun hc20 => ?_)
  · have h := h.1 hc20
    exact g27 _ _ _ _ _ h
  · have h := h.2 hc20
    refine gd_iload_n (pc := 9) X 2 dX5_configure_9 rfl ?_
    refine gd_iconst (pc := 10) X (0) dX5_configure_10 (by decide) ?_
    refine gd_iconst (pc := 11) X (2) dX5_configure_11 (by decide) ?_
    refine gd_callS (pc := 12) (As := [.int a2, .int 0, .int 2]) (rest := []) X (ct_X5_isBetween l G S1 a2 0 2 _ h) mw_X5_isBetween tw_231 ⟨(Nat.le_of_ble_eq_true rfl), (Nat.le_of_ble_eq_true rfl)⟩ rfl rfl (Nat.le_of_ble_eq_true rfl) dX5_configure_12 ⟨Nat.le_of_ble_eq_true rfl, Nat.le_of_ble_eq_true rfl⟩ (kI (fun r4 S3 h => ?_))
    refine gd_wide (k2 := 0) (j2 := 0) (Nat.le_of_ble_eq_true rfl) (Nat.le_of_ble_eq_true rfl) ?_
    refine gd_if_eq (pc := 15) X 27 dX5_configure_15 (by decide) (fun hc19 => ?_) (fun hc19 => ?_)
    · have h := h.1 hc19
      exact g27 _ _ _ _ _ h
    · have h := h.2 hc19
      refine gd_iload_n (pc := 18) X 3 dX5_configure_18 rfl ?_
      refine gd_iconst (pc := 19) X (1) dX5_configure_19 (by decide) ?_
      refine gd_iconst (pc := 20) X (5) dX5_configure_20 (by decide) ?_
      refine gd_callS (pc := 21) (As := [.int a3, .int 1, .int 5]) (rest := []) X (ct_X5_isBetween l G S3 a3 1 5 _ h) mw_X5_isBetween tw_231 ⟨(Nat.le_of_ble_eq_true rfl), (Nat.le_of_ble_eq_true rfl)⟩ rfl rfl (Nat.le_of_ble_eq_true rfl) dX5_configure_21 ⟨Nat.le_of_ble_eq_true rfl, Nat.le_of_ble_eq_true rfl⟩ (kI (fun r6 S5 h => ?_))
      refine gd_wide (k2 := 0) (j2 := 0) (Nat.le_of_ble_eq_true rfl) (Nat.le_of_ble_eq_true rfl) ?_
      refine gd_if_ne (pc := 24) X 37 dX5_configure_24 (by decide) (fun hc18 => ?_) (fun hc18 => ?_)
      · have h := h.1 hc18
        refine gd_aload_n (pc := 37) X 0 dX5_configure_37 rfl ?_
        refine gd_iconst (pc := 38) X (0) dX5_configure_38 (by decide) ?_
        obtain ⟨hk7, h⟩ := h
        refine gd_callV (pc := 39) (As := [.int 0]) (rest := []) X (ct_X5_countInState l G S5 a0 0 _ h) mw_X5_countInState tw_137 ci5 rfl hk7 ⟨(Nat.le_of_ble_eq_true rfl), (Nat.le_of_ble_eq_true rfl)⟩ rfl rfl (Nat.le_of_ble_eq_true rfl) dX5_configure_39 ⟨Nat.le_of_ble_eq_true rfl, Nat.le_of_ble_eq_true rfl⟩ (kI (fun r9 S8 h => ?_))
        refine gd_wide (k2 := 0) (j2 := 0) (Nat.le_of_ble_eq_true rfl) (Nat.le_of_ble_eq_true rfl) ?_
        refine gd_if_le (pc := 42) X 55 dX5_configure_42 (by decide) (fun hc17 => ?_) (fun hc17 => ?_)
        · have h := h.1 hc17
          refine gd_aload_n (pc := 55) X 0 dX5_configure_55 rfl ?_
          refine gd_iload_n (pc := 56) X 1 dX5_configure_56 rfl ?_
          obtain ⟨hk10, h⟩ := h
          refine gd_putI (pc := 57) (kf := 8) X ci5 (by decide) rfl rfl tw_96 rfl rfl dX5_configure_57 hk10 ?_
          refine gd_topS (fun S11 hS11 => ?_)
          have h := h S11 hS11
          have hk12 : kT S11 a0 = 6 := by rw [hS11]; exact hk10
          refine gd_aload_n (pc := 60) X 0 dX5_configure_60 rfl ?_
          refine gd_iload_n (pc := 61) X 2 dX5_configure_61 rfl ?_
          refine gd_putI (pc := 62) (kf := 9) X ci5 (by decide) rfl rfl tw_97 rfl rfl dX5_configure_62 hk12 ?_
          refine gd_topS (fun S13 hS13 => ?_)
          have h := h S13 hS13
          have hk14 : kT S13 a0 = 6 := by rw [hS13]; exact hk12
          refine gd_aload_n (pc := 65) X 0 dX5_configure_65 rfl ?_
          refine gd_iload_n (pc := 66) X 3 dX5_configure_66 rfl ?_
          refine gd_putI (pc := 67) (kf := 10) X ci5 (by decide) rfl rfl tw_98 rfl rfl dX5_configure_67 hk14 ?_
          refine gd_topS (fun S15 hS15 => ?_)
          have h := h S15 hS15
          have hk16 : kT S15 a0 = 6 := by rw [hS15]; exact hk14
          exact gd_x (gd_ret_v (pc := 70) X hr hlk (by decide) (by decide) dX5_configure_70 ⟨rfl, h⟩)
        · have h := h.2 hc17
          exact gd_throw (pc := 45) hfl X hlk ht th_0 dX5_configure_45 dX5_configure_48 dX5_configure_49 dX5_configure_51 dX5_configure_54 (by decide) (by decide) (by decide) (by decide) h
      · have h := h.2 hc18
        exact g27 _ _ _ _ _ h
abbrev rm_X5_canStart : Room := { frames := 1, cells := 0, slots := 0, locals := 24 }
def b_X5_canStart_24 (post : Int32 → MS → Prop) (S : MS) (l0 : Nat) (s0 : Int32) : Prop := narrow .boolean (.int s0) = .int s0 ∧ post s0 S
def b_X5_canStart_23 (post : Int32 → MS → Prop) (S : MS) (l0 : Nat) : Prop := b_X5_canStart_24 post S l0 0
def w_X5_canStart (S : MS) (a0 : Nat) (post : Int32 → MS → Prop) : Prop := kT S a0 = 6 ∧ ((80 ≤ (sI S a0 6) → b_X5_canStart_23 post S a0) ∧ (¬ 80 ≤ (sI S a0 6) → w_X5_countInState S a0 0 (fun r3 S2 => ((6 ≤ r3 → b_X5_canStart_23 post S2 a0) ∧ (¬ 6 ≤ r3 → b_X5_canStart_24 post S2 a0 1)))))
set_option maxHeartbeats 4000000 in
set_option maxRecDepth 100000 in
theorem ct_X5_canStart (l : Launch) (G : GP) (S : MS) (a0 : Nat) (post : Int32 → MS → Prop) (h : w_X5_canStart S a0 post) : MetM l yX5_canStart cX5_canStart 1 (some .boolean) rm_X5_canStart [rf a0] G S (pI_ post) := by
  refine met_of (by decide) (cat1_r cat1_n) (Nat.le_of_ble_eq_true rfl) ?_
  intro p e s m args below meth c X hr hlk hin
  revert h
  have g24 : ∀ (S : MS) (l0 : Nat) (s0 : Int32), b_X5_canStart_24 post S l0 s0 → Gd p l e rm_X5_canStart s m args below meth c 1 G (MQ below (QcM G (pI_ post)) args s rm_X5_canStart.cells rm_X5_canStart.slots (Ab G)) 0 0 S 24 [(0, rf l0)] [.int s0] := by
    intro S l0 s0 h
    obtain ⟨hnz, h⟩ := h
    exact (gd_ret_i (pc := 24) X hr hlk hnz (by decide) (by decide) dX5_canStart_24 ⟨_, rfl, h⟩)
  have g23 : ∀ (S : MS) (l0 : Nat), b_X5_canStart_23 post S l0 → Gd p l e rm_X5_canStart s m args below meth c 1 G (MQ below (QcM G (pI_ post)) args s rm_X5_canStart.cells rm_X5_canStart.slots (Ab G)) 0 0 S 23 [(0, rf l0)] [] := by
    intro S l0 h
    refine gd_iconst (pc := 23) X (0) dX5_canStart_23 (by decide) ?_
    exact g24 _ _ _ h
  intro h
  refine gd_aload_n (pc := 0) X 0 dX5_canStart_0 rfl ?_
  obtain ⟨hk1, h⟩ := h
  refine gd_getI (pc := 1) (kf := 6) X ci5 (by decide) rfl tw_94 dX5_canStart_1 hk1 ?_
  refine gd_bipush (pc := 4) X (80) dX5_canStart_4 (by decide) ?_
  refine gd_icmp_ge (pc := 6) X 23 dX5_canStart_6 (by decide) (fun hc5 => ?_) (fun hc5 => ?_)
  · have h := h.1 hc5
    exact g23 _ _ h
  · have h := h.2 hc5
    refine gd_aload_n (pc := 9) X 0 dX5_canStart_9 rfl ?_
    refine gd_iconst (pc := 10) X (0) dX5_canStart_10 (by decide) ?_
    refine gd_callV (pc := 11) (As := [.int 0]) (rest := []) X (ct_X5_countInState l G S a0 0 _ h) mw_X5_countInState tw_137 ci5 rfl hk1 ⟨(Nat.le_of_ble_eq_true rfl), (Nat.le_of_ble_eq_true rfl)⟩ rfl rfl (Nat.le_of_ble_eq_true rfl) dX5_canStart_11 ⟨Nat.le_of_ble_eq_true rfl, Nat.le_of_ble_eq_true rfl⟩ (kI (fun r3 S2 h => ?_))
    refine gd_wide (k2 := 0) (j2 := 0) (Nat.le_of_ble_eq_true rfl) (Nat.le_of_ble_eq_true rfl) ?_
    refine gd_bipush (pc := 14) X (6) dX5_canStart_14 (by decide) ?_
    refine gd_icmp_ge (pc := 16) X 23 dX5_canStart_16 (by decide) (fun hc4 => ?_) (fun hc4 => ?_)
    · have h := h.1 hc4
      exact g23 _ _ h
    · have h := h.2 hc4
      refine gd_iconst (pc := 19) X (1) dX5_canStart_19 (by decide) ?_
      refine gd_goto (pc := 20) X 24 dX5_canStart_20 (by decide) ?_
      exact g24 _ _ _ h
abbrev rm_X5_start : Room := { frames := 2, cells := 4, slots := 100, locals := 42 }
def b_X5_start_66 (post : Nat → MS → Prop) (S : MS) (l0 : Nat) (l1 : Int32) (l2 : Nat) : Prop := post l2 S
def b_X5_start_42 (post : Nat → MS → Prop) (S : MS) (l0 : Nat) (l1 : Int32) (l2 : Nat) : Prop := kT S l0 = 6 ∧ ((¬ (sI S l0 11) = ((-1)) → b_X5_start_66 post S l0 l1 l2) ∧ ((sI S l0 11) = ((-1)) → ((l1 ≤ (sI S l0 10) → b_X5_start_66 post S l0 l1 l2) ∧ (¬ l1 ≤ (sI S l0 10) → kT S l2 = 5 ∧ ∀ S3 : MS, S3 = pI S l0 11 (sI S l2 0) → b_X5_start_66 post S3 l0 l1 l2))))
def w_X5_start (S : MS) (a0 : Nat) (a1 : Int32) (post : Nat → MS → Prop) : Prop := ∀ q1 : Nat, kT S q1 = 0 → ¬ q1 = 0 → ∀ S2 : MS, S2 = nw S q1 5 0 → kT S2 a0 = 6 ∧ w_X4_init S2 q1 (sI S2 a0 6) a1 (fun S5 => kT S5 a0 = 6 ∧ ((80 ≤ (sI S5 a0 6) → b_X5_start_42 post S5 a0 a1 q1) ∧ (¬ 80 ≤ (sI S5 a0 6) → kT S5 (sR S5 a0 1) = 13 ∧ kT S5 q1 = 5 ∧ vp_in (sI S5 a0 6) (kL S5 (sR S5 a0 1)) ∧ ∀ S11 : MS, S11 = pR S5 (sR S5 a0 1) (ix (sI S5 a0 6)) q1 → ∀ S15 : MS, S15 = pI S11 a0 6 ((sI S11 a0 6) + 1) → b_X5_start_42 post S15 a0 a1 q1)))
set_option maxHeartbeats 4000000 in
set_option maxRecDepth 100000 in
theorem ct_X5_start (l : Launch) (G : GP) (S : MS) (a0 : Nat) (a1 : Int32) (post : Nat → MS → Prop) (h : w_X5_start S a0 a1 post) : MetM l yX5_start cX5_start 3 (some (.object "OptimisticStore$Transaction")) rm_X5_start [rf a0, .int a1] G S (pR_ post) := by
  refine met_of (by decide) (cat1_r (cat1_i cat1_n)) (Nat.le_of_ble_eq_true rfl) ?_
  intro p e s m args below meth c X hr hlk hin
  revert h
  have g66 : ∀ (S : MS) (l0 : Nat) (l1 : Int32) (l2 : Nat), b_X5_start_66 post S l0 l1 l2 → Gd p l e rm_X5_start s m args below meth c 3 G (MQ below (QcM G (pR_ post)) args s rm_X5_start.cells rm_X5_start.slots (Ab G)) 4 100 S 66 [(0, rf l0), (1, .int l1), (2, rf l2)] [] := by
    intro S l0 l1 l2 h
    refine gd_aload_n (pc := 66) X 2 dX5_start_66 rfl ?_
    exact (gd_ret_a (pc := 67) X hr (Or.inl ⟨_, rfl⟩) hlk (by decide) (by decide) dX5_start_67 ⟨_, rfl, h⟩)
  have g42 : ∀ (S : MS) (l0 : Nat) (l1 : Int32) (l2 : Nat), b_X5_start_42 post S l0 l1 l2 → Gd p l e rm_X5_start s m args below meth c 3 G (MQ below (QcM G (pR_ post)) args s rm_X5_start.cells rm_X5_start.slots (Ab G)) 4 100 S 42 [(0, rf l0), (1, .int l1), (2, rf l2)] [] := by
    intro S l0 l1 l2 h
    refine gd_aload_n (pc := 42) X 0 dX5_start_42 rfl ?_
    obtain ⟨hk1, h⟩ := h
    refine gd_getI (pc := 43) (kf := 11) X ci5 (by decide) rfl tw_99 dX5_start_43 hk1 ?_
    refine gd_iconst (pc := 46) X (-1) dX5_start_46 (by decide) ?_
    refine gd_icmp_ne (pc := 47) X 66 dX5_start_47 (by decide) (fun hc7 => ?_) (fun hc7 => ?_)
    · have h := h.1 hc7
      exact g66 _ _ _ _ h
    · have h := h.2 hc7
      refine gd_iload_n (pc := 50) X 1 dX5_start_50 rfl ?_
      refine gd_aload_n (pc := 51) X 0 dX5_start_51 rfl ?_
      refine gd_getI (pc := 52) (kf := 10) X ci5 (by decide) rfl tw_98 dX5_start_52 hk1 ?_
      refine gd_icmp_le (pc := 55) X 66 dX5_start_55 (by decide) (fun hc6 => ?_) (fun hc6 => ?_)
      · have h := h.1 hc6
        exact g66 _ _ _ _ h
      · have h := h.2 hc6
        refine gd_aload_n (pc := 58) X 0 dX5_start_58 rfl ?_
        refine gd_aload_n (pc := 59) X 2 dX5_start_59 rfl ?_
        obtain ⟨hk2, h⟩ := h
        refine gd_getI (pc := 60) (kf := 0) X ci4 (by decide) rfl tw_344 dX5_start_60 hk2 ?_
        refine gd_putI (pc := 63) (kf := 11) X ci5 (by decide) rfl rfl tw_99 rfl rfl dX5_start_63 hk1 ?_
        refine gd_topS (fun S3 hS3 => ?_)
        have h := h S3 hS3
        have hk4 : kT S3 l0 = 6 := by rw [hS3]; exact hk1
        have hk5 : kT S3 l2 = 5 := by rw [hS3]; exact hk2
        exact g66 _ _ _ _ h
  intro h
  refine gd_new (pc := 0) X ci4 tw_54 tw_337 tw_11 (by decide +kernel) dX5_start_0 ⟨Nat.le_of_ble_eq_true rfl, Nat.le_of_ble_eq_true rfl⟩ (fun q1 hzq1 hnq1 => ?_)
  have h := h q1 hzq1 hnq1
  refine gd_wide (k2 := 1) (j2 := 12) (Nat.le_of_ble_eq_true rfl) (Nat.le_of_ble_eq_true rfl) ?_
  refine gd_topS (fun S2 hS2 => ?_)
  have h := h S2 hS2
  have hk3 : kT S2 q1 = 5 := by rw [hS2]; exact kT_nw _ _ _ _
  refine gd_dupR (pc := 3) X dX5_start_3 ?_
  refine gd_aload_n (pc := 4) X 0 dX5_start_4 rfl ?_
  obtain ⟨hk4, h⟩ := h
  refine gd_getI (pc := 5) (kf := 6) X ci5 (by decide) rfl tw_94 dX5_start_5 hk4 ?_
  refine gd_iload_n (pc := 8) X 1 dX5_start_8 rfl ?_
  refine gd_callI (pc := 9) (As := [.int (sI S2 a0 6), .int a1]) (rest := [rf q1]) X (ct_X4_init l G S2 q1 (sI S2 a0 6) a1 _ h) mw_X4_init tw_338 (by rw [hk3]; decide) ⟨(Nat.le_of_ble_eq_true rfl), (Nat.le_of_ble_eq_true rfl)⟩ rfl rfl (Nat.le_of_ble_eq_true rfl) dX5_start_9 ⟨Nat.le_of_ble_eq_true rfl, Nat.le_of_ble_eq_true rfl⟩ (kV (fun S5 h => ?_))
  refine gd_wide (k2 := 4) (j2 := 100) (Nat.le_of_ble_eq_true rfl) (Nat.le_of_ble_eq_true rfl) ?_
  refine gd_astore_n (pc := 12) X dX5_start_12 (by decide) (E2 := [(2, rf q1), (0, rf a0), (1, .int a1)]) rfl ?_
  refine gd_aload_n (pc := 13) X 1 dX5_start_13 rfl ?_
  obtain ⟨hk7, h⟩ := h
  refine gd_getI (pc := 14) (kf := 6) X ci5 (by decide) rfl tw_94 dX5_start_14 hk7 ?_
  refine gd_bipush (pc := 17) X (80) dX5_start_17 (by decide) ?_
  refine gd_icmp_ge (pc := 19) X 42 dX5_start_19 (by decide) (fun hc19 => ?_) (fun hc19 => ?_)
  · have h := h.1 hc19
    refine gd_sub [1, 2, 0] rfl ?_
    exact g42 _ _ _ _ h
  · have h := h.2 hc19
    refine gd_aload_n (pc := 22) X 1 dX5_start_22 rfl ?_
    refine gd_getR (pc := 23) (kf := 1) X ci5 (by decide) rfl tw_89 dX5_start_23 hk7 ?_
    refine gd_aload_n (pc := 26) X 1 dX5_start_26 rfl ?_
    refine gd_getI (pc := 27) (kf := 6) X ci5 (by decide) rfl tw_94 dX5_start_27 hk7 ?_
    refine gd_aload_n (pc := 30) X 0 dX5_start_30 rfl ?_
    obtain ⟨hk8, h⟩ := h
    obtain ⟨hk9, h⟩ := h
    obtain ⟨hi10, h⟩ := h
    refine gd_aast (pc := 31) (t := 5) X ci4 rfl (by decide) (by decide) dX5_start_31 hk8 hk9 hi10 ?_
    refine gd_topS (fun S11 hS11 => ?_)
    have h := h S11 hS11
    have hk12 : kT S11 a0 = 6 := by rw [hS11]; exact hk7
    have hk13 : kT S11 (sR S5 a0 1) = 13 := by rw [hS11]; exact hk8
    have hk14 : kT S11 q1 = 5 := by rw [hS11]; exact hk9
    refine gd_aload_n (pc := 32) X 1 dX5_start_32 rfl ?_
    refine gd_dupR (pc := 33) X dX5_start_33 ?_
    refine gd_getI (pc := 34) (kf := 6) X ci5 (by decide) rfl tw_94 dX5_start_34 hk12 ?_
    refine gd_iconst (pc := 37) X (1) dX5_start_37 (by decide) ?_
    refine gd_iadd (pc := 38) X dX5_start_38 ?_
    refine gd_putI (pc := 39) (kf := 6) X ci5 (by decide) rfl rfl tw_94 rfl rfl dX5_start_39 hk12 ?_
    refine gd_topS (fun S15 hS15 => ?_)
    have h := h S15 hS15
    have hk16 : kT S15 a0 = 6 := by rw [hS15]; exact hk12
    have hk17 : kT S15 (sR S5 a0 1) = 13 := by rw [hS15]; exact hk13
    have hk18 : kT S15 q1 = 5 := by rw [hS15]; exact hk14
    refine gd_sub [1, 2, 0] rfl ?_
    exact g42 _ _ _ _ h
abbrev rm_X5_begin : Room := { frames := 6, cells := 4, slots := 100, locals := 100 }
def w_X5_begin (S : MS) (a0 : Nat) (post : Int32 → MS → Prop) (xp : String → MS → Prop) : Prop := kT S a0 = 6 ∧ w_X5_canStart S a0 (fun r3 S2 => ((¬ r3 = 0 → kT S2 a0 = 6 ∧ w_X5_start S2 a0 1 (fun r6 S5 => kT S5 r6 = 5 ∧ post (sI S5 r6 0) S5)) ∧ (r3 = 0 → xp "java/lang/IllegalStateException" S2)))
set_option maxHeartbeats 4000000 in
set_option maxRecDepth 100000 in
theorem ct_X5_begin (l : Launch) (hfl : l.stackTraces = false) (G : GP) (S : MS) (a0 : Nat) (post : Int32 → MS → Prop) (xp : String → MS → Prop) (h : w_X5_begin S a0 post xp) : MetX l yX5_begin cX5_begin 1 (some .int) rm_X5_begin [rf a0] G S (pI_ post) xp := by
  refine metX_of (by decide) (cat1_r cat1_n) (Nat.le_of_ble_eq_true rfl) ?_
  intro p e s m args below meth c X hr hlk ht
  refine gd_aload_n (pc := 0) X 0 dX5_begin_0 rfl ?_
  obtain ⟨hk1, h⟩ := h
  refine gd_callV (pc := 1) (As := []) (rest := []) X (ct_X5_canStart l G S a0 _ h) mw_X5_canStart tw_328 ci5 rfl hk1 ⟨(Nat.le_of_ble_eq_true rfl), (Nat.le_of_ble_eq_true rfl)⟩ rfl rfl (Nat.le_of_ble_eq_true rfl) dX5_begin_1 ⟨Nat.le_of_ble_eq_true rfl, Nat.le_of_ble_eq_true rfl⟩ (kI (fun r3 S2 h => ?_))
  refine gd_wide (k2 := 0) (j2 := 0) (Nat.le_of_ble_eq_true rfl) (Nat.le_of_ble_eq_true rfl) ?_
  refine gd_if_ne (pc := 4) X 17 dX5_begin_4 (by decide) (fun hc8 => ?_) (fun hc8 => ?_)
  · have h := h.1 hc8
    refine gd_aload_n (pc := 17) X 0 dX5_begin_17 rfl ?_
    refine gd_iconst (pc := 18) X (1) dX5_begin_18 (by decide) ?_
    obtain ⟨hk4, h⟩ := h
    refine gd_callV (pc := 19) (As := [.int 1]) (rest := []) X (ct_X5_start l G S2 a0 1 _ h) mw_X5_start tw_333 ci5 rfl hk4 ⟨(Nat.le_of_ble_eq_true rfl), (Nat.le_of_ble_eq_true rfl)⟩ rfl rfl (Nat.le_of_ble_eq_true rfl) dX5_begin_19 ⟨Nat.le_of_ble_eq_true rfl, Nat.le_of_ble_eq_true rfl⟩ (kR (fun r6 S5 h => ?_))
    refine gd_wide (k2 := 4) (j2 := 100) (Nat.le_of_ble_eq_true rfl) (Nat.le_of_ble_eq_true rfl) ?_
    obtain ⟨hk7, h⟩ := h
    refine gd_getI (pc := 22) (kf := 0) X ci4 (by decide) rfl tw_344 dX5_begin_22 hk7 ?_
    exact gd_x (gd_ret_i (pc := 25) X hr hlk rfl (by decide) (by decide) dX5_begin_25 ⟨_, rfl, h⟩)
  · have h := h.2 hc8
    exact gd_throw (pc := 7) hfl X hlk ht th_4 dX5_begin_7 dX5_begin_10 dX5_begin_11 dX5_begin_13 dX5_begin_16 (by decide) (by decide) (by decide) (by decide) h
abbrev rm_X5_find : Room := { frames := 6, cells := 1, slots := 6, locals := 100 }
def b_X5_find_22 (post : Nat → MS → Prop) (xp : String → MS → Prop) (S : MS) (l0 : Nat) (l1 : Int32) (s0 : Nat) : Prop := ((¬ s0 = 0 → post s0 S) ∧ (s0 = 0 → xp "java/lang/IndexOutOfBoundsException" S))
def b_X5_find_21 (post : Nat → MS → Prop) (xp : String → MS → Prop) (S : MS) (l0 : Nat) (l1 : Int32) : Prop := b_X5_find_22 post xp S l0 l1 0
def w_X5_find (S : MS) (a0 : Nat) (a1 : Int32) (post : Nat → MS → Prop) (xp : String → MS → Prop) : Prop := ((a1 < 0 → b_X5_find_21 post xp S a0 a1) ∧ (¬ a1 < 0 → kT S a0 = 6 ∧ (((sI S a0 6) ≤ a1 → b_X5_find_21 post xp S a0 a1) ∧ (¬ (sI S a0 6) ≤ a1 → kT S (sR S a0 1) = 13 ∧ vp_in a1 (kL S (sR S a0 1)) ∧ b_X5_find_22 post xp S a0 a1 (sR S (sR S a0 1) (ix a1))))))
set_option maxHeartbeats 4000000 in
set_option maxRecDepth 100000 in
theorem ct_X5_find (l : Launch) (hfl : l.stackTraces = false) (G : GP) (S : MS) (a0 : Nat) (a1 : Int32) (post : Nat → MS → Prop) (xp : String → MS → Prop) (h : w_X5_find S a0 a1 post xp) : MetX l yX5_find cX5_find 3 (some (.object "OptimisticStore$Transaction")) rm_X5_find [rf a0, .int a1] G S (pR_ post) xp := by
  refine metX_of (by decide) (cat1_r (cat1_i cat1_n)) (Nat.le_of_ble_eq_true rfl) ?_
  intro p e s m args below meth c X hr hlk ht
  revert h
  have g22 : ∀ (S : MS) (l0 : Nat) (l1 : Int32) (s0 : Nat), b_X5_find_22 post xp S l0 l1 s0 → Gd p l e rm_X5_find s m args below meth c 3 G (vx_MQ below (QcM G (pR_ post)) (XcM G xp) args s rm_X5_find.cells rm_X5_find.slots (Ab G)) 0 0 S 22 [(0, rf l0), (1, .int l1)] [rf s0] := by
    intro S l0 l1 s0 h
    refine gd_astore_n (pc := 22) X dX5_find_22 (by decide) (E2 := [(2, rf s0), (0, rf l0), (1, .int l1)]) rfl ?_
    refine gd_aload_n (pc := 23) X 0 dX5_find_23 rfl ?_
    refine gd_ifnonnull (pc := 24) X 38 dX5_find_24 (by decide) (fun hc1 => ?_) (fun hc1 => ?_)
    · have h := h.1 hc1
      refine gd_aload_n (pc := 38) X 0 dX5_find_38 rfl ?_
      exact gd_x (gd_ret_a (pc := 39) X hr (Or.inl ⟨_, rfl⟩) hlk (by decide) (by decide) dX5_find_39 ⟨_, rfl, h⟩)
    · have h := h.2 hc1
      exact gd_throwW (pc := 27) hfl X hlk ht th_5 dX5_find_27 dX5_find_30 dX5_find_31 dX5_find_34 dX5_find_37 (by decide) (by decide) (by decide) (by decide) h
  have g21 : ∀ (S : MS) (l0 : Nat) (l1 : Int32), b_X5_find_21 post xp S l0 l1 → Gd p l e rm_X5_find s m args below meth c 3 G (vx_MQ below (QcM G (pR_ post)) (XcM G xp) args s rm_X5_find.cells rm_X5_find.slots (Ab G)) 0 0 S 21 [(0, rf l0), (1, .int l1)] [] := by
    intro S l0 l1 h
    refine gd_null (pc := 21) X dX5_find_21 ?_
    exact g22 _ _ _ _ h
  intro h
  refine gd_iload_n (pc := 0) X 1 dX5_find_0 rfl ?_
  refine gd_if_lt (pc := 1) X 21 dX5_find_1 (by decide) (fun hc5 => ?_) (fun hc5 => ?_)
  · have h := h.1 hc5
    exact g21 _ _ _ h
  · have h := h.2 hc5
    refine gd_iload_n (pc := 4) X 1 dX5_find_4 rfl ?_
    refine gd_aload_n (pc := 5) X 0 dX5_find_5 rfl ?_
    obtain ⟨hk1, h⟩ := h
    refine gd_getI (pc := 6) (kf := 6) X ci5 (by decide) rfl tw_94 dX5_find_6 hk1 ?_
    refine gd_icmp_ge (pc := 9) X 21 dX5_find_9 (by decide) (fun hc4 => ?_) (fun hc4 => ?_)
    · have h := h.1 hc4
      exact g21 _ _ _ h
    · have h := h.2 hc4
      refine gd_aload_n (pc := 12) X 0 dX5_find_12 rfl ?_
      refine gd_getR (pc := 13) (kf := 1) X ci5 (by decide) rfl tw_89 dX5_find_13 hk1 ?_
      refine gd_iload_n (pc := 16) X 1 dX5_find_16 rfl ?_
      obtain ⟨hk2, h⟩ := h
      obtain ⟨hi3, h⟩ := h
      refine gd_aald (pc := 17) (t := 5) X rfl rfl (by decide) (by decide) dX5_find_17 hk2 hi3 ?_
      refine gd_goto (pc := 18) X 22 dX5_find_18 (by decide) ?_
      exact g22 _ _ _ _ h
abbrev rm_X5_retry : Room := { frames := 7, cells := 5, slots := 106, locals := 122 }
def b_X5_retry_28 (post : Int32 → MS → Prop) (xp : String → MS → Prop) (S : MS) (l0 : Nat) (l1 : Int32) (l2 : Nat) : Prop := xp "java/lang/IllegalStateException" S
def w_X5_retry (S : MS) (a0 : Nat) (a1 : Int32) (post : Int32 → MS → Prop) (xp : String → MS → Prop) : Prop := kT S a0 = 6 ∧ w_X5_find S a0 a1 (fun r3 S2 => kT S2 r3 = 5 ∧ ((¬ (sI S2 r3 8) = 2 → b_X5_retry_28 post xp S2 a0 a1 r3) ∧ ((sI S2 r3 8) = 2 → ((¬ (sI S2 r3 11) = 0 → b_X5_retry_28 post xp S2 a0 a1 r3) ∧ ((sI S2 r3 11) = 0 → kT S2 a0 = 6 ∧ w_X5_canStart S2 a0 (fun r7 S6 => ((¬ r7 = 0 → kT S6 r3 = 5 ∧ ∀ S9 : MS, S9 = pI S6 r3 11 1 → kT S9 a0 = 6 ∧ w_X5_start S9 a0 ((sI S9 r3 1) + 1) (fun r13 S12 => kT S12 r13 = 5 ∧ post (sI S12 r13 0) S12)) ∧ (r7 = 0 → b_X5_retry_28 post xp S6 a0 a1 r3)))))))) xp
set_option maxHeartbeats 4000000 in
set_option maxRecDepth 100000 in
theorem ct_X5_retry (l : Launch) (hfl : l.stackTraces = false) (G : GP) (S : MS) (a0 : Nat) (a1 : Int32) (post : Int32 → MS → Prop) (xp : String → MS → Prop) (h : w_X5_retry S a0 a1 post xp) : MetX l yX5_retry cX5_retry 3 (some .int) rm_X5_retry [rf a0, .int a1] G S (pI_ post) xp := by
  refine metX_of (by decide) (cat1_r (cat1_i cat1_n)) (Nat.le_of_ble_eq_true rfl) ?_
  intro p e s m args below meth c X hr hlk ht
  revert h
  have g28 : ∀ (S : MS) (l0 : Nat) (l1 : Int32) (l2 : Nat), b_X5_retry_28 post xp S l0 l1 l2 → Gd p l e rm_X5_retry s m args below meth c 3 G (vx_MQ below (QcM G (pI_ post)) (XcM G xp) args s rm_X5_retry.cells rm_X5_retry.slots (Ab G)) 1 6 S 28 [(0, rf l0), (1, .int l1), (2, rf l2)] [] := by
    intro S l0 l1 l2 h
    exact gd_throw (pc := 28) hfl X hlk ht th_7 dX5_retry_28 dX5_retry_31 dX5_retry_32 dX5_retry_34 dX5_retry_37 (by decide) (by decide) (by decide) (by decide) h
  intro h
  refine gd_aload_n (pc := 0) X 0 dX5_retry_0 rfl ?_
  refine gd_iload_n (pc := 1) X 1 dX5_retry_1 rfl ?_
  obtain ⟨hk1, h⟩ := h
  refine gd_callVX (pc := 2) (As := [.int a1]) (rest := []) X (ct_X5_find l hfl G S a0 a1 _ _ h) mw_X5_find tw_426 ci5 rfl hk1 ⟨(Nat.le_of_ble_eq_true rfl), (Nat.le_of_ble_eq_true rfl)⟩ rfl rfl (Nat.le_of_ble_eq_true rfl) dX5_retry_2 ⟨Nat.le_of_ble_eq_true rfl, Nat.le_of_ble_eq_true rfl⟩ (kR (fun r3 S2 h => ?_)) (fun Ex S9 hE hx H1 locs1 la q ce h1 h2 h3 h4 h5 h6 => gd_xout hlk ht (Nat.le_of_ble_eq_true rfl) (Nat.le_of_ble_eq_true rfl) hE hx h1 h2 h4 h5 h6)
  refine gd_wide (k2 := 1) (j2 := 6) (Nat.le_of_ble_eq_true rfl) (Nat.le_of_ble_eq_true rfl) ?_
  refine gd_astore_n (pc := 5) X dX5_retry_5 (by decide) (E2 := [(2, rf r3), (0, rf a0), (1, .int a1)]) rfl ?_
  refine gd_aload_n (pc := 6) X 0 dX5_retry_6 rfl ?_
  obtain ⟨hk4, h⟩ := h
  refine gd_getI (pc := 7) (kf := 8) X ci4 (by decide) rfl tw_363 dX5_retry_7 hk4 ?_
  refine gd_iconst (pc := 10) X (2) dX5_retry_10 (by decide) ?_
  refine gd_icmp_ne (pc := 11) X 28 dX5_retry_11 (by decide) (fun hc17 => ?_) (fun hc17 => ?_)
  · have h := h.1 hc17
    refine gd_sub [1, 2, 0] rfl ?_
    exact g28 _ _ _ _ h
  · have h := h.2 hc17
    refine gd_aload_n (pc := 14) X 0 dX5_retry_14 rfl ?_
    refine gd_getI (pc := 15) (kf := 11) X ci4 (by decide) rfl tw_369 dX5_retry_15 hk4 ?_
    refine gd_if_ne (pc := 18) X 28 dX5_retry_18 (by decide) (fun hc16 => ?_) (fun hc16 => ?_)
    · have h := h.1 hc16
      refine gd_sub [1, 2, 0] rfl ?_
      exact g28 _ _ _ _ h
    · have h := h.2 hc16
      refine gd_aload_n (pc := 21) X 1 dX5_retry_21 rfl ?_
      obtain ⟨hk5, h⟩ := h
      refine gd_callV (pc := 22) (As := []) (rest := []) X (ct_X5_canStart l G S2 a0 _ h) mw_X5_canStart tw_328 ci5 rfl hk5 ⟨(Nat.le_of_ble_eq_true rfl), (Nat.le_of_ble_eq_true rfl)⟩ rfl rfl (Nat.le_of_ble_eq_true rfl) dX5_retry_22 ⟨Nat.le_of_ble_eq_true rfl, Nat.le_of_ble_eq_true rfl⟩ (kI (fun r7 S6 h => ?_))
      refine gd_wide (k2 := 1) (j2 := 6) (Nat.le_of_ble_eq_true rfl) (Nat.le_of_ble_eq_true rfl) ?_
      refine gd_if_ne (pc := 25) X 38 dX5_retry_25 (by decide) (fun hc15 => ?_) (fun hc15 => ?_)
      · have h := h.1 hc15
        refine gd_aload_n (pc := 38) X 0 dX5_retry_38 rfl ?_
        refine gd_iconst (pc := 39) X (1) dX5_retry_39 (by decide) ?_
        obtain ⟨hk8, h⟩ := h
        refine gd_putI (pc := 40) (kf := 11) X ci4 (by decide) rfl rfl tw_369 rfl rfl dX5_retry_40 hk8 ?_
        refine gd_topS (fun S9 hS9 => ?_)
        have h := h S9 hS9
        have hk10 : kT S9 r3 = 5 := by rw [hS9]; exact hk8
        refine gd_aload_n (pc := 43) X 1 dX5_retry_43 rfl ?_
        refine gd_aload_n (pc := 44) X 0 dX5_retry_44 rfl ?_
        refine gd_getI (pc := 45) (kf := 1) X ci4 (by decide) rfl tw_346 dX5_retry_45 hk10 ?_
        refine gd_iconst (pc := 48) X (1) dX5_retry_48 (by decide) ?_
        refine gd_iadd (pc := 49) X dX5_retry_49 ?_
        obtain ⟨hk11, h⟩ := h
        refine gd_callV (pc := 50) (As := [.int ((sI S9 r3 1) + 1)]) (rest := []) X (ct_X5_start l G S9 a0 ((sI S9 r3 1) + 1) _ h) mw_X5_start tw_333 ci5 rfl hk11 ⟨(Nat.le_of_ble_eq_true rfl), (Nat.le_of_ble_eq_true rfl)⟩ rfl rfl (Nat.le_of_ble_eq_true rfl) dX5_retry_50 ⟨Nat.le_of_ble_eq_true rfl, Nat.le_of_ble_eq_true rfl⟩ (kR (fun r13 S12 h => ?_))
        refine gd_wide (k2 := 5) (j2 := 106) (Nat.le_of_ble_eq_true rfl) (Nat.le_of_ble_eq_true rfl) ?_
        obtain ⟨hk14, h⟩ := h
        refine gd_getI (pc := 53) (kf := 0) X ci4 (by decide) rfl tw_344 dX5_retry_53 hk14 ?_
        exact gd_x (gd_ret_i (pc := 56) X hr hlk rfl (by decide) (by decide) dX5_retry_56 ⟨_, rfl, h⟩)
      · have h := h.2 hc15
        refine gd_sub [1, 2, 0] rfl ?_
        exact g28 _ _ _ _ h
abbrev rm_X5_viewOf : Room := { frames := 2, cells := 0, slots := 0, locals := 100 }
def w_X5_viewOf (S : MS) (a0 : Nat) (a1 : Nat) (post : Nat → MS → Prop) : Prop := kT S a0 = 6 ∧ kT S (sR S a0 0) = 2 ∧ w_X1_newest S (sR S a0 0) (fun r4 S3 => kT S3 a0 = 6 ∧ kT S3 r4 = 9 ∧ kT S3 (sR S3 a0 4) = 9 ∧ ix 0 + ix 32 ≤ kL S3 r4 ∧ ix 0 + ix 32 ≤ kL S3 (sR S3 a0 4) ∧ ∀ S10 : MS, S10 = cpI S3 r4 (sR S3 a0 4) 32 → kT S10 a1 = 5 ∧ w_X4_applyWrites S10 a1 (sR S10 a0 4) (fun S15 => kT S15 a0 = 6 ∧ post (sR S15 a0 4) S15))
set_option maxHeartbeats 4000000 in
set_option maxRecDepth 100000 in
theorem ct_X5_viewOf (l : Launch) (G : GP) (S : MS) (a0 : Nat) (a1 : Nat) (post : Nat → MS → Prop) (h : w_X5_viewOf S a0 a1 post) : MetM l yX5_viewOf cX5_viewOf 2 (some (.array .int)) rm_X5_viewOf [rf a0, rf a1] G S (pR_ post) := by
  refine met_of (by decide) (cat1_r (cat1_r cat1_n)) (Nat.le_of_ble_eq_true rfl) ?_
  intro p e s m args below meth c X hr hlk hin
  refine gd_aload_n (pc := 0) X 0 dX5_viewOf_0 rfl ?_
  obtain ⟨hk1, h⟩ := h
  refine gd_getR (pc := 1) (kf := 0) X ci5 (by decide) rfl tw_88 dX5_viewOf_1 hk1 ?_
  obtain ⟨hk2, h⟩ := h
  refine gd_callV (pc := 4) (As := []) (rest := []) X (ct_X1_newest l G S (sR S a0 0) _ h) mw_X1_newest tw_499 ci1 rfl hk2 ⟨(Nat.le_of_ble_eq_true rfl), (Nat.le_of_ble_eq_true rfl)⟩ rfl rfl (Nat.le_of_ble_eq_true rfl) dX5_viewOf_4 ⟨Nat.le_of_ble_eq_true rfl, Nat.le_of_ble_eq_true rfl⟩ (kR (fun r4 S3 h => ?_))
  refine gd_wide (k2 := 0) (j2 := 0) (Nat.le_of_ble_eq_true rfl) (Nat.le_of_ble_eq_true rfl) ?_
  refine gd_iconst (pc := 7) X (0) dX5_viewOf_7 (by decide) ?_
  refine gd_aload_n (pc := 8) X 0 dX5_viewOf_8 rfl ?_
  obtain ⟨hk5, h⟩ := h
  refine gd_getR (pc := 9) (kf := 4) X ci5 (by decide) rfl tw_92 dX5_viewOf_9 hk5 ?_
  refine gd_iconst (pc := 12) X (0) dX5_viewOf_12 (by decide) ?_
  refine gd_bipush (pc := 13) X (32) dX5_viewOf_13 (by decide) ?_
  obtain ⟨hk6, h⟩ := h
  obtain ⟨hk7, h⟩ := h
  obtain ⟨hi8, hi9, h⟩ := h
  refine gd_copy (pc := 15) X tw_193 tw_195 tw_194 tw_16 dX5_viewOf_15 hk6 hk7 (by decide) (by decide) (by decide) hi8 hi9 ⟨(Nat.le_of_ble_eq_true rfl), (Nat.le_of_ble_eq_true rfl)⟩ (Nat.le_of_ble_eq_true rfl) ?_
  refine gd_topS (fun S10 hS10 => ?_)
  have h := h S10 hS10
  have hk11 : kT S10 a0 = 6 := by rw [hS10]; exact hk5
  have hk12 : kT S10 r4 = 9 := by rw [hS10]; exact hk6
  have hk13 : kT S10 (sR S3 a0 4) = 9 := by rw [hS10]; exact hk7
  refine gd_aload_n (pc := 18) X 1 dX5_viewOf_18 rfl ?_
  refine gd_aload_n (pc := 19) X 0 dX5_viewOf_19 rfl ?_
  refine gd_getR (pc := 20) (kf := 4) X ci5 (by decide) rfl tw_92 dX5_viewOf_20 hk11 ?_
  obtain ⟨hk14, h⟩ := h
  refine gd_callV (pc := 23) (As := [rf (sR S10 a0 4)]) (rest := []) X (ct_X4_applyWrites l G S10 a1 (sR S10 a0 4) _ h) mw_X4_applyWrites tw_503 ci4 rfl hk14 ⟨(Nat.le_of_ble_eq_true rfl), (Nat.le_of_ble_eq_true rfl)⟩ rfl rfl (Nat.le_of_ble_eq_true rfl) dX5_viewOf_23 ⟨Nat.le_of_ble_eq_true rfl, Nat.le_of_ble_eq_true rfl⟩ (kV (fun S15 h => ?_))
  refine gd_wide (k2 := 0) (j2 := 0) (Nat.le_of_ble_eq_true rfl) (Nat.le_of_ble_eq_true rfl) ?_
  refine gd_aload_n (pc := 26) X 0 dX5_viewOf_26 rfl ?_
  obtain ⟨hk17, h⟩ := h
  refine gd_getR (pc := 27) (kf := 4) X ci5 (by decide) rfl tw_92 dX5_viewOf_27 hk17 ?_
  exact (gd_ret_a (pc := 30) X hr (Or.inr ⟨_, rfl⟩) hlk (by decide) (by decide) dX5_viewOf_30 ⟨_, rfl, h⟩)
abbrev rm_X5_perform : Room := { frames := 3, cells := 0, slots := 0, locals := 121 }
def w_X5_perform (S : MS) (a0 : Nat) (a1 : Nat) (a2 : Nat) (post : Int32 → MS → Prop) : Prop := kT S a0 = 6 ∧ w_X5_viewOf S a0 a1 (fun r3 S2 => kT S2 a2 = 3 ∧ w_X2_carryOut S2 a2 r3 (fun r6 S5 => kT S5 a0 = 6 ∧ kT S5 (sR S5 a0 0) = 2 ∧ kT S5 a1 = 5 ∧ w_X4_keep S5 a1 a2 (sI S5 (sR S5 a0 0) 2) r6 (fun S10 => post r6 S10)))
set_option maxHeartbeats 4000000 in
set_option maxRecDepth 100000 in
theorem ct_X5_perform (l : Launch) (G : GP) (S : MS) (a0 : Nat) (a1 : Nat) (a2 : Nat) (post : Int32 → MS → Prop) (h : w_X5_perform S a0 a1 a2 post) : MetM l yX5_perform cX5_perform 4 (some .int) rm_X5_perform [rf a0, rf a1, rf a2] G S (pI_ post) := by
  refine met_of (by decide) (cat1_r (cat1_r (cat1_r cat1_n))) (Nat.le_of_ble_eq_true rfl) ?_
  intro p e s m args below meth c X hr hlk hin
  refine gd_aload_n (pc := 0) X 2 dX5_perform_0 rfl ?_
  refine gd_aload_n (pc := 1) X 0 dX5_perform_1 rfl ?_
  refine gd_aload_n (pc := 2) X 1 dX5_perform_2 rfl ?_
  obtain ⟨hk1, h⟩ := h
  refine gd_callV (pc := 3) (As := [rf a1]) (rest := [rf a2]) X (ct_X5_viewOf l G S a0 a1 _ h) mw_X5_viewOf tw_495 ci5 rfl hk1 ⟨(Nat.le_of_ble_eq_true rfl), (Nat.le_of_ble_eq_true rfl)⟩ rfl rfl (Nat.le_of_ble_eq_true rfl) dX5_perform_3 ⟨Nat.le_of_ble_eq_true rfl, Nat.le_of_ble_eq_true rfl⟩ (kR (fun r3 S2 h => ?_))
  refine gd_wide (k2 := 0) (j2 := 0) (Nat.le_of_ble_eq_true rfl) (Nat.le_of_ble_eq_true rfl) ?_
  obtain ⟨hk4, h⟩ := h
  refine gd_callV (pc := 6) (As := [rf r3]) (rest := []) X (ct_X2_carryOut l G S2 a2 r3 _ h) mw_X2_carryOut tw_532 ci2 rfl hk4 ⟨(Nat.le_of_ble_eq_true rfl), (Nat.le_of_ble_eq_true rfl)⟩ rfl rfl (Nat.le_of_ble_eq_true rfl) dX5_perform_6 ⟨Nat.le_of_ble_eq_true rfl, Nat.le_of_ble_eq_true rfl⟩ (kI (fun r6 S5 h => ?_))
  refine gd_wide (k2 := 0) (j2 := 0) (Nat.le_of_ble_eq_true rfl) (Nat.le_of_ble_eq_true rfl) ?_
  refine gd_istore_n (pc := 9) X dX5_perform_9 (by decide) (E2 := [(3, .int r6), (0, rf a0), (1, rf a1), (2, rf a2)]) (by simp [rf_cat, lv1, int_cat] <;> decide) ?_
  refine gd_aload_n (pc := 10) X 2 dX5_perform_10 rfl ?_
  refine gd_aload_n (pc := 11) X 3 dX5_perform_11 rfl ?_
  refine gd_aload_n (pc := 12) X 1 dX5_perform_12 rfl ?_
  obtain ⟨hk7, h⟩ := h
  refine gd_getR (pc := 13) (kf := 0) X ci5 (by decide) rfl tw_88 dX5_perform_13 hk7 ?_
  obtain ⟨hk8, h⟩ := h
  refine gd_getI (pc := 16) (kf := 2) X ci1 (by decide) rfl tw_45 dX5_perform_16 hk8 ?_
  refine gd_iload_n (pc := 19) X 0 dX5_perform_19 rfl ?_
  obtain ⟨hk9, h⟩ := h
  refine gd_callV (pc := 20) (As := [rf a2, .int (sI S5 (sR S5 a0 0) 2), .int r6]) (rest := []) X (ct_X4_keep l G S5 a1 a2 (sI S5 (sR S5 a0 0) 2) r6 _ h) mw_X4_keep tw_533 ci4 rfl hk9 ⟨(Nat.le_of_ble_eq_true rfl), (Nat.le_of_ble_eq_true rfl)⟩ rfl rfl (Nat.le_of_ble_eq_true rfl) dX5_perform_20 ⟨Nat.le_of_ble_eq_true rfl, Nat.le_of_ble_eq_true rfl⟩ (kV (fun S10 h => ?_))
  refine gd_wide (k2 := 0) (j2 := 0) (Nat.le_of_ble_eq_true rfl) (Nat.le_of_ble_eq_true rfl) ?_
  refine gd_iload_n (pc := 23) X 0 dX5_perform_23 rfl ?_
  exact (gd_ret_i (pc := 24) X hr hlk rfl (by decide) (by decide) dX5_perform_24 ⟨_, rfl, h⟩)
abbrev rm_X5_operate : Room := { frames := 7, cells := 2, slots := 12, locals := 144 }
def w_X5_operate (S : MS) (a0 : Nat) (a1 : Int32) (a2 : Nat) (post : Int32 → MS → Prop) (xp : String → MS → Prop) : Prop := kT S a0 = 6 ∧ w_X5_find S a0 a1 (fun r3 S2 => kT S2 a2 = 3 ∧ w_X2_isWellFormed S2 a2 (fun r6 S5 => ((¬ r6 = 0 → kT S5 r3 = 5 ∧ w_X4_canOperate S5 r3 (fun r9 S8 => ((¬ r9 = 0 → kT S8 a0 = 6 ∧ w_X5_viewOf S8 a0 r3 (fun r12 S11 => kT S11 a2 = 3 ∧ w_X2_staysInRange S11 a2 r12 (fun r15 S14 => ((¬ r15 = 0 → kT S14 a0 = 6 ∧ w_X5_perform S14 a0 r3 a2 (fun r18 S17 => post r18 S17)) ∧ (r15 = 0 → xp "java/lang/ArithmeticException" S14))))) ∧ (r9 = 0 → xp "java/lang/IllegalStateException" S8)))) ∧ (r6 = 0 → xp "java/lang/IllegalArgumentException" S5)))) xp
set_option maxHeartbeats 4000000 in
set_option maxRecDepth 100000 in
theorem ct_X5_operate (l : Launch) (hfl : l.stackTraces = false) (G : GP) (S : MS) (a0 : Nat) (a1 : Int32) (a2 : Nat) (post : Int32 → MS → Prop) (xp : String → MS → Prop) (h : w_X5_operate S a0 a1 a2 post xp) : MetX l yX5_operate cX5_operate 4 (some .int) rm_X5_operate [rf a0, .int a1, rf a2] G S (pI_ post) xp := by
  refine metX_of (by decide) (cat1_r (cat1_i (cat1_r cat1_n))) (Nat.le_of_ble_eq_true rfl) ?_
  intro p e s m args below meth c X hr hlk ht
  refine gd_aload_n (pc := 0) X 0 dX5_operate_0 rfl ?_
  refine gd_iload_n (pc := 1) X 1 dX5_operate_1 rfl ?_
  obtain ⟨hk1, h⟩ := h
  refine gd_callVX (pc := 2) (As := [.int a1]) (rest := []) X (ct_X5_find l hfl G S a0 a1 _ _ h) mw_X5_find tw_426 ci5 rfl hk1 ⟨(Nat.le_of_ble_eq_true rfl), (Nat.le_of_ble_eq_true rfl)⟩ rfl rfl (Nat.le_of_ble_eq_true rfl) dX5_operate_2 ⟨Nat.le_of_ble_eq_true rfl, Nat.le_of_ble_eq_true rfl⟩ (kR (fun r3 S2 h => ?_)) (fun Ex S9 hE hx H1 locs1 la q ce h1 h2 h3 h4 h5 h6 => gd_xout hlk ht (Nat.le_of_ble_eq_true rfl) (Nat.le_of_ble_eq_true rfl) hE hx h1 h2 h4 h5 h6)
  refine gd_wide (k2 := 1) (j2 := 6) (Nat.le_of_ble_eq_true rfl) (Nat.le_of_ble_eq_true rfl) ?_
  refine gd_astore_n (pc := 5) X dX5_operate_5 (by decide) (E2 := [(3, rf r3), (0, rf a0), (1, .int a1), (2, rf a2)]) (by simp [rf_cat, lv1, int_cat] <;> decide) ?_
  refine gd_aload_n (pc := 6) X 3 dX5_operate_6 rfl ?_
  obtain ⟨hk4, h⟩ := h
  refine gd_callV (pc := 7) (As := []) (rest := []) X (ct_X2_isWellFormed l G S2 a2 _ h) mw_X2_isWellFormed tw_481 ci2 rfl hk4 ⟨(Nat.le_of_ble_eq_true rfl), (Nat.le_of_ble_eq_true rfl)⟩ rfl rfl (Nat.le_of_ble_eq_true rfl) dX5_operate_7 ⟨Nat.le_of_ble_eq_true rfl, Nat.le_of_ble_eq_true rfl⟩ (kI (fun r6 S5 h => ?_))
  refine gd_wide (k2 := 1) (j2 := 6) (Nat.le_of_ble_eq_true rfl) (Nat.le_of_ble_eq_true rfl) ?_
  refine gd_if_ne (pc := 10) X 24 dX5_operate_10 (by decide) (fun hc21 => ?_) (fun hc21 => ?_)
  · have h := h.1 hc21
    refine gd_aload_n (pc := 24) X 0 dX5_operate_24 rfl ?_
    obtain ⟨hk7, h⟩ := h
    refine gd_callV (pc := 25) (As := []) (rest := []) X (ct_X4_canOperate l G S5 r3 _ h) mw_X4_canOperate tw_490 ci4 rfl hk7 ⟨(Nat.le_of_ble_eq_true rfl), (Nat.le_of_ble_eq_true rfl)⟩ rfl rfl (Nat.le_of_ble_eq_true rfl) dX5_operate_25 ⟨Nat.le_of_ble_eq_true rfl, Nat.le_of_ble_eq_true rfl⟩ (kI (fun r9 S8 h => ?_))
    refine gd_wide (k2 := 1) (j2 := 6) (Nat.le_of_ble_eq_true rfl) (Nat.le_of_ble_eq_true rfl) ?_
    refine gd_if_ne (pc := 28) X 42 dX5_operate_28 (by decide) (fun hc20 => ?_) (fun hc20 => ?_)
    · have h := h.1 hc20
      refine gd_aload_n (pc := 42) X 3 dX5_operate_42 rfl ?_
      refine gd_aload_n (pc := 43) X 1 dX5_operate_43 rfl ?_
      refine gd_aload_n (pc := 44) X 0 dX5_operate_44 rfl ?_
      obtain ⟨hk10, h⟩ := h
      refine gd_callV (pc := 45) (As := [rf r3]) (rest := [rf a2]) X (ct_X5_viewOf l G S8 a0 r3 _ h) mw_X5_viewOf tw_495 ci5 rfl hk10 ⟨(Nat.le_of_ble_eq_true rfl), (Nat.le_of_ble_eq_true rfl)⟩ rfl rfl (Nat.le_of_ble_eq_true rfl) dX5_operate_45 ⟨Nat.le_of_ble_eq_true rfl, Nat.le_of_ble_eq_true rfl⟩ (kR (fun r12 S11 h => ?_))
      refine gd_wide (k2 := 1) (j2 := 6) (Nat.le_of_ble_eq_true rfl) (Nat.le_of_ble_eq_true rfl) ?_
      obtain ⟨hk13, h⟩ := h
      refine gd_callV (pc := 48) (As := [rf r12]) (rest := []) X (ct_X2_staysInRange l G S11 a2 r12 _ h) mw_X2_staysInRange tw_508 ci2 rfl hk13 ⟨(Nat.le_of_ble_eq_true rfl), (Nat.le_of_ble_eq_true rfl)⟩ rfl rfl (Nat.le_of_ble_eq_true rfl) dX5_operate_48 ⟨Nat.le_of_ble_eq_true rfl, Nat.le_of_ble_eq_true rfl⟩ (kI (fun r15 S14 h => ?_))
      refine gd_wide (k2 := 1) (j2 := 6) (Nat.le_of_ble_eq_true rfl) (Nat.le_of_ble_eq_true rfl) ?_
      refine gd_if_ne (pc := 51) X 65 dX5_operate_51 (by decide) (fun hc19 => ?_) (fun hc19 => ?_)
      · have h := h.1 hc19
        refine gd_aload_n (pc := 65) X 1 dX5_operate_65 rfl ?_
        refine gd_aload_n (pc := 66) X 0 dX5_operate_66 rfl ?_
        refine gd_aload_n (pc := 67) X 3 dX5_operate_67 rfl ?_
        obtain ⟨hk16, h⟩ := h
        refine gd_callV (pc := 68) (As := [rf r3, rf a2]) (rest := []) X (ct_X5_perform l G S14 a0 r3 a2 _ h) mw_X5_perform tw_528 ci5 rfl hk16 ⟨(Nat.le_of_ble_eq_true rfl), (Nat.le_of_ble_eq_true rfl)⟩ rfl rfl (Nat.le_of_ble_eq_true rfl) dX5_operate_68 ⟨Nat.le_of_ble_eq_true rfl, Nat.le_of_ble_eq_true rfl⟩ (kI (fun r18 S17 h => ?_))
        refine gd_wide (k2 := 1) (j2 := 6) (Nat.le_of_ble_eq_true rfl) (Nat.le_of_ble_eq_true rfl) ?_
        exact gd_x (gd_ret_i (pc := 71) X hr hlk rfl (by decide) (by decide) dX5_operate_71 ⟨_, rfl, h⟩)
      · have h := h.2 hc19
        exact gd_throwW (pc := 54) hfl X hlk ht th_8 dX5_operate_54 dX5_operate_57 dX5_operate_58 dX5_operate_61 dX5_operate_64 (by decide) (by decide) (by decide) (by decide) h
    · have h := h.2 hc20
      exact gd_throwW (pc := 31) hfl X hlk ht th_10 dX5_operate_31 dX5_operate_34 dX5_operate_35 dX5_operate_38 dX5_operate_41 (by decide) (by decide) (by decide) (by decide) h
  · have h := h.2 hc21
    exact gd_throwW (pc := 13) hfl X hlk ht th_11 dX5_operate_13 dX5_operate_16 dX5_operate_17 dX5_operate_20 dX5_operate_23 (by decide) (by decide) (by decide) (by decide) h
abbrev rm_X5_read : Room := { frames := 8, cells := 3, slots := 18, locals := 167 }
def w_X5_read (S : MS) (a0 : Nat) (a1 : Int32) (a2 : Int32) (post : Int32 → MS → Prop) (xp : String → MS → Prop) : Prop := ∀ q1 : Nat, kT S q1 = 0 → ¬ q1 = 0 → ∀ S2 : MS, S2 = nw S q1 3 0 → w_X2_init S2 q1 0 a2 a2 0 (fun S4 => kT S4 a0 = 6 ∧ w_X5_operate S4 a0 a1 q1 (fun r8 S7 => post r8 S7) xp)
set_option maxHeartbeats 4000000 in
set_option maxRecDepth 100000 in
theorem ct_X5_read (l : Launch) (hfl : l.stackTraces = false) (G : GP) (S : MS) (a0 : Nat) (a1 : Int32) (a2 : Int32) (post : Int32 → MS → Prop) (xp : String → MS → Prop) (h : w_X5_read S a0 a1 a2 post xp) : MetX l yX5_read cX5_read 3 (some .int) rm_X5_read [rf a0, .int a1, .int a2] G S (pI_ post) xp := by
  refine metX_of (by decide) (cat1_r (cat1_i (cat1_i cat1_n))) (Nat.le_of_ble_eq_true rfl) ?_
  intro p e s m args below meth c X hr hlk ht
  refine gd_aload_n (pc := 0) X 0 dX5_read_0 rfl ?_
  refine gd_iload_n (pc := 1) X 1 dX5_read_1 rfl ?_
  refine gd_new (pc := 2) X ci2 tw_451 tw_176 tw_15 (by decide +kernel) dX5_read_2 ⟨Nat.le_of_ble_eq_true rfl, Nat.le_of_ble_eq_true rfl⟩ (fun q1 hzq1 hnq1 => ?_)
  have h := h q1 hzq1 hnq1
  refine gd_wide (k2 := 1) (j2 := 6) (Nat.le_of_ble_eq_true rfl) (Nat.le_of_ble_eq_true rfl) ?_
  refine gd_topS (fun S2 hS2 => ?_)
  have h := h S2 hS2
  have hk3 : kT S2 q1 = 3 := by rw [hS2]; exact kT_nw _ _ _ _
  refine gd_dupR (pc := 5) X dX5_read_5 ?_
  refine gd_iconst (pc := 6) X (0) dX5_read_6 (by decide) ?_
  refine gd_iload_n (pc := 7) X 2 dX5_read_7 rfl ?_
  refine gd_iload_n (pc := 8) X 2 dX5_read_8 rfl ?_
  refine gd_iconst (pc := 9) X (0) dX5_read_9 (by decide) ?_
  refine gd_callI (pc := 10) (As := [.int 0, .int a2, .int a2, .int 0]) (rest := [rf q1, .int a1, rf a0]) X (ct_X2_init l G S2 q1 0 a2 a2 0 _ h) mw_X2_init tw_452 (by rw [hk3]; decide) ⟨(Nat.le_of_ble_eq_true rfl), (Nat.le_of_ble_eq_true rfl)⟩ rfl rfl (Nat.le_of_ble_eq_true rfl) dX5_read_10 ⟨Nat.le_of_ble_eq_true rfl, Nat.le_of_ble_eq_true rfl⟩ (kV (fun S4 h => ?_))
  refine gd_wide (k2 := 1) (j2 := 6) (Nat.le_of_ble_eq_true rfl) (Nat.le_of_ble_eq_true rfl) ?_
  obtain ⟨hk6, h⟩ := h
  refine gd_callVX (pc := 13) (As := [.int a1, rf q1]) (rest := []) X (ct_X5_operate l hfl G S4 a0 a1 q1 _ _ h) mw_X5_operate tw_477 ci5 rfl hk6 ⟨(Nat.le_of_ble_eq_true rfl), (Nat.le_of_ble_eq_true rfl)⟩ rfl rfl (Nat.le_of_ble_eq_true rfl) dX5_read_13 ⟨Nat.le_of_ble_eq_true rfl, Nat.le_of_ble_eq_true rfl⟩ (kI (fun r8 S7 h => ?_)) (fun Ex S9 hE hx H1 locs1 la q ce h1 h2 h3 h4 h5 h6 => gd_xout hlk ht (Nat.le_of_ble_eq_true rfl) (Nat.le_of_ble_eq_true rfl) hE hx h1 h2 h4 h5 h6)
  refine gd_wide (k2 := 3) (j2 := 18) (Nat.le_of_ble_eq_true rfl) (Nat.le_of_ble_eq_true rfl) ?_
  exact gd_x (gd_ret_i (pc := 16) X hr hlk rfl (by decide) (by decide) dX5_read_16 ⟨_, rfl, h⟩)
abbrev rm_X5_scan : Room := { frames := 8, cells := 3, slots := 18, locals := 167 }
def w_X5_scan (S : MS) (a0 : Nat) (a1 : Int32) (a2 : Int32) (a3 : Int32) (a4 : Int32) (post : Int32 → MS → Prop) (xp : String → MS → Prop) : Prop := ∀ q1 : Nat, kT S q1 = 0 → ¬ q1 = 0 → ∀ S2 : MS, S2 = nw S q1 3 0 → w_X2_init S2 q1 1 a2 a3 a4 (fun S4 => kT S4 a0 = 6 ∧ w_X5_operate S4 a0 a1 q1 (fun r8 S7 => post r8 S7) xp)
set_option maxHeartbeats 4000000 in
set_option maxRecDepth 100000 in
theorem ct_X5_scan (l : Launch) (hfl : l.stackTraces = false) (G : GP) (S : MS) (a0 : Nat) (a1 : Int32) (a2 : Int32) (a3 : Int32) (a4 : Int32) (post : Int32 → MS → Prop) (xp : String → MS → Prop) (h : w_X5_scan S a0 a1 a2 a3 a4 post xp) : MetX l yX5_scan cX5_scan 5 (some .int) rm_X5_scan [rf a0, .int a1, .int a2, .int a3, .int a4] G S (pI_ post) xp := by
  refine metX_of (by decide) (cat1_r (cat1_i (cat1_i (cat1_i (cat1_i cat1_n))))) (Nat.le_of_ble_eq_true rfl) ?_
  intro p e s m args below meth c X hr hlk ht
  refine gd_aload_n (pc := 0) X 0 dX5_scan_0 rfl ?_
  refine gd_iload_n (pc := 1) X 1 dX5_scan_1 rfl ?_
  refine gd_new (pc := 2) X ci2 tw_451 tw_176 tw_15 (by decide +kernel) dX5_scan_2 ⟨Nat.le_of_ble_eq_true rfl, Nat.le_of_ble_eq_true rfl⟩ (fun q1 hzq1 hnq1 => ?_)
  have h := h q1 hzq1 hnq1
  refine gd_wide (k2 := 1) (j2 := 6) (Nat.le_of_ble_eq_true rfl) (Nat.le_of_ble_eq_true rfl) ?_
  refine gd_topS (fun S2 hS2 => ?_)
  have h := h S2 hS2
  have hk3 : kT S2 q1 = 3 := by rw [hS2]; exact kT_nw _ _ _ _
  refine gd_dupR (pc := 5) X dX5_scan_5 ?_
  refine gd_iconst (pc := 6) X (1) dX5_scan_6 (by decide) ?_
  refine gd_iload_n (pc := 7) X 2 dX5_scan_7 rfl ?_
  refine gd_iload_n (pc := 8) X 3 dX5_scan_8 rfl ?_
  refine gd_iload (pc := 9) X 4 dX5_scan_9 rfl ?_
  refine gd_callI (pc := 11) (As := [.int 1, .int a2, .int a3, .int a4]) (rest := [rf q1, .int a1, rf a0]) X (ct_X2_init l G S2 q1 1 a2 a3 a4 _ h) mw_X2_init tw_452 (by rw [hk3]; decide) ⟨(Nat.le_of_ble_eq_true rfl), (Nat.le_of_ble_eq_true rfl)⟩ rfl rfl (Nat.le_of_ble_eq_true rfl) dX5_scan_11 ⟨Nat.le_of_ble_eq_true rfl, Nat.le_of_ble_eq_true rfl⟩ (kV (fun S4 h => ?_))
  refine gd_wide (k2 := 1) (j2 := 6) (Nat.le_of_ble_eq_true rfl) (Nat.le_of_ble_eq_true rfl) ?_
  obtain ⟨hk6, h⟩ := h
  refine gd_callVX (pc := 14) (As := [.int a1, rf q1]) (rest := []) X (ct_X5_operate l hfl G S4 a0 a1 q1 _ _ h) mw_X5_operate tw_477 ci5 rfl hk6 ⟨(Nat.le_of_ble_eq_true rfl), (Nat.le_of_ble_eq_true rfl)⟩ rfl rfl (Nat.le_of_ble_eq_true rfl) dX5_scan_14 ⟨Nat.le_of_ble_eq_true rfl, Nat.le_of_ble_eq_true rfl⟩ (kI (fun r8 S7 h => ?_)) (fun Ex S9 hE hx H1 locs1 la q ce h1 h2 h3 h4 h5 h6 => gd_xout hlk ht (Nat.le_of_ble_eq_true rfl) (Nat.le_of_ble_eq_true rfl) hE hx h1 h2 h4 h5 h6)
  refine gd_wide (k2 := 3) (j2 := 18) (Nat.le_of_ble_eq_true rfl) (Nat.le_of_ble_eq_true rfl) ?_
  exact gd_x (gd_ret_i (pc := 17) X hr hlk rfl (by decide) (by decide) dX5_scan_17 ⟨_, rfl, h⟩)
abbrev rm_X5_sum : Room := { frames := 8, cells := 3, slots := 18, locals := 167 }
def w_X5_sum (S : MS) (a0 : Nat) (a1 : Int32) (a2 : Int32) (a3 : Int32) (post : Int32 → MS → Prop) (xp : String → MS → Prop) : Prop := ∀ q1 : Nat, kT S q1 = 0 → ¬ q1 = 0 → ∀ S2 : MS, S2 = nw S q1 3 0 → w_X2_init S2 q1 2 a2 a3 ((-999)) (fun S4 => kT S4 a0 = 6 ∧ w_X5_operate S4 a0 a1 q1 (fun r8 S7 => post r8 S7) xp)
set_option maxHeartbeats 4000000 in
set_option maxRecDepth 100000 in
theorem ct_X5_sum (l : Launch) (hfl : l.stackTraces = false) (G : GP) (S : MS) (a0 : Nat) (a1 : Int32) (a2 : Int32) (a3 : Int32) (post : Int32 → MS → Prop) (xp : String → MS → Prop) (h : w_X5_sum S a0 a1 a2 a3 post xp) : MetX l yX5_sum cX5_sum 4 (some .int) rm_X5_sum [rf a0, .int a1, .int a2, .int a3] G S (pI_ post) xp := by
  refine metX_of (by decide) (cat1_r (cat1_i (cat1_i (cat1_i cat1_n)))) (Nat.le_of_ble_eq_true rfl) ?_
  intro p e s m args below meth c X hr hlk ht
  refine gd_aload_n (pc := 0) X 0 dX5_sum_0 rfl ?_
  refine gd_iload_n (pc := 1) X 1 dX5_sum_1 rfl ?_
  refine gd_new (pc := 2) X ci2 tw_451 tw_176 tw_15 (by decide +kernel) dX5_sum_2 ⟨Nat.le_of_ble_eq_true rfl, Nat.le_of_ble_eq_true rfl⟩ (fun q1 hzq1 hnq1 => ?_)
  have h := h q1 hzq1 hnq1
  refine gd_wide (k2 := 1) (j2 := 6) (Nat.le_of_ble_eq_true rfl) (Nat.le_of_ble_eq_true rfl) ?_
  refine gd_topS (fun S2 hS2 => ?_)
  have h := h S2 hS2
  have hk3 : kT S2 q1 = 3 := by rw [hS2]; exact kT_nw _ _ _ _
  refine gd_dupR (pc := 5) X dX5_sum_5 ?_
  refine gd_iconst (pc := 6) X (2) dX5_sum_6 (by decide) ?_
  refine gd_iload_n (pc := 7) X 2 dX5_sum_7 rfl ?_
  refine gd_iload_n (pc := 8) X 3 dX5_sum_8 rfl ?_
  refine gd_sipush (pc := 9) X (-999) dX5_sum_9 (by decide) ?_
  refine gd_callI (pc := 12) (As := [.int 2, .int a2, .int a3, .int ((-999))]) (rest := [rf q1, .int a1, rf a0]) X (ct_X2_init l G S2 q1 2 a2 a3 ((-999)) _ h) mw_X2_init tw_452 (by rw [hk3]; decide) ⟨(Nat.le_of_ble_eq_true rfl), (Nat.le_of_ble_eq_true rfl)⟩ rfl rfl (Nat.le_of_ble_eq_true rfl) dX5_sum_12 ⟨Nat.le_of_ble_eq_true rfl, Nat.le_of_ble_eq_true rfl⟩ (kV (fun S4 h => ?_))
  refine gd_wide (k2 := 1) (j2 := 6) (Nat.le_of_ble_eq_true rfl) (Nat.le_of_ble_eq_true rfl) ?_
  obtain ⟨hk6, h⟩ := h
  refine gd_callVX (pc := 15) (As := [.int a1, rf q1]) (rest := []) X (ct_X5_operate l hfl G S4 a0 a1 q1 _ _ h) mw_X5_operate tw_477 ci5 rfl hk6 ⟨(Nat.le_of_ble_eq_true rfl), (Nat.le_of_ble_eq_true rfl)⟩ rfl rfl (Nat.le_of_ble_eq_true rfl) dX5_sum_15 ⟨Nat.le_of_ble_eq_true rfl, Nat.le_of_ble_eq_true rfl⟩ (kI (fun r8 S7 h => ?_)) (fun Ex S9 hE hx H1 locs1 la q ce h1 h2 h3 h4 h5 h6 => gd_xout hlk ht (Nat.le_of_ble_eq_true rfl) (Nat.le_of_ble_eq_true rfl) hE hx h1 h2 h4 h5 h6)
  refine gd_wide (k2 := 3) (j2 := 18) (Nat.le_of_ble_eq_true rfl) (Nat.le_of_ble_eq_true rfl) ?_
  exact gd_x (gd_ret_i (pc := 18) X hr hlk rfl (by decide) (by decide) dX5_sum_18 ⟨_, rfl, h⟩)
abbrev rm_X5_write : Room := { frames := 8, cells := 3, slots := 18, locals := 167 }
def w_X5_write (S : MS) (a0 : Nat) (a1 : Int32) (a2 : Int32) (a3 : Int32) (post : MS → Prop) (xp : String → MS → Prop) : Prop := ∀ q1 : Nat, kT S q1 = 0 → ¬ q1 = 0 → ∀ S2 : MS, S2 = nw S q1 3 0 → w_X2_init S2 q1 3 a2 a2 a3 (fun S4 => kT S4 a0 = 6 ∧ w_X5_operate S4 a0 a1 q1 (fun r8 S7 => post S7) xp)
set_option maxHeartbeats 4000000 in
set_option maxRecDepth 100000 in
theorem ct_X5_write (l : Launch) (hfl : l.stackTraces = false) (G : GP) (S : MS) (a0 : Nat) (a1 : Int32) (a2 : Int32) (a3 : Int32) (post : MS → Prop) (xp : String → MS → Prop) (h : w_X5_write S a0 a1 a2 a3 post xp) : MetX l yX5_write cX5_write 4 none rm_X5_write [rf a0, .int a1, .int a2, .int a3] G S (pV_ post) xp := by
  refine metX_of (by decide) (cat1_r (cat1_i (cat1_i (cat1_i cat1_n)))) (Nat.le_of_ble_eq_true rfl) ?_
  intro p e s m args below meth c X hr hlk ht
  refine gd_aload_n (pc := 0) X 0 dX5_write_0 rfl ?_
  refine gd_iload_n (pc := 1) X 1 dX5_write_1 rfl ?_
  refine gd_new (pc := 2) X ci2 tw_451 tw_176 tw_15 (by decide +kernel) dX5_write_2 ⟨Nat.le_of_ble_eq_true rfl, Nat.le_of_ble_eq_true rfl⟩ (fun q1 hzq1 hnq1 => ?_)
  have h := h q1 hzq1 hnq1
  refine gd_wide (k2 := 1) (j2 := 6) (Nat.le_of_ble_eq_true rfl) (Nat.le_of_ble_eq_true rfl) ?_
  refine gd_topS (fun S2 hS2 => ?_)
  have h := h S2 hS2
  have hk3 : kT S2 q1 = 3 := by rw [hS2]; exact kT_nw _ _ _ _
  refine gd_dupR (pc := 5) X dX5_write_5 ?_
  refine gd_iconst (pc := 6) X (3) dX5_write_6 (by decide) ?_
  refine gd_iload_n (pc := 7) X 2 dX5_write_7 rfl ?_
  refine gd_iload_n (pc := 8) X 2 dX5_write_8 rfl ?_
  refine gd_iload_n (pc := 9) X 3 dX5_write_9 rfl ?_
  refine gd_callI (pc := 10) (As := [.int 3, .int a2, .int a2, .int a3]) (rest := [rf q1, .int a1, rf a0]) X (ct_X2_init l G S2 q1 3 a2 a2 a3 _ h) mw_X2_init tw_452 (by rw [hk3]; decide) ⟨(Nat.le_of_ble_eq_true rfl), (Nat.le_of_ble_eq_true rfl)⟩ rfl rfl (Nat.le_of_ble_eq_true rfl) dX5_write_10 ⟨Nat.le_of_ble_eq_true rfl, Nat.le_of_ble_eq_true rfl⟩ (kV (fun S4 h => ?_))
  refine gd_wide (k2 := 1) (j2 := 6) (Nat.le_of_ble_eq_true rfl) (Nat.le_of_ble_eq_true rfl) ?_
  obtain ⟨hk6, h⟩ := h
  refine gd_callVX (pc := 13) (As := [.int a1, rf q1]) (rest := []) X (ct_X5_operate l hfl G S4 a0 a1 q1 _ _ h) mw_X5_operate tw_477 ci5 rfl hk6 ⟨(Nat.le_of_ble_eq_true rfl), (Nat.le_of_ble_eq_true rfl)⟩ rfl rfl (Nat.le_of_ble_eq_true rfl) dX5_write_13 ⟨Nat.le_of_ble_eq_true rfl, Nat.le_of_ble_eq_true rfl⟩ (kI (fun r8 S7 h => ?_)) (fun Ex S9 hE hx H1 locs1 la q ce h1 h2 h3 h4 h5 h6 => gd_xout hlk ht (Nat.le_of_ble_eq_true rfl) (Nat.le_of_ble_eq_true rfl) hE hx h1 h2 h4 h5 h6)
  refine gd_wide (k2 := 3) (j2 := 18) (Nat.le_of_ble_eq_true rfl) (Nat.le_of_ble_eq_true rfl) ?_
  refine gd_popI (pc := 16) X dX5_write_16 ?_
  exact gd_x (gd_ret_v (pc := 17) X hr hlk (by decide) (by decide) dX5_write_17 ⟨rfl, h⟩)
abbrev rm_X5_remove : Room := { frames := 8, cells := 3, slots := 18, locals := 167 }
def w_X5_remove (S : MS) (a0 : Nat) (a1 : Int32) (a2 : Int32) (post : MS → Prop) (xp : String → MS → Prop) : Prop := ∀ q1 : Nat, kT S q1 = 0 → ¬ q1 = 0 → ∀ S2 : MS, S2 = nw S q1 3 0 → w_X2_init S2 q1 4 a2 a2 0 (fun S4 => kT S4 a0 = 6 ∧ w_X5_operate S4 a0 a1 q1 (fun r8 S7 => post S7) xp)
set_option maxHeartbeats 4000000 in
set_option maxRecDepth 100000 in
theorem ct_X5_remove (l : Launch) (hfl : l.stackTraces = false) (G : GP) (S : MS) (a0 : Nat) (a1 : Int32) (a2 : Int32) (post : MS → Prop) (xp : String → MS → Prop) (h : w_X5_remove S a0 a1 a2 post xp) : MetX l yX5_remove cX5_remove 3 none rm_X5_remove [rf a0, .int a1, .int a2] G S (pV_ post) xp := by
  refine metX_of (by decide) (cat1_r (cat1_i (cat1_i cat1_n))) (Nat.le_of_ble_eq_true rfl) ?_
  intro p e s m args below meth c X hr hlk ht
  refine gd_aload_n (pc := 0) X 0 dX5_remove_0 rfl ?_
  refine gd_iload_n (pc := 1) X 1 dX5_remove_1 rfl ?_
  refine gd_new (pc := 2) X ci2 tw_451 tw_176 tw_15 (by decide +kernel) dX5_remove_2 ⟨Nat.le_of_ble_eq_true rfl, Nat.le_of_ble_eq_true rfl⟩ (fun q1 hzq1 hnq1 => ?_)
  have h := h q1 hzq1 hnq1
  refine gd_wide (k2 := 1) (j2 := 6) (Nat.le_of_ble_eq_true rfl) (Nat.le_of_ble_eq_true rfl) ?_
  refine gd_topS (fun S2 hS2 => ?_)
  have h := h S2 hS2
  have hk3 : kT S2 q1 = 3 := by rw [hS2]; exact kT_nw _ _ _ _
  refine gd_dupR (pc := 5) X dX5_remove_5 ?_
  refine gd_iconst (pc := 6) X (4) dX5_remove_6 (by decide) ?_
  refine gd_iload_n (pc := 7) X 2 dX5_remove_7 rfl ?_
  refine gd_iload_n (pc := 8) X 2 dX5_remove_8 rfl ?_
  refine gd_iconst (pc := 9) X (0) dX5_remove_9 (by decide) ?_
  refine gd_callI (pc := 10) (As := [.int 4, .int a2, .int a2, .int 0]) (rest := [rf q1, .int a1, rf a0]) X (ct_X2_init l G S2 q1 4 a2 a2 0 _ h) mw_X2_init tw_452 (by rw [hk3]; decide) ⟨(Nat.le_of_ble_eq_true rfl), (Nat.le_of_ble_eq_true rfl)⟩ rfl rfl (Nat.le_of_ble_eq_true rfl) dX5_remove_10 ⟨Nat.le_of_ble_eq_true rfl, Nat.le_of_ble_eq_true rfl⟩ (kV (fun S4 h => ?_))
  refine gd_wide (k2 := 1) (j2 := 6) (Nat.le_of_ble_eq_true rfl) (Nat.le_of_ble_eq_true rfl) ?_
  obtain ⟨hk6, h⟩ := h
  refine gd_callVX (pc := 13) (As := [.int a1, rf q1]) (rest := []) X (ct_X5_operate l hfl G S4 a0 a1 q1 _ _ h) mw_X5_operate tw_477 ci5 rfl hk6 ⟨(Nat.le_of_ble_eq_true rfl), (Nat.le_of_ble_eq_true rfl)⟩ rfl rfl (Nat.le_of_ble_eq_true rfl) dX5_remove_13 ⟨Nat.le_of_ble_eq_true rfl, Nat.le_of_ble_eq_true rfl⟩ (kI (fun r8 S7 h => ?_)) (fun Ex S9 hE hx H1 locs1 la q ce h1 h2 h3 h4 h5 h6 => gd_xout hlk ht (Nat.le_of_ble_eq_true rfl) (Nat.le_of_ble_eq_true rfl) hE hx h1 h2 h4 h5 h6)
  refine gd_wide (k2 := 3) (j2 := 18) (Nat.le_of_ble_eq_true rfl) (Nat.le_of_ble_eq_true rfl) ?_
  refine gd_popI (pc := 16) X dX5_remove_16 ?_
  exact gd_x (gd_ret_v (pc := 17) X hr hlk (by decide) (by decide) dX5_remove_17 ⟨rfl, h⟩)
abbrev rm_X5_add : Room := { frames := 8, cells := 3, slots := 18, locals := 167 }
def w_X5_add (S : MS) (a0 : Nat) (a1 : Int32) (a2 : Int32) (a3 : Int32) (post : Int32 → MS → Prop) (xp : String → MS → Prop) : Prop := ∀ q1 : Nat, kT S q1 = 0 → ¬ q1 = 0 → ∀ S2 : MS, S2 = nw S q1 3 0 → w_X2_init S2 q1 5 a2 a2 a3 (fun S4 => kT S4 a0 = 6 ∧ w_X5_operate S4 a0 a1 q1 (fun r8 S7 => post r8 S7) xp)
set_option maxHeartbeats 4000000 in
set_option maxRecDepth 100000 in
theorem ct_X5_add (l : Launch) (hfl : l.stackTraces = false) (G : GP) (S : MS) (a0 : Nat) (a1 : Int32) (a2 : Int32) (a3 : Int32) (post : Int32 → MS → Prop) (xp : String → MS → Prop) (h : w_X5_add S a0 a1 a2 a3 post xp) : MetX l yX5_add cX5_add 4 (some .int) rm_X5_add [rf a0, .int a1, .int a2, .int a3] G S (pI_ post) xp := by
  refine metX_of (by decide) (cat1_r (cat1_i (cat1_i (cat1_i cat1_n)))) (Nat.le_of_ble_eq_true rfl) ?_
  intro p e s m args below meth c X hr hlk ht
  refine gd_aload_n (pc := 0) X 0 dX5_add_0 rfl ?_
  refine gd_iload_n (pc := 1) X 1 dX5_add_1 rfl ?_
  refine gd_new (pc := 2) X ci2 tw_451 tw_176 tw_15 (by decide +kernel) dX5_add_2 ⟨Nat.le_of_ble_eq_true rfl, Nat.le_of_ble_eq_true rfl⟩ (fun q1 hzq1 hnq1 => ?_)
  have h := h q1 hzq1 hnq1
  refine gd_wide (k2 := 1) (j2 := 6) (Nat.le_of_ble_eq_true rfl) (Nat.le_of_ble_eq_true rfl) ?_
  refine gd_topS (fun S2 hS2 => ?_)
  have h := h S2 hS2
  have hk3 : kT S2 q1 = 3 := by rw [hS2]; exact kT_nw _ _ _ _
  refine gd_dupR (pc := 5) X dX5_add_5 ?_
  refine gd_iconst (pc := 6) X (5) dX5_add_6 (by decide) ?_
  refine gd_iload_n (pc := 7) X 2 dX5_add_7 rfl ?_
  refine gd_iload_n (pc := 8) X 2 dX5_add_8 rfl ?_
  refine gd_iload_n (pc := 9) X 3 dX5_add_9 rfl ?_
  refine gd_callI (pc := 10) (As := [.int 5, .int a2, .int a2, .int a3]) (rest := [rf q1, .int a1, rf a0]) X (ct_X2_init l G S2 q1 5 a2 a2 a3 _ h) mw_X2_init tw_452 (by rw [hk3]; decide) ⟨(Nat.le_of_ble_eq_true rfl), (Nat.le_of_ble_eq_true rfl)⟩ rfl rfl (Nat.le_of_ble_eq_true rfl) dX5_add_10 ⟨Nat.le_of_ble_eq_true rfl, Nat.le_of_ble_eq_true rfl⟩ (kV (fun S4 h => ?_))
  refine gd_wide (k2 := 1) (j2 := 6) (Nat.le_of_ble_eq_true rfl) (Nat.le_of_ble_eq_true rfl) ?_
  obtain ⟨hk6, h⟩ := h
  refine gd_callVX (pc := 13) (As := [.int a1, rf q1]) (rest := []) X (ct_X5_operate l hfl G S4 a0 a1 q1 _ _ h) mw_X5_operate tw_477 ci5 rfl hk6 ⟨(Nat.le_of_ble_eq_true rfl), (Nat.le_of_ble_eq_true rfl)⟩ rfl rfl (Nat.le_of_ble_eq_true rfl) dX5_add_13 ⟨Nat.le_of_ble_eq_true rfl, Nat.le_of_ble_eq_true rfl⟩ (kI (fun r8 S7 h => ?_)) (fun Ex S9 hE hx H1 locs1 la q ce h1 h2 h3 h4 h5 h6 => gd_xout hlk ht (Nat.le_of_ble_eq_true rfl) (Nat.le_of_ble_eq_true rfl) hE hx h1 h2 h4 h5 h6)
  refine gd_wide (k2 := 3) (j2 := 18) (Nat.le_of_ble_eq_true rfl) (Nat.le_of_ble_eq_true rfl) ?_
  exact gd_x (gd_ret_i (pc := 16) X hr hlk rfl (by decide) (by decide) dX5_add_16 ⟨_, rfl, h⟩)
abbrev rm_X5_isRival : Room := { frames := 3, cells := 0, slots := 0, locals := 68 }
def b_X5_isRival_36 (post : Int32 → MS → Prop) (S : MS) (l0 : Nat) (l1 : Nat) (l2 : Nat) (s0 : Int32) : Prop := narrow .boolean (.int s0) = .int s0 ∧ post s0 S
def b_X5_isRival_35 (post : Int32 → MS → Prop) (S : MS) (l0 : Nat) (l1 : Nat) (l2 : Nat) : Prop := b_X5_isRival_36 post S l0 l1 l2 0
def w_X5_isRival (S : MS) (a0 : Nat) (a1 : Nat) (a2 : Nat) (post : Int32 → MS → Prop) : Prop := ((a2 = 0 → b_X5_isRival_35 post S a0 a1 a2) ∧ (¬ a2 = 0 → ((a2 = a1 → b_X5_isRival_35 post S a0 a1 a2) ∧ (¬ a2 = a1 → kT S a2 = 5 ∧ ((¬ (sI S a2 8) = 0 → b_X5_isRival_35 post S a0 a1 a2) ∧ ((sI S a2 8) = 0 → kT S a0 = 6 ∧ kT S (sR S a0 0) = 2 ∧ w_X1_newest S (sR S a0 0) (fun r5 S4 => kT S4 a2 = 5 ∧ w_X4_isHitBy S4 a2 a1 r5 (fun r8 S7 => ((r8 = 0 → b_X5_isRival_35 post S7 a0 a1 a2) ∧ (¬ r8 = 0 → b_X5_isRival_36 post S7 a0 a1 a2 1))))))))))
set_option maxHeartbeats 4000000 in
set_option maxRecDepth 100000 in
theorem ct_X5_isRival (l : Launch) (G : GP) (S : MS) (a0 : Nat) (a1 : Nat) (a2 : Nat) (post : Int32 → MS → Prop) (h : w_X5_isRival S a0 a1 a2 post) : MetM l yX5_isRival cX5_isRival 3 (some .boolean) rm_X5_isRival [rf a0, rf a1, rf a2] G S (pI_ post) := by
  refine met_of (by decide) (cat1_r (cat1_r (cat1_r cat1_n))) (Nat.le_of_ble_eq_true rfl) ?_
  intro p e s m args below meth c X hr hlk hin
  revert h
  have g36 : ∀ (S : MS) (l0 : Nat) (l1 : Nat) (l2 : Nat) (s0 : Int32), b_X5_isRival_36 post S l0 l1 l2 s0 → Gd p l e rm_X5_isRival s m args below meth c 3 G (MQ below (QcM G (pI_ post)) args s rm_X5_isRival.cells rm_X5_isRival.slots (Ab G)) 0 0 S 36 [(0, rf l0), (1, rf l1), (2, rf l2)] [.int s0] := by
    intro S l0 l1 l2 s0 h
    obtain ⟨hnz, h⟩ := h
    exact (gd_ret_i (pc := 36) X hr hlk hnz (by decide) (by decide) dX5_isRival_36 ⟨_, rfl, h⟩)
  have g35 : ∀ (S : MS) (l0 : Nat) (l1 : Nat) (l2 : Nat), b_X5_isRival_35 post S l0 l1 l2 → Gd p l e rm_X5_isRival s m args below meth c 3 G (MQ below (QcM G (pI_ post)) args s rm_X5_isRival.cells rm_X5_isRival.slots (Ab G)) 0 0 S 35 [(0, rf l0), (1, rf l1), (2, rf l2)] [] := by
    intro S l0 l1 l2 h
    refine gd_iconst (pc := 35) X (0) dX5_isRival_35 (by decide) ?_
    exact g36 _ _ _ _ _ h
  intro h
  refine gd_aload_n (pc := 0) X 2 dX5_isRival_0 rfl ?_
  refine gd_ifnull (pc := 1) X 35 dX5_isRival_1 (by decide) (fun hc12 => ?_) (fun hc12 => ?_)
  · have h := h.1 hc12
    exact g35 _ _ _ _ h
  · have h := h.2 hc12
    refine gd_aload_n (pc := 4) X 2 dX5_isRival_4 rfl ?_
    refine gd_aload_n (pc := 5) X 1 dX5_isRival_5 rfl ?_
    refine gd_acmp_eq (pc := 6) X 35 dX5_isRival_6 (by decide) (fun hc11 => ?_) (fun hc11 => ?_)
    · have h := h.1 hc11
      exact g35 _ _ _ _ h
    · have h := h.2 hc11
      refine gd_aload_n (pc := 9) X 2 dX5_isRival_9 rfl ?_
      obtain ⟨hk1, h⟩ := h
      refine gd_getI (pc := 10) (kf := 8) X ci4 (by decide) rfl tw_363 dX5_isRival_10 hk1 ?_
      refine gd_if_ne (pc := 13) X 35 dX5_isRival_13 (by decide) (fun hc10 => ?_) (fun hc10 => ?_)
      · have h := h.1 hc10
        exact g35 _ _ _ _ h
      · have h := h.2 hc10
        refine gd_aload_n (pc := 16) X 2 dX5_isRival_16 rfl ?_
        refine gd_aload_n (pc := 17) X 1 dX5_isRival_17 rfl ?_
        refine gd_aload_n (pc := 18) X 0 dX5_isRival_18 rfl ?_
        obtain ⟨hk2, h⟩ := h
        refine gd_getR (pc := 19) (kf := 0) X ci5 (by decide) rfl tw_88 dX5_isRival_19 hk2 ?_
        obtain ⟨hk3, h⟩ := h
        refine gd_callV (pc := 22) (As := []) (rest := [rf a1, rf a2]) X (ct_X1_newest l G S (sR S a0 0) _ h) mw_X1_newest tw_499 ci1 rfl hk3 ⟨(Nat.le_of_ble_eq_true rfl), (Nat.le_of_ble_eq_true rfl)⟩ rfl rfl (Nat.le_of_ble_eq_true rfl) dX5_isRival_22 ⟨Nat.le_of_ble_eq_true rfl, Nat.le_of_ble_eq_true rfl⟩ (kR (fun r5 S4 h => ?_))
        refine gd_wide (k2 := 0) (j2 := 0) (Nat.le_of_ble_eq_true rfl) (Nat.le_of_ble_eq_true rfl) ?_
        obtain ⟨hk6, h⟩ := h
        refine gd_callV (pc := 25) (As := [rf a1, rf r5]) (rest := []) X (ct_X4_isHitBy l G S4 a2 a1 r5 _ h) mw_X4_isHitBy tw_609 ci4 rfl hk6 ⟨(Nat.le_of_ble_eq_true rfl), (Nat.le_of_ble_eq_true rfl)⟩ rfl rfl (Nat.le_of_ble_eq_true rfl) dX5_isRival_25 ⟨Nat.le_of_ble_eq_true rfl, Nat.le_of_ble_eq_true rfl⟩ (kI (fun r8 S7 h => ?_))
        refine gd_wide (k2 := 0) (j2 := 0) (Nat.le_of_ble_eq_true rfl) (Nat.le_of_ble_eq_true rfl) ?_
        refine gd_if_eq (pc := 28) X 35 dX5_isRival_28 (by decide) (fun hc9 => ?_) (fun hc9 => ?_)
        · have h := h.1 hc9
          exact g35 _ _ _ _ h
        · have h := h.2 hc9
          refine gd_iconst (pc := 31) X (1) dX5_isRival_31 (by decide) ?_
          refine gd_goto (pc := 32) X 36 dX5_isRival_32 (by decide) ?_
          exact g36 _ _ _ _ _ h
abbrev rm_X5_isBlocked : Room := { frames := 4, cells := 0, slots := 0, locals := 90 }
def b_X5_isBlocked_40 (post : Int32 → MS → Prop) (S : MS) (l0 : Nat) (l1 : Nat) (s0 : Int32) : Prop := narrow .boolean (.int s0) = .int s0 ∧ post s0 S
def b_X5_isBlocked_39 (post : Int32 → MS → Prop) (S : MS) (l0 : Nat) (l1 : Nat) : Prop := b_X5_isBlocked_40 post S l0 l1 0
def w_X5_isBlocked (S : MS) (a0 : Nat) (a1 : Nat) (post : Int32 → MS → Prop) : Prop := kT S a0 = 6 ∧ (((sI S a0 11) < 0 → b_X5_isBlocked_39 post S a0 a1) ∧ (¬ (sI S a0 11) < 0 → (((sI S a0 6) ≤ (sI S a0 11) → b_X5_isBlocked_39 post S a0 a1) ∧ (¬ (sI S a0 6) ≤ (sI S a0 11) → kT S (sR S a0 1) = 13 ∧ vp_in (sI S a0 11) (kL S (sR S a0 1)) ∧ w_X5_isRival S a0 a1 (sR S (sR S a0 1) (ix (sI S a0 11))) (fun r5 S4 => ((r5 = 0 → b_X5_isBlocked_39 post S4 a0 a1) ∧ (¬ r5 = 0 → b_X5_isBlocked_40 post S4 a0 a1 1)))))))
set_option maxHeartbeats 4000000 in
set_option maxRecDepth 100000 in
theorem ct_X5_isBlocked (l : Launch) (G : GP) (S : MS) (a0 : Nat) (a1 : Nat) (post : Int32 → MS → Prop) (h : w_X5_isBlocked S a0 a1 post) : MetM l yX5_isBlocked cX5_isBlocked 2 (some .boolean) rm_X5_isBlocked [rf a0, rf a1] G S (pI_ post) := by
  refine met_of (by decide) (cat1_r (cat1_r cat1_n)) (Nat.le_of_ble_eq_true rfl) ?_
  intro p e s m args below meth c X hr hlk hin
  revert h
  have g40 : ∀ (S : MS) (l0 : Nat) (l1 : Nat) (s0 : Int32), b_X5_isBlocked_40 post S l0 l1 s0 → Gd p l e rm_X5_isBlocked s m args below meth c 2 G (MQ below (QcM G (pI_ post)) args s rm_X5_isBlocked.cells rm_X5_isBlocked.slots (Ab G)) 0 0 S 40 [(0, rf l0), (1, rf l1)] [.int s0] := by
    intro S l0 l1 s0 h
    obtain ⟨hnz, h⟩ := h
    exact (gd_ret_i (pc := 40) X hr hlk hnz (by decide) (by decide) dX5_isBlocked_40 ⟨_, rfl, h⟩)
  have g39 : ∀ (S : MS) (l0 : Nat) (l1 : Nat), b_X5_isBlocked_39 post S l0 l1 → Gd p l e rm_X5_isBlocked s m args below meth c 2 G (MQ below (QcM G (pI_ post)) args s rm_X5_isBlocked.cells rm_X5_isBlocked.slots (Ab G)) 0 0 S 39 [(0, rf l0), (1, rf l1)] [] := by
    intro S l0 l1 h
    refine gd_iconst (pc := 39) X (0) dX5_isBlocked_39 (by decide) ?_
    exact g40 _ _ _ _ h
  intro h
  refine gd_aload_n (pc := 0) X 0 dX5_isBlocked_0 rfl ?_
  obtain ⟨hk1, h⟩ := h
  refine gd_getI (pc := 1) (kf := 11) X ci5 (by decide) rfl tw_99 dX5_isBlocked_1 hk1 ?_
  refine gd_if_lt (pc := 4) X 39 dX5_isBlocked_4 (by decide) (fun hc8 => ?_) (fun hc8 => ?_)
  · have h := h.1 hc8
    exact g39 _ _ _ h
  · have h := h.2 hc8
    refine gd_aload_n (pc := 7) X 0 dX5_isBlocked_7 rfl ?_
    refine gd_getI (pc := 8) (kf := 11) X ci5 (by decide) rfl tw_99 dX5_isBlocked_8 hk1 ?_
    refine gd_aload_n (pc := 11) X 0 dX5_isBlocked_11 rfl ?_
    refine gd_getI (pc := 12) (kf := 6) X ci5 (by decide) rfl tw_94 dX5_isBlocked_12 hk1 ?_
    refine gd_icmp_ge (pc := 15) X 39 dX5_isBlocked_15 (by decide) (fun hc7 => ?_) (fun hc7 => ?_)
    · have h := h.1 hc7
      exact g39 _ _ _ h
    · have h := h.2 hc7
      refine gd_aload_n (pc := 18) X 0 dX5_isBlocked_18 rfl ?_
      refine gd_aload_n (pc := 19) X 1 dX5_isBlocked_19 rfl ?_
      refine gd_aload_n (pc := 20) X 0 dX5_isBlocked_20 rfl ?_
      refine gd_getR (pc := 21) (kf := 1) X ci5 (by decide) rfl tw_89 dX5_isBlocked_21 hk1 ?_
      refine gd_aload_n (pc := 24) X 0 dX5_isBlocked_24 rfl ?_
      refine gd_getI (pc := 25) (kf := 11) X ci5 (by decide) rfl tw_99 dX5_isBlocked_25 hk1 ?_
      obtain ⟨hk2, h⟩ := h
      obtain ⟨hi3, h⟩ := h
      refine gd_aald (pc := 28) (t := 5) X rfl rfl (by decide) (by decide) dX5_isBlocked_28 hk2 hi3 ?_
      refine gd_callV (pc := 29) (As := [rf a1, rf (sR S (sR S a0 1) (ix (sI S a0 11)))]) (rest := []) X (ct_X5_isRival l G S a0 a1 (sR S (sR S a0 1) (ix (sI S a0 11))) _ h) mw_X5_isRival tw_605 ci5 rfl hk1 ⟨(Nat.le_of_ble_eq_true rfl), (Nat.le_of_ble_eq_true rfl)⟩ rfl rfl (Nat.le_of_ble_eq_true rfl) dX5_isBlocked_29 ⟨Nat.le_of_ble_eq_true rfl, Nat.le_of_ble_eq_true rfl⟩ (kI (fun r5 S4 h => ?_))
      refine gd_wide (k2 := 0) (j2 := 0) (Nat.le_of_ble_eq_true rfl) (Nat.le_of_ble_eq_true rfl) ?_
      refine gd_if_eq (pc := 32) X 39 dX5_isBlocked_32 (by decide) (fun hc6 => ?_) (fun hc6 => ?_)
      · have h := h.1 hc6
        exact g39 _ _ _ h
      · have h := h.2 hc6
        refine gd_iconst (pc := 35) X (1) dX5_isBlocked_35 (by decide) ?_
        refine gd_goto (pc := 36) X 40 dX5_isBlocked_36 (by decide) ?_
        exact g40 _ _ _ _ h
abbrev rm_X5_losesToRivals : Room := { frames := 4, cells := 0, slots := 0, locals := 90 }
def b_X5_losesToRivals_82 (KH40 : MS → Nat → Nat → Int32 → Int32 → Prop) (post : Int32 → MS → Prop) (S : MS) (l0 : Nat) (l1 : Nat) (l2 : Int32) (l3 : Int32) (l4 : Nat) : Prop := ∀ v1 : Int32, v1 = l3 + 1 → KH40 S l0 l1 l2 v1
def b_X5_losesToRivals_40 (post : Int32 → MS → Prop) : Nat → MS → Nat → Nat → Int32 → Int32 → Prop
  | 0 => fun _ _ _ _ _ => False
  | f + 1 => fun S l0 l1 l2 l3 => kT S l0 = 6 ∧ (((sI S l0 6) ≤ l3 → post 0 S) ∧ (¬ (sI S l0 6) ≤ l3 → kT S (sR S l0 1) = 13 ∧ vp_in l3 (kL S (sR S l0 1)) ∧ ∀ r4 : Nat, r4 = sR S (sR S l0 1) (ix l3) → ((r4 = 0 → b_X5_losesToRivals_82 (b_X5_losesToRivals_40 post f) post S l0 l1 l2 l3 r4) ∧ (¬ r4 = 0 → kT S r4 = 5 ∧ (((sI S r4 5) ≤ l2 → b_X5_losesToRivals_82 (b_X5_losesToRivals_40 post f) post S l0 l1 l2 l3 r4) ∧ (¬ (sI S r4 5) ≤ l2 → w_X5_isRival S l0 l1 r4 (fun r7 S6 => ((r7 = 0 → b_X5_losesToRivals_82 (b_X5_losesToRivals_40 post f) post S6 l0 l1 l2 l3 r4) ∧ (¬ r7 = 0 → post 1 S6)))))))))
def b_X5_losesToRivals_37 (post : Int32 → MS → Prop) (S : MS) (l0 : Nat) (l1 : Nat) (s0 : Int32) : Prop := ∃ f40, b_X5_losesToRivals_40 post f40 S l0 l1 s0 0
def b_X5_losesToRivals_19 (post : Int32 → MS → Prop) (S : MS) (l0 : Nat) (l1 : Nat) : Prop := post 0 S
def w_X5_losesToRivals (S : MS) (a0 : Nat) (a1 : Nat) (post : Int32 → MS → Prop) : Prop := kT S a0 = 6 ∧ kT S a1 = 5 ∧ (((sI S a0 11) = (sI S a1 0) → b_X5_losesToRivals_19 post S a0 a1) ∧ (¬ (sI S a0 11) = (sI S a1 0) → ((¬ (sI S a0 9) = 1 → ((¬ (sI S a0 9) = 2 → b_X5_losesToRivals_37 post S a0 a1 ((-1))) ∧ ((sI S a0 9) = 2 → b_X5_losesToRivals_37 post S a0 a1 (sI S a1 5)))) ∧ ((sI S a0 9) = 1 → b_X5_losesToRivals_19 post S a0 a1))))
set_option maxHeartbeats 4000000 in
set_option maxRecDepth 100000 in
theorem ct_X5_losesToRivals (l : Launch) (G : GP) (S : MS) (a0 : Nat) (a1 : Nat) (post : Int32 → MS → Prop) (h : w_X5_losesToRivals S a0 a1 post) : MetM l yX5_losesToRivals cX5_losesToRivals 5 (some .boolean) rm_X5_losesToRivals [rf a0, rf a1] G S (pI_ post) := by
  refine met_of (by decide) (cat1_r (cat1_r cat1_n)) (Nat.le_of_ble_eq_true rfl) ?_
  intro p e s m args below meth c X hr hlk hin
  revert h
  have g82 : ∀ (KH40 : MS → Nat → Nat → Int32 → Int32 → Prop) (hKH40 : ∀ (S : MS) (l0 : Nat) (l1 : Nat) (l2 : Int32) (l3 : Int32), KH40 S l0 l1 l2 l3 → Gd p l e rm_X5_losesToRivals s m args below meth c 5 G (MQ below (QcM G (pI_ post)) args s rm_X5_losesToRivals.cells rm_X5_losesToRivals.slots (Ab G)) 0 0 S 40 [(0, rf l0), (1, rf l1), (2, .int l2), (3, .int l3)] []) (S : MS) (l0 : Nat) (l1 : Nat) (l2 : Int32) (l3 : Int32) (l4 : Nat), b_X5_losesToRivals_82 KH40 post S l0 l1 l2 l3 l4 → Gd p l e rm_X5_losesToRivals s m args below meth c 5 G (MQ below (QcM G (pI_ post)) args s rm_X5_losesToRivals.cells rm_X5_losesToRivals.slots (Ab G)) 0 0 S 82 [(0, rf l0), (1, rf l1), (2, .int l2), (3, .int l3), (4, rf l4)] [] := by
    intro KH40 hKH40 S l0 l1 l2 l3 l4 h
    obtain ⟨v1, hv1⟩ : ∃ z : Int32, z = l3 + 1 := ⟨_, rfl⟩
    have h := h v1 hv1
    refine gd_iinc (pc := 82) (v := v1) X 3 dX5_losesToRivals_82 rfl (by rw [hv1]; rfl) (by decide) (E2 := [(3, .int v1), (0, rf l0), (1, rf l1), (2, .int l2), (4, rf l4)]) rfl ?_
    refine gd_goto (pc := 85) X 40 dX5_losesToRivals_85 (by decide) ?_
    refine gd_sub [1, 2, 3, 0] rfl ?_
    exact hKH40 _ _ _ _ _ h
  have g40 : ∀ (f : Nat) (S : MS) (l0 : Nat) (l1 : Nat) (l2 : Int32) (l3 : Int32), b_X5_losesToRivals_40 post f S l0 l1 l2 l3 → Gd p l e rm_X5_losesToRivals s m args below meth c 5 G (MQ below (QcM G (pI_ post)) args s rm_X5_losesToRivals.cells rm_X5_losesToRivals.slots (Ab G)) 0 0 S 40 [(0, rf l0), (1, rf l1), (2, .int l2), (3, .int l3)] [] := by
    intro f
    induction f with
    | zero => intro S l0 l1 l2 l3 h; exact h.elim
    | succ f ih =>
      intro S l0 l1 l2 l3 h
      refine gd_iload_n (pc := 40) X 3 dX5_losesToRivals_40 rfl ?_
      refine gd_aload_n (pc := 41) X 0 dX5_losesToRivals_41 rfl ?_
      obtain ⟨hk1, h⟩ := h
      refine gd_getI (pc := 42) (kf := 6) X ci5 (by decide) rfl tw_94 dX5_losesToRivals_42 hk1 ?_
      refine gd_icmp_ge (pc := 45) X 88 dX5_losesToRivals_45 (by decide) (fun hc11 => ?_) (fun hc11 => ?_)
      · have h := h.1 hc11
        refine gd_iconst (pc := 88) X (0) dX5_losesToRivals_88 (by decide) ?_
        exact (gd_ret_i (pc := 89) X hr hlk rfl (by decide) (by decide) dX5_losesToRivals_89 ⟨_, rfl, h⟩)
      · have h := h.2 hc11
        refine gd_aload_n (pc := 48) X 0 dX5_losesToRivals_48 rfl ?_
        refine gd_getR (pc := 49) (kf := 1) X ci5 (by decide) rfl tw_89 dX5_losesToRivals_49 hk1 ?_
        refine gd_iload_n (pc := 52) X 3 dX5_losesToRivals_52 rfl ?_
        obtain ⟨hk2, h⟩ := h
        obtain ⟨hi3, h⟩ := h
        refine gd_aald (pc := 53) (t := 5) X rfl rfl (by decide) (by decide) dX5_losesToRivals_53 hk2 hi3 ?_
        refine gd_topR (fun r4 hr4 => ?_)
        have h := h r4 hr4
        refine gd_astore (pc := 54) X dX5_losesToRivals_54 (by decide) (E2 := [(4, rf r4), (0, rf l0), (1, rf l1), (2, .int l2), (3, .int l3)]) rfl ?_
        refine gd_aload (pc := 56) X 0 dX5_losesToRivals_56 rfl ?_
        refine gd_ifnull (pc := 58) X 82 dX5_losesToRivals_58 (by decide) (fun hc10 => ?_) (fun hc10 => ?_)
        · have h := h.1 hc10
          refine gd_sub [1, 2, 3, 4, 0] rfl ?_
          exact g82 _ ih _ _ _ _ _ _ h
        · have h := h.2 hc10
          refine gd_aload (pc := 61) X 0 dX5_losesToRivals_61 rfl ?_
          obtain ⟨hk5, h⟩ := h
          refine gd_getI (pc := 63) (kf := 5) X ci4 (by decide) rfl tw_355 dX5_losesToRivals_63 hk5 ?_
          refine gd_iload_n (pc := 66) X 3 dX5_losesToRivals_66 rfl ?_
          refine gd_icmp_le (pc := 67) X 82 dX5_losesToRivals_67 (by decide) (fun hc9 => ?_) (fun hc9 => ?_)
          · have h := h.1 hc9
            refine gd_sub [1, 2, 3, 4, 0] rfl ?_
            exact g82 _ ih _ _ _ _ _ _ h
          · have h := h.2 hc9
            refine gd_aload_n (pc := 70) X 1 dX5_losesToRivals_70 rfl ?_
            refine gd_aload_n (pc := 71) X 2 dX5_losesToRivals_71 rfl ?_
            refine gd_aload (pc := 72) X 0 dX5_losesToRivals_72 rfl ?_
            refine gd_callV (pc := 74) (As := [rf l1, rf r4]) (rest := []) X (ct_X5_isRival l G S l0 l1 r4 _ h) mw_X5_isRival tw_605 ci5 rfl hk1 ⟨(Nat.le_of_ble_eq_true rfl), (Nat.le_of_ble_eq_true rfl)⟩ rfl rfl (Nat.le_of_ble_eq_true rfl) dX5_losesToRivals_74 ⟨Nat.le_of_ble_eq_true rfl, Nat.le_of_ble_eq_true rfl⟩ (kI (fun r7 S6 h => ?_))
            refine gd_wide (k2 := 0) (j2 := 0) (Nat.le_of_ble_eq_true rfl) (Nat.le_of_ble_eq_true rfl) ?_
            refine gd_if_eq (pc := 77) X 82 dX5_losesToRivals_77 (by decide) (fun hc8 => ?_) (fun hc8 => ?_)
            · have h := h.1 hc8
              refine gd_sub [1, 2, 3, 4, 0] rfl ?_
              exact g82 _ ih _ _ _ _ _ _ h
            · have h := h.2 hc8
              refine gd_iconst (pc := 80) X (1) dX5_losesToRivals_80 (by decide) ?_
              exact (gd_ret_i (pc := 81) X hr hlk rfl (by decide) (by decide) dX5_losesToRivals_81 ⟨_, rfl, h⟩)
  have g37 : ∀ (S : MS) (l0 : Nat) (l1 : Nat) (s0 : Int32), b_X5_losesToRivals_37 post S l0 l1 s0 → Gd p l e rm_X5_losesToRivals s m args below meth c 5 G (MQ below (QcM G (pI_ post)) args s rm_X5_losesToRivals.cells rm_X5_losesToRivals.slots (Ab G)) 0 0 S 37 [(0, rf l0), (1, rf l1)] [.int s0] := by
    intro S l0 l1 s0 h
    refine gd_istore_n (pc := 37) X dX5_losesToRivals_37 (by decide) (E2 := [(2, .int s0), (0, rf l0), (1, rf l1)]) (by simp [rf_cat, lv1, int_cat] <;> decide) ?_
    refine gd_iconst (pc := 38) X (0) dX5_losesToRivals_38 (by decide) ?_
    refine gd_istore_n (pc := 39) X dX5_losesToRivals_39 (by decide) (E2 := [(3, .int 0), (2, .int s0), (0, rf l0), (1, rf l1)]) rfl ?_
    refine gd_sub [2, 3, 1, 0] rfl ?_
    obtain ⟨f40, h⟩ := h
    exact g40 f40 _ _ _ _ _ h
  have g19 : ∀ (S : MS) (l0 : Nat) (l1 : Nat), b_X5_losesToRivals_19 post S l0 l1 → Gd p l e rm_X5_losesToRivals s m args below meth c 5 G (MQ below (QcM G (pI_ post)) args s rm_X5_losesToRivals.cells rm_X5_losesToRivals.slots (Ab G)) 0 0 S 19 [(0, rf l0), (1, rf l1)] [] := by
    intro S l0 l1 h
    refine gd_iconst (pc := 19) X (0) dX5_losesToRivals_19 (by decide) ?_
    exact (gd_ret_i (pc := 20) X hr hlk rfl (by decide) (by decide) dX5_losesToRivals_20 ⟨_, rfl, h⟩)
  intro h
  refine gd_aload_n (pc := 0) X 0 dX5_losesToRivals_0 rfl ?_
  obtain ⟨hk1, h⟩ := h
  refine gd_getI (pc := 1) (kf := 11) X ci5 (by decide) rfl tw_99 dX5_losesToRivals_1 hk1 ?_
  refine gd_aload_n (pc := 4) X 1 dX5_losesToRivals_4 rfl ?_
  obtain ⟨hk2, h⟩ := h
  refine gd_getI (pc := 5) (kf := 0) X ci4 (by decide) rfl tw_344 dX5_losesToRivals_5 hk2 ?_
  refine gd_icmp_eq (pc := 8) X 19 dX5_losesToRivals_8 (by decide) (fun hc5 => ?_) (fun hc5 => ?_)
  · have h := h.1 hc5
    exact g19 _ _ _ h
  · have h := h.2 hc5
    refine gd_aload_n (pc := 11) X 0 dX5_losesToRivals_11 rfl ?_
    refine gd_getI (pc := 12) (kf := 9) X ci5 (by decide) rfl tw_97 dX5_losesToRivals_12 hk1 ?_
    refine gd_iconst (pc := 15) X (1) dX5_losesToRivals_15 (by decide) ?_
    refine gd_icmp_ne (pc := 16) X 21 dX5_losesToRivals_16 (by decide) (fun hc4 => ?_) (fun hc4 => ?_)
    · have h := h.1 hc4
      refine gd_aload_n (pc := 21) X 0 dX5_losesToRivals_21 rfl ?_
      refine gd_getI (pc := 22) (kf := 9) X ci5 (by decide) rfl tw_97 dX5_losesToRivals_22 hk1 ?_
      refine gd_iconst (pc := 25) X (2) dX5_losesToRivals_25 (by decide) ?_
      refine gd_icmp_ne (pc := 26) X 36 dX5_losesToRivals_26 (by decide) (fun hc3 => ?_) (fun hc3 => ?_)
      · have h := h.1 hc3
        refine gd_iconst (pc := 36) X (-1) dX5_losesToRivals_36 (by decide) ?_
        exact g37 _ _ _ _ h
      · have h := h.2 hc3
        refine gd_aload_n (pc := 29) X 1 dX5_losesToRivals_29 rfl ?_
        refine gd_getI (pc := 30) (kf := 5) X ci4 (by decide) rfl tw_355 dX5_losesToRivals_30 hk2 ?_
        refine gd_goto (pc := 33) X 37 dX5_losesToRivals_33 (by decide) ?_
        exact g37 _ _ _ _ h
    · have h := h.2 hc4
      exact g19 _ _ _ h
