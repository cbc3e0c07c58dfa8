abbrev rm_X6_isIn : Room := { frames := 0, cells := 0, slots := 0, locals := 0 }
def b_X6_isIn_15 (post : Int32 → MS → Prop) (S : MS) (l0 : Int32) (l1 : Int32) (l2 : Int32) (s0 : Int32) : Prop := narrow .boolean (.int s0) = .int s0 ∧ post s0 S
def b_X6_isIn_14 (post : Int32 → MS → Prop) (S : MS) (l0 : Int32) (l1 : Int32) (l2 : Int32) : Prop := b_X6_isIn_15 post S l0 l1 l2 0
def w_X6_isIn (S : MS) (a0 : Int32) (a1 : Int32) (a2 : Int32) (post : Int32 → MS → Prop) : Prop := ((a0 < a1 → b_X6_isIn_14 post S a0 a1 a2) ∧ (¬ a0 < a1 → ((a2 < a0 → b_X6_isIn_14 post S a0 a1 a2) ∧ (¬ a2 < a0 → b_X6_isIn_15 post S a0 a1 a2 1))))
set_option maxHeartbeats 4000000 in
set_option maxRecDepth 100000 in
theorem ct_X6_isIn (l : Launch) (G : GP) (S : MS) (a0 : Int32) (a1 : Int32) (a2 : Int32) (post : Int32 → MS → Prop) (h : w_X6_isIn S a0 a1 a2 post) : MetM l yX6_isIn cX6_isIn 3 (some .boolean) rm_X6_isIn [.int a0, .int a1, .int a2] G S (pI_ post) := by
  refine met_of (by decide) (cat1_i (cat1_i (cat1_i cat1_n))) (Nat.le_of_ble_eq_true rfl) ?_
  intro p e s m args below meth c X hr hlk hin
  revert h
  have g15 : ∀ (S : MS) (l0 : Int32) (l1 : Int32) (l2 : Int32) (s0 : Int32), b_X6_isIn_15 post S l0 l1 l2 s0 → Gd p l e rm_X6_isIn s m args below meth c 3 G (MQ below (QcM G (pI_ post)) args s rm_X6_isIn.cells rm_X6_isIn.slots (Ab G)) 0 0 S 15 [(0, .int l0), (1, .int l1), (2, .int l2)] [.int s0] := by
    intro S l0 l1 l2 s0 h
    obtain ⟨hnz, h⟩ := h
    exact (gd_ret_i (pc := 15) X hr hlk hnz (by decide) (by decide) dX6_isIn_15 ⟨_, rfl, h⟩)
  have g14 : ∀ (S : MS) (l0 : Int32) (l1 : Int32) (l2 : Int32), b_X6_isIn_14 post S l0 l1 l2 → Gd p l e rm_X6_isIn s m args below meth c 3 G (MQ below (QcM G (pI_ post)) args s rm_X6_isIn.cells rm_X6_isIn.slots (Ab G)) 0 0 S 14 [(0, .int l0), (1, .int l1), (2, .int l2)] [] := by
    intro S l0 l1 l2 h
    refine gd_iconst (pc := 14) X (0) dX6_isIn_14 (by decide) ?_
    exact g15 _ _ _ _ _ h
  intro h
  refine gd_iload_n (pc := 0) X 0 dX6_isIn_0 rfl ?_
  refine gd_iload_n (pc := 1) X 1 dX6_isIn_1 rfl ?_
  refine gd_icmp_lt (pc := 2) X 14 dX6_isIn_2 (by decide) (fun hc2 => ?_) (fun hc2 => ?_)
  · have h := h.1 hc2
    exact g14 _ _ _ _ h
  · have h := h.2 hc2
    refine gd_iload_n (pc := 5) X 0 dX6_isIn_5 rfl ?_
    refine gd_iload_n (pc := 6) X 2 dX6_isIn_6 rfl ?_
    refine gd_icmp_gt (pc := 7) X 14 dX6_isIn_7 (by decide) (fun hc1 => ?_) (fun hc1 => ?_)
    · have h := h.1 hc1
      exact g14 _ _ _ _ h
    · have h := h.2 hc1
      refine gd_iconst (pc := 10) X (1) dX6_isIn_10 (by decide) ?_
      refine gd_goto (pc := 11) X 15 dX6_isIn_11 (by decide) ?_
      exact g15 _ _ _ _ _ h
abbrev rm_X6_thrown : Room := { frames := 0, cells := 0, slots := 0, locals := 0 }
def w_X6_thrown (S : MS) (a0 : Nat) (post : Int32 → MS → Prop) : Prop := kT S a0 = 7 ∧ post (sI S a0 0) S
set_option maxHeartbeats 4000000 in
set_option maxRecDepth 100000 in
theorem ct_X6_thrown (l : Launch) (G : GP) (S : MS) (a0 : Nat) (post : Int32 → MS → Prop) (h : w_X6_thrown S a0 post) : MetM l yX6_thrown cX6_thrown 1 (some .int) rm_X6_thrown [rf a0] G S (pI_ post) := by
  refine met_of (by decide) (cat1_r cat1_n) (Nat.le_of_ble_eq_true rfl) ?_
  intro p e s m args below meth c X hr hlk hin
  refine gd_aload_n (pc := 0) X 0 dX6_thrown_0 rfl ?_
  obtain ⟨hk1, h⟩ := h
  refine gd_getI (pc := 1) (kf := 0) X ci6 (by decide) rfl tw_983 dX6_thrown_1 hk1 ?_
  exact (gd_ret_i (pc := 4) X hr hlk rfl (by decide) (by decide) dX6_thrown_4 ⟨_, rfl, h⟩)
abbrev rm_X6_fail : Room := { frames := 0, cells := 0, slots := 0, locals := 0 }
def w_X6_fail (S : MS) (a0 : Nat) (a1 : Int32) (post : Int32 → MS → Prop) : Prop := kT S a0 = 7 ∧ ∀ S2 : MS, S2 = pI S a0 0 a1 → post 0 S2
set_option maxHeartbeats 4000000 in
set_option maxRecDepth 100000 in
theorem ct_X6_fail (l : Launch) (G : GP) (S : MS) (a0 : Nat) (a1 : Int32) (post : Int32 → MS → Prop) (h : w_X6_fail S a0 a1 post) : MetM l yX6_fail cX6_fail 2 (some .int) rm_X6_fail [rf a0, .int a1] G S (pI_ post) := by
  refine met_of (by decide) (cat1_r (cat1_i cat1_n)) (Nat.le_of_ble_eq_true rfl) ?_
  intro p e s m args below meth c X hr hlk hin
  refine gd_aload_n (pc := 0) X 0 dX6_fail_0 rfl ?_
  refine gd_iload_n (pc := 1) X 1 dX6_fail_1 rfl ?_
  obtain ⟨hk1, h⟩ := h
  refine gd_putI (pc := 2) (kf := 0) X ci6 (by decide) rfl rfl tw_983 rfl rfl dX6_fail_2 hk1 ?_
  refine gd_topS (fun S2 hS2 => ?_)
  have h := h S2 hS2
  have hk3 : kT S2 a0 = 7 := by rw [hS2]; exact hk1
  refine gd_iconst (pc := 5) X (0) dX6_fail_5 (by decide) ?_
  exact (gd_ret_i (pc := 6) X hr hlk rfl (by decide) (by decide) dX6_fail_6 ⟨_, rfl, h⟩)
abbrev rm_X6_init : Room := { frames := 1, cells := 18, slots := 25258, locals := 20 }
def b_X6_init_170 (post : MS → Prop) : Nat → MS → Nat → Int32 → Prop
  | 0 => fun _ _ _ => False
  | f + 1 => fun S l0 l1 => ((32 ≤ l1 → post S) ∧ (¬ 32 ≤ l1 → kT S l0 = 7 ∧ kT S (sR S l0 15) = 9 ∧ vp_in l1 (kL S (sR S l0 15)) ∧ ∀ S4 : MS, S4 = pI S (sR S l0 15) (ix l1) ((-1000)) → ∀ v7 : Int32, v7 = l1 + 1 → b_X6_init_170 post f S4 l0 v7))
def w_X6_init (S : MS) (a0 : Nat) (post : MS → Prop) : Prop := kT S a0 = 7 ∧ ∀ q2 : Nat, kT S q2 = 0 → ¬ q2 = 0 → ∀ S3 : MS, S3 = nw S q2 9 80 → ∀ S6 : MS, S6 = pR S3 a0 2 q2 → ∀ q9 : Nat, kT S6 q9 = 0 → ¬ q9 = 0 → ∀ S10 : MS, S10 = nw S6 q9 9 80 → ∀ S14 : MS, S14 = pR S10 a0 3 q9 → ∀ q18 : Nat, kT S14 q18 = 0 → ¬ q18 = 0 → ∀ S19 : MS, S19 = nw S14 q18 9 80 → ∀ S24 : MS, S24 = pR S19 a0 4 q18 → ∀ q29 : Nat, kT S24 q29 = 0 → ¬ q29 = 0 → ∀ S30 : MS, S30 = nw S24 q29 9 80 → ∀ S36 : MS, S36 = pR S30 a0 5 q29 → ∀ q42 : Nat, kT S36 q42 = 0 → ¬ q42 = 0 → ∀ S43 : MS, S43 = nw S36 q42 10 80 → ∀ S50 : MS, S50 = pR S43 a0 6 q42 → ∀ q57 : Nat, kT S50 q57 = 0 → ¬ q57 = 0 → ∀ S58 : MS, S58 = nw S50 q57 9 80 → ∀ S66 : MS, S66 = pR S58 a0 7 q57 → ∀ q74 : Nat, kT S66 q74 = 0 → ¬ q74 = 0 → ∀ S75 : MS, S75 = nw S66 q74 9 9600 → ∀ S84 : MS, S84 = pR S75 a0 8 q74 → ∀ q93 : Nat, kT S84 q93 = 0 → ¬ q93 = 0 → ∀ S94 : MS, S94 = nw S84 q93 9 2560 → ∀ S104 : MS, S104 = pR S94 a0 9 q93 → ∀ q114 : Nat, kT S104 q114 = 0 → ¬ q114 = 0 → ∀ S115 : MS, S115 = nw S104 q114 9 2560 → ∀ S126 : MS, S126 = pR S115 a0 10 q114 → ∀ q137 : Nat, kT S126 q137 = 0 → ¬ q137 = 0 → ∀ S138 : MS, S138 = nw S126 q137 9 7680 → ∀ S150 : MS, S150 = pR S138 a0 11 q137 → ∀ q162 : Nat, kT S150 q162 = 0 → ¬ q162 = 0 → ∀ S163 : MS, S163 = nw S150 q162 9 80 → ∀ S176 : MS, S176 = pR S163 a0 12 q162 → ∀ S189 : MS, S189 = pI S176 a0 13 ((-1)) → ∀ q202 : Nat, kT S189 q202 = 0 → ¬ q202 = 0 → ∀ S203 : MS, S203 = nw S189 q202 9 1952 → ∀ S217 : MS, S217 = pR S203 a0 15 q202 → ∀ q231 : Nat, kT S217 q231 = 0 → ¬ q231 = 0 → ∀ S232 : MS, S232 = nw S217 q231 9 61 → ∀ S247 : MS, S247 = pR S232 a0 16 q231 → ∀ S262 : MS, S262 = pI S247 a0 19 3 → ∀ q277 : Nat, kT S262 q277 = 0 → ¬ q277 = 0 → ∀ S278 : MS, S278 = nw S262 q277 9 12 → ∀ S294 : MS, S294 = pR S278 a0 20 q277 → ∀ q310 : Nat, kT S294 q310 = 0 → ¬ q310 = 0 → ∀ S311 : MS, S311 = nw S294 q310 9 61 → ∀ S328 : MS, S328 = pR S311 a0 22 q310 → ∀ q345 : Nat, kT S328 q345 = 0 → ¬ q345 = 0 → ∀ S346 : MS, S346 = nw S328 q345 9 32 → ∀ S364 : MS, S364 = pR S346 a0 23 q345 → ∀ q382 : Nat, kT S364 q382 = 0 → ¬ q382 = 0 → ∀ S383 : MS, S383 = nw S364 q382 9 60 → ∀ S402 : MS, S402 = pR S383 a0 24 q382 → ∀ S421 : MS, S421 = pI S402 a0 28 ((-1)) → ∀ q440 : Nat, kT S421 q440 = 0 → ¬ q440 = 0 → ∀ S441 : MS, S441 = nw S421 q440 9 120 → ∀ S461 : MS, S461 = pR S441 a0 29 q440 → ∃ f170, b_X6_init_170 post f170 S461 a0 0
set_option maxHeartbeats 4000000 in
set_option maxRecDepth 100000 in
theorem ct_X6_init (l : Launch) (G : GP) (S : MS) (a0 : Nat) (post : MS → Prop) (h : w_X6_init S a0 post) : MetM l yX6_init cX6_init 2 none rm_X6_init [rf a0] G S (pV_ post) := by
  refine met_of (by decide) (cat1_r cat1_n) (Nat.le_of_ble_eq_true rfl) ?_
  intro p e s m args below meth c X hr hlk hin
  revert h
  have g170 : ∀ (f : Nat) (S : MS) (l0 : Nat) (l1 : Int32), b_X6_init_170 post f S l0 l1 → Gd p l e rm_X6_init s m args below meth c 2 G (MQ below (QcM G (pV_ post)) args s rm_X6_init.cells rm_X6_init.slots (Ab G)) 18 25258 S 170 [(0, rf l0), (1, .int l1)] [] := by
    intro f
    induction f with
    | zero => intro S l0 l1 h; exact h.elim
    | succ f ih =>
      intro S l0 l1 h
      refine gd_iload_n (pc := 170) X 1 dX6_init_170 rfl ?_
      refine gd_bipush (pc := 171) X (32) dX6_init_171 (by decide) ?_
      refine gd_icmp_ge (pc := 173) X 191 dX6_init_173 (by decide) (fun hc8 => ?_) (fun hc8 => ?_)
      · have h := h.1 hc8
        exact (gd_ret_v (pc := 191) X hr hlk (by decide) (by decide) dX6_init_191 ⟨rfl, h⟩)
      · have h := h.2 hc8
        refine gd_aload_n (pc := 176) X 0 dX6_init_176 rfl ?_
        obtain ⟨hk1, h⟩ := h
        refine gd_getR (pc := 177) (kf := 15) X ci6 (by decide) rfl tw_998 dX6_init_177 hk1 ?_
        refine gd_iload_n (pc := 180) X 1 dX6_init_180 rfl ?_
        refine gd_sipush (pc := 181) X (-1000) dX6_init_181 (by decide) ?_
        obtain ⟨hk2, h⟩ := h
        obtain ⟨hi3, h⟩ := h
        refine gd_iast (pc := 184) X dX6_init_184 hk2 hi3 ?_
        refine gd_topS (fun S4 hS4 => ?_)
        have h := h S4 hS4
        have hk5 : kT S4 l0 = 7 := by rw [hS4]; exact hk1
        have hk6 : kT S4 (sR S l0 15) = 9 := by rw [hS4]; exact hk2
        obtain ⟨v7, hv7⟩ : ∃ z : Int32, z = l1 + 1 := ⟨_, rfl⟩
        have h := h v7 hv7
        refine gd_iinc (pc := 185) (v := v7) X 1 dX6_init_185 rfl (by rw [hv7]; rfl) (by decide) (E2 := [(1, .int v7), (0, rf l0)]) (by simp [rf_cat, lv1, int_cat] <;> decide) ?_
        refine gd_goto (pc := 188) X 170 dX6_init_188 (by decide) ?_
        refine gd_sub [1, 0] rfl ?_
        exact ih _ _ _ h
  intro h
  refine gd_aload_n (pc := 0) X 0 dX6_init_0 rfl ?_
  obtain ⟨hk1, h⟩ := h
  refine gd_objInit (pc := 1) X (by rw [hk1]; decide) tw_982 oi_1 oi_2 dX6_init_1 (Nat.le_of_ble_eq_true rfl) ⟨(Nat.le_of_ble_eq_true rfl), (Nat.le_of_ble_eq_true rfl)⟩ ?_
  refine gd_aload_n (pc := 4) X 0 dX6_init_4 rfl ?_
  refine gd_bipush (pc := 5) X (80) dX6_init_5 (by decide) ?_
  refine gd_newaI (pc := 7) (N := 80) X tw_53 (by decide) (by decide) (by decide) dX6_init_7 ⟨Nat.le_of_ble_eq_true rfl, Nat.le_of_ble_eq_true rfl⟩ (fun q2 hzq2 hnq2 => ?_)
  have h := h q2 hzq2 hnq2
  refine gd_wide (k2 := 1) (j2 := 80) (Nat.le_of_ble_eq_true rfl) (Nat.le_of_ble_eq_true rfl) ?_
  refine gd_topS (fun S3 hS3 => ?_)
  have h := h S3 hS3
  have hk4 : kT S3 a0 = 7 := by rw [hS3]; exact kT_nwo hk1 hzq2 (by decide)
  have hk5 : kT S3 q2 = 9 := by rw [hS3]; exact kT_nw _ _ _ _
  refine gd_putFR (pc := 9) (kf := 2) X ci6 (by decide) rfl rfl hin rfl tw_985 (rf_nar (by decide) q2) (rf_fit (by decide) q2) dX6_init_9 hk4 ?_
  refine gd_topS (fun S6 hS6 => ?_)
  have h := h S6 hS6
  have hk7 : kT S6 a0 = 7 := by rw [hS6]; exact hk4
  have hk8 : kT S6 q2 = 9 := by rw [hS6]; exact hk5
  refine gd_aload_n (pc := 12) X 0 dX6_init_12 rfl ?_
  refine gd_bipush (pc := 13) X (80) dX6_init_13 (by decide) ?_
  refine gd_newaI (pc := 15) (N := 80) X tw_53 (by decide) (by decide) (by decide) dX6_init_15 ⟨Nat.le_of_ble_eq_true rfl, Nat.le_of_ble_eq_true rfl⟩ (fun q9 hzq9 hnq9 => ?_)
  have h := h q9 hzq9 hnq9
  refine gd_wide (k2 := 2) (j2 := 160) (Nat.le_of_ble_eq_true rfl) (Nat.le_of_ble_eq_true rfl) ?_
  refine gd_topS (fun S10 hS10 => ?_)
  have h := h S10 hS10
  have hk11 : kT S10 a0 = 7 := by rw [hS10]; exact kT_nwo hk7 hzq9 (by decide)
  have hk12 : kT S10 q2 = 9 := by rw [hS10]; exact kT_nwo hk8 hzq9 (by decide)
  have hk13 : kT S10 q9 = 9 := by rw [hS10]; exact kT_nw _ _ _ _
  refine gd_putFR (pc := 17) (kf := 3) X ci6 (by decide) rfl rfl hin rfl tw_986 (rf_nar (by decide) q9) (rf_fit (by decide) q9) dX6_init_17 hk11 ?_
  refine gd_topS (fun S14 hS14 => ?_)
  have h := h S14 hS14
  have hk15 : kT S14 a0 = 7 := by rw [hS14]; exact hk11
  have hk16 : kT S14 q2 = 9 := by rw [hS14]; exact hk12
  have hk17 : kT S14 q9 = 9 := by rw [hS14]; exact hk13
  refine gd_aload_n (pc := 20) X 0 dX6_init_20 rfl ?_
  refine gd_bipush (pc := 21) X (80) dX6_init_21 (by decide) ?_
  refine gd_newaI (pc := 23) (N := 80) X tw_53 (by decide) (by decide) (by decide) dX6_init_23 ⟨Nat.le_of_ble_eq_true rfl, Nat.le_of_ble_eq_true rfl⟩ (fun q18 hzq18 hnq18 => ?_)
  have h := h q18 hzq18 hnq18
  refine gd_wide (k2 := 3) (j2 := 240) (Nat.le_of_ble_eq_true rfl) (Nat.le_of_ble_eq_true rfl) ?_
  refine gd_topS (fun S19 hS19 => ?_)
  have h := h S19 hS19
  have hk20 : kT S19 a0 = 7 := by rw [hS19]; exact kT_nwo hk15 hzq18 (by decide)
  have hk21 : kT S19 q2 = 9 := by rw [hS19]; exact kT_nwo hk16 hzq18 (by decide)
  have hk22 : kT S19 q9 = 9 := by rw [hS19]; exact kT_nwo hk17 hzq18 (by decide)
  have hk23 : kT S19 q18 = 9 := by rw [hS19]; exact kT_nw _ _ _ _
  refine gd_putFR (pc := 25) (kf := 4) X ci6 (by decide) rfl rfl hin rfl tw_987 (rf_nar (by decide) q18) (rf_fit (by decide) q18) dX6_init_25 hk20 ?_
  refine gd_topS (fun S24 hS24 => ?_)
  have h := h S24 hS24
  have hk25 : kT S24 a0 = 7 := by rw [hS24]; exact hk20
  have hk26 : kT S24 q2 = 9 := by rw [hS24]; exact hk21
  have hk27 : kT S24 q9 = 9 := by rw [hS24]; exact hk22
  have hk28 : kT S24 q18 = 9 := by rw [hS24]; exact hk23
  refine gd_aload_n (pc := 28) X 0 dX6_init_28 rfl ?_
  refine gd_bipush (pc := 29) X (80) dX6_init_29 (by decide) ?_
  refine gd_newaI (pc := 31) (N := 80) X tw_53 (by decide) (by decide) (by decide) dX6_init_31 ⟨Nat.le_of_ble_eq_true rfl, Nat.le_of_ble_eq_true rfl⟩ (fun q29 hzq29 hnq29 => ?_)
  have h := h q29 hzq29 hnq29
  refine gd_wide (k2 := 4) (j2 := 320) (Nat.le_of_ble_eq_true rfl) (Nat.le_of_ble_eq_true rfl) ?_
  refine gd_topS (fun S30 hS30 => ?_)
  have h := h S30 hS30
  have hk31 : kT S30 a0 = 7 := by rw [hS30]; exact kT_nwo hk25 hzq29 (by decide)
  have hk32 : kT S30 q2 = 9 := by rw [hS30]; exact kT_nwo hk26 hzq29 (by decide)
  have hk33 : kT S30 q9 = 9 := by rw [hS30]; exact kT_nwo hk27 hzq29 (by decide)
  have hk34 : kT S30 q18 = 9 := by rw [hS30]; exact kT_nwo hk28 hzq29 (by decide)
  have hk35 : kT S30 q29 = 9 := by rw [hS30]; exact kT_nw _ _ _ _
  refine gd_putFR (pc := 33) (kf := 5) X ci6 (by decide) rfl rfl hin rfl tw_988 (rf_nar (by decide) q29) (rf_fit (by decide) q29) dX6_init_33 hk31 ?_
  refine gd_topS (fun S36 hS36 => ?_)
  have h := h S36 hS36
  have hk37 : kT S36 a0 = 7 := by rw [hS36]; exact hk31
  have hk38 : kT S36 q2 = 9 := by rw [hS36]; exact hk32
  have hk39 : kT S36 q9 = 9 := by rw [hS36]; exact hk33
  have hk40 : kT S36 q18 = 9 := by rw [hS36]; exact hk34
  have hk41 : kT S36 q29 = 9 := by rw [hS36]; exact hk35
  refine gd_aload_n (pc := 36) X 0 dX6_init_36 rfl ?_
  refine gd_bipush (pc := 37) X (80) dX6_init_37 (by decide) ?_
  refine gd_newaZ (pc := 39) (N := 80) X tw_1077 (by decide) (by decide) (by decide) dX6_init_39 ⟨Nat.le_of_ble_eq_true rfl, Nat.le_of_ble_eq_true rfl⟩ (fun q42 hzq42 hnq42 => ?_)
  have h := h q42 hzq42 hnq42
  refine gd_wide (k2 := 5) (j2 := 400) (Nat.le_of_ble_eq_true rfl) (Nat.le_of_ble_eq_true rfl) ?_
  refine gd_topS (fun S43 hS43 => ?_)
  have h := h S43 hS43
  have hk44 : kT S43 a0 = 7 := by rw [hS43]; exact kT_nwo hk37 hzq42 (by decide)
  have hk45 : kT S43 q2 = 9 := by rw [hS43]; exact kT_nwo hk38 hzq42 (by decide)
  have hk46 : kT S43 q9 = 9 := by rw [hS43]; exact kT_nwo hk39 hzq42 (by decide)
  have hk47 : kT S43 q18 = 9 := by rw [hS43]; exact kT_nwo hk40 hzq42 (by decide)
  have hk48 : kT S43 q29 = 9 := by rw [hS43]; exact kT_nwo hk41 hzq42 (by decide)
  have hk49 : kT S43 q42 = 10 := by rw [hS43]; exact kT_nw _ _ _ _
  refine gd_putFR (pc := 41) (kf := 6) X ci6 (by decide) rfl rfl hin rfl tw_989 (rf_nar (by decide) q42) (rf_fit (by decide) q42) dX6_init_41 hk44 ?_
  refine gd_topS (fun S50 hS50 => ?_)
  have h := h S50 hS50
  have hk51 : kT S50 a0 = 7 := by rw [hS50]; exact hk44
  have hk52 : kT S50 q2 = 9 := by rw [hS50]; exact hk45
  have hk53 : kT S50 q9 = 9 := by rw [hS50]; exact hk46
  have hk54 : kT S50 q18 = 9 := by rw [hS50]; exact hk47
  have hk55 : kT S50 q29 = 9 := by rw [hS50]; exact hk48
  have hk56 : kT S50 q42 = 10 := by rw [hS50]; exact hk49
  refine gd_aload_n (pc := 44) X 0 dX6_init_44 rfl ?_
  refine gd_bipush (pc := 45) X (80) dX6_init_45 (by decide) ?_
  refine gd_newaI (pc := 47) (N := 80) X tw_53 (by decide) (by decide) (by decide) dX6_init_47 ⟨Nat.le_of_ble_eq_true rfl, Nat.le_of_ble_eq_true rfl⟩ (fun q57 hzq57 hnq57 => ?_)
  have h := h q57 hzq57 hnq57
  refine gd_wide (k2 := 6) (j2 := 480) (Nat.le_of_ble_eq_true rfl) (Nat.le_of_ble_eq_true rfl) ?_
  refine gd_topS (fun S58 hS58 => ?_)
  have h := h S58 hS58
  have hk59 : kT S58 a0 = 7 := by rw [hS58]; exact kT_nwo hk51 hzq57 (by decide)
  have hk60 : kT S58 q2 = 9 := by rw [hS58]; exact kT_nwo hk52 hzq57 (by decide)
  have hk61 : kT S58 q9 = 9 := by rw [hS58]; exact kT_nwo hk53 hzq57 (by decide)
  have hk62 : kT S58 q18 = 9 := by rw [hS58]; exact kT_nwo hk54 hzq57 (by decide)
  have hk63 : kT S58 q29 = 9 := by rw [hS58]; exact kT_nwo hk55 hzq57 (by decide)
  have hk64 : kT S58 q42 = 10 := by rw [hS58]; exact kT_nwo hk56 hzq57 (by decide)
  have hk65 : kT S58 q57 = 9 := by rw [hS58]; exact kT_nw _ _ _ _
  refine gd_putFR (pc := 49) (kf := 7) X ci6 (by decide) rfl rfl hin rfl tw_990 (rf_nar (by decide) q57) (rf_fit (by decide) q57) dX6_init_49 hk59 ?_
  refine gd_topS (fun S66 hS66 => ?_)
  have h := h S66 hS66
  have hk67 : kT S66 a0 = 7 := by rw [hS66]; exact hk59
  have hk68 : kT S66 q2 = 9 := by rw [hS66]; exact hk60
  have hk69 : kT S66 q9 = 9 := by rw [hS66]; exact hk61
  have hk70 : kT S66 q18 = 9 := by rw [hS66]; exact hk62
  have hk71 : kT S66 q29 = 9 := by rw [hS66]; exact hk63
  have hk72 : kT S66 q42 = 10 := by rw [hS66]; exact hk64
  have hk73 : kT S66 q57 = 9 := by rw [hS66]; exact hk65
  refine gd_aload_n (pc := 52) X 0 dX6_init_52 rfl ?_
  refine gd_sipush (pc := 53) X (9600) dX6_init_53 (by decide) ?_
  refine gd_newaI (pc := 56) (N := 9600) X tw_53 (by decide) (by decide) (by decide) dX6_init_56 ⟨Nat.le_of_ble_eq_true rfl, Nat.le_of_ble_eq_true rfl⟩ (fun q74 hzq74 hnq74 => ?_)
  have h := h q74 hzq74 hnq74
  refine gd_wide (k2 := 7) (j2 := 10080) (Nat.le_of_ble_eq_true rfl) (Nat.le_of_ble_eq_true rfl) ?_
  refine gd_topS (fun S75 hS75 => ?_)
  have h := h S75 hS75
  have hk76 : kT S75 a0 = 7 := by rw [hS75]; exact kT_nwo hk67 hzq74 (by decide)
  have hk77 : kT S75 q2 = 9 := by rw [hS75]; exact kT_nwo hk68 hzq74 (by decide)
  have hk78 : kT S75 q9 = 9 := by rw [hS75]; exact kT_nwo hk69 hzq74 (by decide)
  have hk79 : kT S75 q18 = 9 := by rw [hS75]; exact kT_nwo hk70 hzq74 (by decide)
  have hk80 : kT S75 q29 = 9 := by rw [hS75]; exact kT_nwo hk71 hzq74 (by decide)
  have hk81 : kT S75 q42 = 10 := by rw [hS75]; exact kT_nwo hk72 hzq74 (by decide)
  have hk82 : kT S75 q57 = 9 := by rw [hS75]; exact kT_nwo hk73 hzq74 (by decide)
  have hk83 : kT S75 q74 = 9 := by rw [hS75]; exact kT_nw _ _ _ _
  refine gd_putFR (pc := 58) (kf := 8) X ci6 (by decide) rfl rfl hin rfl tw_991 (rf_nar (by decide) q74) (rf_fit (by decide) q74) dX6_init_58 hk76 ?_
  refine gd_topS (fun S84 hS84 => ?_)
  have h := h S84 hS84
  have hk85 : kT S84 a0 = 7 := by rw [hS84]; exact hk76
  have hk86 : kT S84 q2 = 9 := by rw [hS84]; exact hk77
  have hk87 : kT S84 q9 = 9 := by rw [hS84]; exact hk78
  have hk88 : kT S84 q18 = 9 := by rw [hS84]; exact hk79
  have hk89 : kT S84 q29 = 9 := by rw [hS84]; exact hk80
  have hk90 : kT S84 q42 = 10 := by rw [hS84]; exact hk81
  have hk91 : kT S84 q57 = 9 := by rw [hS84]; exact hk82
  have hk92 : kT S84 q74 = 9 := by rw [hS84]; exact hk83
  refine gd_aload_n (pc := 61) X 0 dX6_init_61 rfl ?_
  refine gd_sipush (pc := 62) X (2560) dX6_init_62 (by decide) ?_
  refine gd_newaI (pc := 65) (N := 2560) X tw_53 (by decide) (by decide) (by decide) dX6_init_65 ⟨Nat.le_of_ble_eq_true rfl, Nat.le_of_ble_eq_true rfl⟩ (fun q93 hzq93 hnq93 => ?_)
  have h := h q93 hzq93 hnq93
  refine gd_wide (k2 := 8) (j2 := 12640) (Nat.le_of_ble_eq_true rfl) (Nat.le_of_ble_eq_true rfl) ?_
  refine gd_topS (fun S94 hS94 => ?_)
  have h := h S94 hS94
  have hk95 : kT S94 a0 = 7 := by rw [hS94]; exact kT_nwo hk85 hzq93 (by decide)
  have hk96 : kT S94 q2 = 9 := by rw [hS94]; exact kT_nwo hk86 hzq93 (by decide)
  have hk97 : kT S94 q9 = 9 := by rw [hS94]; exact kT_nwo hk87 hzq93 (by decide)
  have hk98 : kT S94 q18 = 9 := by rw [hS94]; exact kT_nwo hk88 hzq93 (by decide)
  have hk99 : kT S94 q29 = 9 := by rw [hS94]; exact kT_nwo hk89 hzq93 (by decide)
  have hk100 : kT S94 q42 = 10 := by rw [hS94]; exact kT_nwo hk90 hzq93 (by decide)
  have hk101 : kT S94 q57 = 9 := by rw [hS94]; exact kT_nwo hk91 hzq93 (by decide)
  have hk102 : kT S94 q74 = 9 := by rw [hS94]; exact kT_nwo hk92 hzq93 (by decide)
  have hk103 : kT S94 q93 = 9 := by rw [hS94]; exact kT_nw _ _ _ _
  refine gd_putFR (pc := 67) (kf := 9) X ci6 (by decide) rfl rfl hin rfl tw_992 (rf_nar (by decide) q93) (rf_fit (by decide) q93) dX6_init_67 hk95 ?_
  refine gd_topS (fun S104 hS104 => ?_)
  have h := h S104 hS104
  have hk105 : kT S104 a0 = 7 := by rw [hS104]; exact hk95
  have hk106 : kT S104 q2 = 9 := by rw [hS104]; exact hk96
  have hk107 : kT S104 q9 = 9 := by rw [hS104]; exact hk97
  have hk108 : kT S104 q18 = 9 := by rw [hS104]; exact hk98
  have hk109 : kT S104 q29 = 9 := by rw [hS104]; exact hk99
  have hk110 : kT S104 q42 = 10 := by rw [hS104]; exact hk100
  have hk111 : kT S104 q57 = 9 := by rw [hS104]; exact hk101
  have hk112 : kT S104 q74 = 9 := by rw [hS104]; exact hk102
  have hk113 : kT S104 q93 = 9 := by rw [hS104]; exact hk103
  refine gd_aload_n (pc := 70) X 0 dX6_init_70 rfl ?_
  refine gd_sipush (pc := 71) X (2560) dX6_init_71 (by decide) ?_
  refine gd_newaI (pc := 74) (N := 2560) X tw_53 (by decide) (by decide) (by decide) dX6_init_74 ⟨Nat.le_of_ble_eq_true rfl, Nat.le_of_ble_eq_true rfl⟩ (fun q114 hzq114 hnq114 => ?_)
  have h := h q114 hzq114 hnq114
  refine gd_wide (k2 := 9) (j2 := 15200) (Nat.le_of_ble_eq_true rfl) (Nat.le_of_ble_eq_true rfl) ?_
  refine gd_topS (fun S115 hS115 => ?_)
  have h := h S115 hS115
  have hk116 : kT S115 a0 = 7 := by rw [hS115]; exact kT_nwo hk105 hzq114 (by decide)
  have hk117 : kT S115 q2 = 9 := by rw [hS115]; exact kT_nwo hk106 hzq114 (by decide)
  have hk118 : kT S115 q9 = 9 := by rw [hS115]; exact kT_nwo hk107 hzq114 (by decide)
  have hk119 : kT S115 q18 = 9 := by rw [hS115]; exact kT_nwo hk108 hzq114 (by decide)
  have hk120 : kT S115 q29 = 9 := by rw [hS115]; exact kT_nwo hk109 hzq114 (by decide)
  have hk121 : kT S115 q42 = 10 := by rw [hS115]; exact kT_nwo hk110 hzq114 (by decide)
  have hk122 : kT S115 q57 = 9 := by rw [hS115]; exact kT_nwo hk111 hzq114 (by decide)
  have hk123 : kT S115 q74 = 9 := by rw [hS115]; exact kT_nwo hk112 hzq114 (by decide)
  have hk124 : kT S115 q93 = 9 := by rw [hS115]; exact kT_nwo hk113 hzq114 (by decide)
  have hk125 : kT S115 q114 = 9 := by rw [hS115]; exact kT_nw _ _ _ _
  refine gd_putFR (pc := 76) (kf := 10) X ci6 (by decide) rfl rfl hin rfl tw_993 (rf_nar (by decide) q114) (rf_fit (by decide) q114) dX6_init_76 hk116 ?_
  refine gd_topS (fun S126 hS126 => ?_)
  have h := h S126 hS126
  have hk127 : kT S126 a0 = 7 := by rw [hS126]; exact hk116
  have hk128 : kT S126 q2 = 9 := by rw [hS126]; exact hk117
  have hk129 : kT S126 q9 = 9 := by rw [hS126]; exact hk118
  have hk130 : kT S126 q18 = 9 := by rw [hS126]; exact hk119
  have hk131 : kT S126 q29 = 9 := by rw [hS126]; exact hk120
  have hk132 : kT S126 q42 = 10 := by rw [hS126]; exact hk121
  have hk133 : kT S126 q57 = 9 := by rw [hS126]; exact hk122
  have hk134 : kT S126 q74 = 9 := by rw [hS126]; exact hk123
  have hk135 : kT S126 q93 = 9 := by rw [hS126]; exact hk124
  have hk136 : kT S126 q114 = 9 := by rw [hS126]; exact hk125
  refine gd_aload_n (pc := 79) X 0 dX6_init_79 rfl ?_
  refine gd_sipush (pc := 80) X (7680) dX6_init_80 (by decide) ?_
  refine gd_newaI (pc := 83) (N := 7680) X tw_53 (by decide) (by decide) (by decide) dX6_init_83 ⟨Nat.le_of_ble_eq_true rfl, Nat.le_of_ble_eq_true rfl⟩ (fun q137 hzq137 hnq137 => ?_)
  have h := h q137 hzq137 hnq137
  refine gd_wide (k2 := 10) (j2 := 22880) (Nat.le_of_ble_eq_true rfl) (Nat.le_of_ble_eq_true rfl) ?_
  refine gd_topS (fun S138 hS138 => ?_)
  have h := h S138 hS138
  have hk139 : kT S138 a0 = 7 := by rw [hS138]; exact kT_nwo hk127 hzq137 (by decide)
  have hk140 : kT S138 q2 = 9 := by rw [hS138]; exact kT_nwo hk128 hzq137 (by decide)
  have hk141 : kT S138 q9 = 9 := by rw [hS138]; exact kT_nwo hk129 hzq137 (by decide)
  have hk142 : kT S138 q18 = 9 := by rw [hS138]; exact kT_nwo hk130 hzq137 (by decide)
  have hk143 : kT S138 q29 = 9 := by rw [hS138]; exact kT_nwo hk131 hzq137 (by decide)
  have hk144 : kT S138 q42 = 10 := by rw [hS138]; exact kT_nwo hk132 hzq137 (by decide)
  have hk145 : kT S138 q57 = 9 := by rw [hS138]; exact kT_nwo hk133 hzq137 (by decide)
  have hk146 : kT S138 q74 = 9 := by rw [hS138]; exact kT_nwo hk134 hzq137 (by decide)
  have hk147 : kT S138 q93 = 9 := by rw [hS138]; exact kT_nwo hk135 hzq137 (by decide)
  have hk148 : kT S138 q114 = 9 := by rw [hS138]; exact kT_nwo hk136 hzq137 (by decide)
  have hk149 : kT S138 q137 = 9 := by rw [hS138]; exact kT_nw _ _ _ _
  refine gd_putFR (pc := 85) (kf := 11) X ci6 (by decide) rfl rfl hin rfl tw_994 (rf_nar (by decide) q137) (rf_fit (by decide) q137) dX6_init_85 hk139 ?_
  refine gd_topS (fun S150 hS150 => ?_)
  have h := h S150 hS150
  have hk151 : kT S150 a0 = 7 := by rw [hS150]; exact hk139
  have hk152 : kT S150 q2 = 9 := by rw [hS150]; exact hk140
  have hk153 : kT S150 q9 = 9 := by rw [hS150]; exact hk141
  have hk154 : kT S150 q18 = 9 := by rw [hS150]; exact hk142
  have hk155 : kT S150 q29 = 9 := by rw [hS150]; exact hk143
  have hk156 : kT S150 q42 = 10 := by rw [hS150]; exact hk144
  have hk157 : kT S150 q57 = 9 := by rw [hS150]; exact hk145
  have hk158 : kT S150 q74 = 9 := by rw [hS150]; exact hk146
  have hk159 : kT S150 q93 = 9 := by rw [hS150]; exact hk147
  have hk160 : kT S150 q114 = 9 := by rw [hS150]; exact hk148
  have hk161 : kT S150 q137 = 9 := by rw [hS150]; exact hk149
  refine gd_aload_n (pc := 88) X 0 dX6_init_88 rfl ?_
  refine gd_bipush (pc := 89) X (80) dX6_init_89 (by decide) ?_
  refine gd_newaI (pc := 91) (N := 80) X tw_53 (by decide) (by decide) (by decide) dX6_init_91 ⟨Nat.le_of_ble_eq_true rfl, Nat.le_of_ble_eq_true rfl⟩ (fun q162 hzq162 hnq162 => ?_)
  have h := h q162 hzq162 hnq162
  refine gd_wide (k2 := 11) (j2 := 22960) (Nat.le_of_ble_eq_true rfl) (Nat.le_of_ble_eq_true rfl) ?_
  refine gd_topS (fun S163 hS163 => ?_)
  have h := h S163 hS163
  have hk164 : kT S163 a0 = 7 := by rw [hS163]; exact kT_nwo hk151 hzq162 (by decide)
  have hk165 : kT S163 q2 = 9 := by rw [hS163]; exact kT_nwo hk152 hzq162 (by decide)
  have hk166 : kT S163 q9 = 9 := by rw [hS163]; exact kT_nwo hk153 hzq162 (by decide)
  have hk167 : kT S163 q18 = 9 := by rw [hS163]; exact kT_nwo hk154 hzq162 (by decide)
  have hk168 : kT S163 q29 = 9 := by rw [hS163]; exact kT_nwo hk155 hzq162 (by decide)
  have hk169 : kT S163 q42 = 10 := by rw [hS163]; exact kT_nwo hk156 hzq162 (by decide)
  have hk170 : kT S163 q57 = 9 := by rw [hS163]; exact kT_nwo hk157 hzq162 (by decide)
  have hk171 : kT S163 q74 = 9 := by rw [hS163]; exact kT_nwo hk158 hzq162 (by decide)
  have hk172 : kT S163 q93 = 9 := by rw [hS163]; exact kT_nwo hk159 hzq162 (by decide)
  have hk173 : kT S163 q114 = 9 := by rw [hS163]; exact kT_nwo hk160 hzq162 (by decide)
  have hk174 : kT S163 q137 = 9 := by rw [hS163]; exact kT_nwo hk161 hzq162 (by decide)
  have hk175 : kT S163 q162 = 9 := by rw [hS163]; exact kT_nw _ _ _ _
  refine gd_putFR (pc := 93) (kf := 12) X ci6 (by decide) rfl rfl hin rfl tw_995 (rf_nar (by decide) q162) (rf_fit (by decide) q162) dX6_init_93 hk164 ?_
  refine gd_topS (fun S176 hS176 => ?_)
  have h := h S176 hS176
  have hk177 : kT S176 a0 = 7 := by rw [hS176]; exact hk164
  have hk178 : kT S176 q2 = 9 := by rw [hS176]; exact hk165
  have hk179 : kT S176 q9 = 9 := by rw [hS176]; exact hk166
  have hk180 : kT S176 q18 = 9 := by rw [hS176]; exact hk167
  have hk181 : kT S176 q29 = 9 := by rw [hS176]; exact hk168
  have hk182 : kT S176 q42 = 10 := by rw [hS176]; exact hk169
  have hk183 : kT S176 q57 = 9 := by rw [hS176]; exact hk170
  have hk184 : kT S176 q74 = 9 := by rw [hS176]; exact hk171
  have hk185 : kT S176 q93 = 9 := by rw [hS176]; exact hk172
  have hk186 : kT S176 q114 = 9 := by rw [hS176]; exact hk173
  have hk187 : kT S176 q137 = 9 := by rw [hS176]; exact hk174
  have hk188 : kT S176 q162 = 9 := by rw [hS176]; exact hk175
  refine gd_aload_n (pc := 96) X 0 dX6_init_96 rfl ?_
  refine gd_iconst (pc := 97) X (-1) dX6_init_97 (by decide) ?_
  refine gd_putI (pc := 98) (kf := 13) X ci6 (by decide) rfl rfl tw_996 rfl rfl dX6_init_98 hk177 ?_
  refine gd_topS (fun S189 hS189 => ?_)
  have h := h S189 hS189
  have hk190 : kT S189 a0 = 7 := by rw [hS189]; exact hk177
  have hk191 : kT S189 q2 = 9 := by rw [hS189]; exact hk178
  have hk192 : kT S189 q9 = 9 := by rw [hS189]; exact hk179
  have hk193 : kT S189 q18 = 9 := by rw [hS189]; exact hk180
  have hk194 : kT S189 q29 = 9 := by rw [hS189]; exact hk181
  have hk195 : kT S189 q42 = 10 := by rw [hS189]; exact hk182
  have hk196 : kT S189 q57 = 9 := by rw [hS189]; exact hk183
  have hk197 : kT S189 q74 = 9 := by rw [hS189]; exact hk184
  have hk198 : kT S189 q93 = 9 := by rw [hS189]; exact hk185
  have hk199 : kT S189 q114 = 9 := by rw [hS189]; exact hk186
  have hk200 : kT S189 q137 = 9 := by rw [hS189]; exact hk187
  have hk201 : kT S189 q162 = 9 := by rw [hS189]; exact hk188
  refine gd_aload_n (pc := 101) X 0 dX6_init_101 rfl ?_
  refine gd_sipush (pc := 102) X (1952) dX6_init_102 (by decide) ?_
  refine gd_newaI (pc := 105) (N := 1952) X tw_53 (by decide) (by decide) (by decide) dX6_init_105 ⟨Nat.le_of_ble_eq_true rfl, Nat.le_of_ble_eq_true rfl⟩ (fun q202 hzq202 hnq202 => ?_)
  have h := h q202 hzq202 hnq202
  refine gd_wide (k2 := 12) (j2 := 24912) (Nat.le_of_ble_eq_true rfl) (Nat.le_of_ble_eq_true rfl) ?_
  refine gd_topS (fun S203 hS203 => ?_)
  have h := h S203 hS203
  have hk204 : kT S203 a0 = 7 := by rw [hS203]; exact kT_nwo hk190 hzq202 (by decide)
  have hk205 : kT S203 q2 = 9 := by rw [hS203]; exact kT_nwo hk191 hzq202 (by decide)
  have hk206 : kT S203 q9 = 9 := by rw [hS203]; exact kT_nwo hk192 hzq202 (by decide)
  have hk207 : kT S203 q18 = 9 := by rw [hS203]; exact kT_nwo hk193 hzq202 (by decide)
  have hk208 : kT S203 q29 = 9 := by rw [hS203]; exact kT_nwo hk194 hzq202 (by decide)
  have hk209 : kT S203 q42 = 10 := by rw [hS203]; exact kT_nwo hk195 hzq202 (by decide)
  have hk210 : kT S203 q57 = 9 := by rw [hS203]; exact kT_nwo hk196 hzq202 (by decide)
  have hk211 : kT S203 q74 = 9 := by rw [hS203]; exact kT_nwo hk197 hzq202 (by decide)
  have hk212 : kT S203 q93 = 9 := by rw [hS203]; exact kT_nwo hk198 hzq202 (by decide)
  have hk213 : kT S203 q114 = 9 := by rw [hS203]; exact kT_nwo hk199 hzq202 (by decide)
  have hk214 : kT S203 q137 = 9 := by rw [hS203]; exact kT_nwo hk200 hzq202 (by decide)
  have hk215 : kT S203 q162 = 9 := by rw [hS203]; exact kT_nwo hk201 hzq202 (by decide)
  have hk216 : kT S203 q202 = 9 := by rw [hS203]; exact kT_nw _ _ _ _
  refine gd_putFR (pc := 107) (kf := 15) X ci6 (by decide) rfl rfl hin rfl tw_998 (rf_nar (by decide) q202) (rf_fit (by decide) q202) dX6_init_107 hk204 ?_
  refine gd_topS (fun S217 hS217 => ?_)
  have h := h S217 hS217
  have hk218 : kT S217 a0 = 7 := by rw [hS217]; exact hk204
  have hk219 : kT S217 q2 = 9 := by rw [hS217]; exact hk205
  have hk220 : kT S217 q9 = 9 := by rw [hS217]; exact hk206
  have hk221 : kT S217 q18 = 9 := by rw [hS217]; exact hk207
  have hk222 : kT S217 q29 = 9 := by rw [hS217]; exact hk208
  have hk223 : kT S217 q42 = 10 := by rw [hS217]; exact hk209
  have hk224 : kT S217 q57 = 9 := by rw [hS217]; exact hk210
  have hk225 : kT S217 q74 = 9 := by rw [hS217]; exact hk211
  have hk226 : kT S217 q93 = 9 := by rw [hS217]; exact hk212
  have hk227 : kT S217 q114 = 9 := by rw [hS217]; exact hk213
  have hk228 : kT S217 q137 = 9 := by rw [hS217]; exact hk214
  have hk229 : kT S217 q162 = 9 := by rw [hS217]; exact hk215
  have hk230 : kT S217 q202 = 9 := by rw [hS217]; exact hk216
  refine gd_aload_n (pc := 110) X 0 dX6_init_110 rfl ?_
  refine gd_bipush (pc := 111) X (61) dX6_init_111 (by decide) ?_
  refine gd_newaI (pc := 113) (N := 61) X tw_53 (by decide) (by decide) (by decide) dX6_init_113 ⟨Nat.le_of_ble_eq_true rfl, Nat.le_of_ble_eq_true rfl⟩ (fun q231 hzq231 hnq231 => ?_)
  have h := h q231 hzq231 hnq231
  refine gd_wide (k2 := 13) (j2 := 24973) (Nat.le_of_ble_eq_true rfl) (Nat.le_of_ble_eq_true rfl) ?_
  refine gd_topS (fun S232 hS232 => ?_)
  have h := h S232 hS232
  have hk233 : kT S232 a0 = 7 := by rw [hS232]; exact kT_nwo hk218 hzq231 (by decide)
  have hk234 : kT S232 q2 = 9 := by rw [hS232]; exact kT_nwo hk219 hzq231 (by decide)
  have hk235 : kT S232 q9 = 9 := by rw [hS232]; exact kT_nwo hk220 hzq231 (by decide)
  have hk236 : kT S232 q18 = 9 := by rw [hS232]; exact kT_nwo hk221 hzq231 (by decide)
  have hk237 : kT S232 q29 = 9 := by rw [hS232]; exact kT_nwo hk222 hzq231 (by decide)
  have hk238 : kT S232 q42 = 10 := by rw [hS232]; exact kT_nwo hk223 hzq231 (by decide)
  have hk239 : kT S232 q57 = 9 := by rw [hS232]; exact kT_nwo hk224 hzq231 (by decide)
  have hk240 : kT S232 q74 = 9 := by rw [hS232]; exact kT_nwo hk225 hzq231 (by decide)
  have hk241 : kT S232 q93 = 9 := by rw [hS232]; exact kT_nwo hk226 hzq231 (by decide)
  have hk242 : kT S232 q114 = 9 := by rw [hS232]; exact kT_nwo hk227 hzq231 (by decide)
  have hk243 : kT S232 q137 = 9 := by rw [hS232]; exact kT_nwo hk228 hzq231 (by decide)
  have hk244 : kT S232 q162 = 9 := by rw [hS232]; exact kT_nwo hk229 hzq231 (by decide)
  have hk245 : kT S232 q202 = 9 := by rw [hS232]; exact kT_nwo hk230 hzq231 (by decide)
  have hk246 : kT S232 q231 = 9 := by rw [hS232]; exact kT_nw _ _ _ _
  refine gd_putFR (pc := 115) (kf := 16) X ci6 (by decide) rfl rfl hin rfl tw_999 (rf_nar (by decide) q231) (rf_fit (by decide) q231) dX6_init_115 hk233 ?_
  refine gd_topS (fun S247 hS247 => ?_)
  have h := h S247 hS247
  have hk248 : kT S247 a0 = 7 := by rw [hS247]; exact hk233
  have hk249 : kT S247 q2 = 9 := by rw [hS247]; exact hk234
  have hk250 : kT S247 q9 = 9 := by rw [hS247]; exact hk235
  have hk251 : kT S247 q18 = 9 := by rw [hS247]; exact hk236
  have hk252 : kT S247 q29 = 9 := by rw [hS247]; exact hk237
  have hk253 : kT S247 q42 = 10 := by rw [hS247]; exact hk238
  have hk254 : kT S247 q57 = 9 := by rw [hS247]; exact hk239
  have hk255 : kT S247 q74 = 9 := by rw [hS247]; exact hk240
  have hk256 : kT S247 q93 = 9 := by rw [hS247]; exact hk241
  have hk257 : kT S247 q114 = 9 := by rw [hS247]; exact hk242
  have hk258 : kT S247 q137 = 9 := by rw [hS247]; exact hk243
  have hk259 : kT S247 q162 = 9 := by rw [hS247]; exact hk244
  have hk260 : kT S247 q202 = 9 := by rw [hS247]; exact hk245
  have hk261 : kT S247 q231 = 9 := by rw [hS247]; exact hk246
  refine gd_aload_n (pc := 118) X 0 dX6_init_118 rfl ?_
  refine gd_iconst (pc := 119) X (3) dX6_init_119 (by decide) ?_
  refine gd_putI (pc := 120) (kf := 19) X ci6 (by decide) rfl rfl tw_1002 rfl rfl dX6_init_120 hk248 ?_
  refine gd_topS (fun S262 hS262 => ?_)
  have h := h S262 hS262
  have hk263 : kT S262 a0 = 7 := by rw [hS262]; exact hk248
  have hk264 : kT S262 q2 = 9 := by rw [hS262]; exact hk249
  have hk265 : kT S262 q9 = 9 := by rw [hS262]; exact hk250
  have hk266 : kT S262 q18 = 9 := by rw [hS262]; exact hk251
  have hk267 : kT S262 q29 = 9 := by rw [hS262]; exact hk252
  have hk268 : kT S262 q42 = 10 := by rw [hS262]; exact hk253
  have hk269 : kT S262 q57 = 9 := by rw [hS262]; exact hk254
  have hk270 : kT S262 q74 = 9 := by rw [hS262]; exact hk255
  have hk271 : kT S262 q93 = 9 := by rw [hS262]; exact hk256
  have hk272 : kT S262 q114 = 9 := by rw [hS262]; exact hk257
  have hk273 : kT S262 q137 = 9 := by rw [hS262]; exact hk258
  have hk274 : kT S262 q162 = 9 := by rw [hS262]; exact hk259
  have hk275 : kT S262 q202 = 9 := by rw [hS262]; exact hk260
  have hk276 : kT S262 q231 = 9 := by rw [hS262]; exact hk261
  refine gd_aload_n (pc := 123) X 0 dX6_init_123 rfl ?_
  refine gd_bipush (pc := 124) X (12) dX6_init_124 (by decide) ?_
  refine gd_newaI (pc := 126) (N := 12) X tw_53 (by decide) (by decide) (by decide) dX6_init_126 ⟨Nat.le_of_ble_eq_true rfl, Nat.le_of_ble_eq_true rfl⟩ (fun q277 hzq277 hnq277 => ?_)
  have h := h q277 hzq277 hnq277
  refine gd_wide (k2 := 14) (j2 := 24985) (Nat.le_of_ble_eq_true rfl) (Nat.le_of_ble_eq_true rfl) ?_
  refine gd_topS (fun S278 hS278 => ?_)
  have h := h S278 hS278
  have hk279 : kT S278 a0 = 7 := by rw [hS278]; exact kT_nwo hk263 hzq277 (by decide)
  have hk280 : kT S278 q2 = 9 := by rw [hS278]; exact kT_nwo hk264 hzq277 (by decide)
  have hk281 : kT S278 q9 = 9 := by rw [hS278]; exact kT_nwo hk265 hzq277 (by decide)
  have hk282 : kT S278 q18 = 9 := by rw [hS278]; exact kT_nwo hk266 hzq277 (by decide)
  have hk283 : kT S278 q29 = 9 := by rw [hS278]; exact kT_nwo hk267 hzq277 (by decide)
  have hk284 : kT S278 q42 = 10 := by rw [hS278]; exact kT_nwo hk268 hzq277 (by decide)
  have hk285 : kT S278 q57 = 9 := by rw [hS278]; exact kT_nwo hk269 hzq277 (by decide)
  have hk286 : kT S278 q74 = 9 := by rw [hS278]; exact kT_nwo hk270 hzq277 (by decide)
  have hk287 : kT S278 q93 = 9 := by rw [hS278]; exact kT_nwo hk271 hzq277 (by decide)
  have hk288 : kT S278 q114 = 9 := by rw [hS278]; exact kT_nwo hk272 hzq277 (by decide)
  have hk289 : kT S278 q137 = 9 := by rw [hS278]; exact kT_nwo hk273 hzq277 (by decide)
  have hk290 : kT S278 q162 = 9 := by rw [hS278]; exact kT_nwo hk274 hzq277 (by decide)
  have hk291 : kT S278 q202 = 9 := by rw [hS278]; exact kT_nwo hk275 hzq277 (by decide)
  have hk292 : kT S278 q231 = 9 := by rw [hS278]; exact kT_nwo hk276 hzq277 (by decide)
  have hk293 : kT S278 q277 = 9 := by rw [hS278]; exact kT_nw _ _ _ _
  refine gd_putFR (pc := 128) (kf := 20) X ci6 (by decide) rfl rfl hin rfl tw_1003 (rf_nar (by decide) q277) (rf_fit (by decide) q277) dX6_init_128 hk279 ?_
  refine gd_topS (fun S294 hS294 => ?_)
  have h := h S294 hS294
  have hk295 : kT S294 a0 = 7 := by rw [hS294]; exact hk279
  have hk296 : kT S294 q2 = 9 := by rw [hS294]; exact hk280
  have hk297 : kT S294 q9 = 9 := by rw [hS294]; exact hk281
  have hk298 : kT S294 q18 = 9 := by rw [hS294]; exact hk282
  have hk299 : kT S294 q29 = 9 := by rw [hS294]; exact hk283
  have hk300 : kT S294 q42 = 10 := by rw [hS294]; exact hk284
  have hk301 : kT S294 q57 = 9 := by rw [hS294]; exact hk285
  have hk302 : kT S294 q74 = 9 := by rw [hS294]; exact hk286
  have hk303 : kT S294 q93 = 9 := by rw [hS294]; exact hk287
  have hk304 : kT S294 q114 = 9 := by rw [hS294]; exact hk288
  have hk305 : kT S294 q137 = 9 := by rw [hS294]; exact hk289
  have hk306 : kT S294 q162 = 9 := by rw [hS294]; exact hk290
  have hk307 : kT S294 q202 = 9 := by rw [hS294]; exact hk291
  have hk308 : kT S294 q231 = 9 := by rw [hS294]; exact hk292
  have hk309 : kT S294 q277 = 9 := by rw [hS294]; exact hk293
  refine gd_aload_n (pc := 131) X 0 dX6_init_131 rfl ?_
  refine gd_bipush (pc := 132) X (61) dX6_init_132 (by decide) ?_
  refine gd_newaI (pc := 134) (N := 61) X tw_53 (by decide) (by decide) (by decide) dX6_init_134 ⟨Nat.le_of_ble_eq_true rfl, Nat.le_of_ble_eq_true rfl⟩ (fun q310 hzq310 hnq310 => ?_)
  have h := h q310 hzq310 hnq310
  refine gd_wide (k2 := 15) (j2 := 25046) (Nat.le_of_ble_eq_true rfl) (Nat.le_of_ble_eq_true rfl) ?_
  refine gd_topS (fun S311 hS311 => ?_)
  have h := h S311 hS311
  have hk312 : kT S311 a0 = 7 := by rw [hS311]; exact kT_nwo hk295 hzq310 (by decide)
  have hk313 : kT S311 q2 = 9 := by rw [hS311]; exact kT_nwo hk296 hzq310 (by decide)
  have hk314 : kT S311 q9 = 9 := by rw [hS311]; exact kT_nwo hk297 hzq310 (by decide)
  have hk315 : kT S311 q18 = 9 := by rw [hS311]; exact kT_nwo hk298 hzq310 (by decide)
  have hk316 : kT S311 q29 = 9 := by rw [hS311]; exact kT_nwo hk299 hzq310 (by decide)
  have hk317 : kT S311 q42 = 10 := by rw [hS311]; exact kT_nwo hk300 hzq310 (by decide)
  have hk318 : kT S311 q57 = 9 := by rw [hS311]; exact kT_nwo hk301 hzq310 (by decide)
  have hk319 : kT S311 q74 = 9 := by rw [hS311]; exact kT_nwo hk302 hzq310 (by decide)
  have hk320 : kT S311 q93 = 9 := by rw [hS311]; exact kT_nwo hk303 hzq310 (by decide)
  have hk321 : kT S311 q114 = 9 := by rw [hS311]; exact kT_nwo hk304 hzq310 (by decide)
  have hk322 : kT S311 q137 = 9 := by rw [hS311]; exact kT_nwo hk305 hzq310 (by decide)
  have hk323 : kT S311 q162 = 9 := by rw [hS311]; exact kT_nwo hk306 hzq310 (by decide)
  have hk324 : kT S311 q202 = 9 := by rw [hS311]; exact kT_nwo hk307 hzq310 (by decide)
  have hk325 : kT S311 q231 = 9 := by rw [hS311]; exact kT_nwo hk308 hzq310 (by decide)
  have hk326 : kT S311 q277 = 9 := by rw [hS311]; exact kT_nwo hk309 hzq310 (by decide)
  have hk327 : kT S311 q310 = 9 := by rw [hS311]; exact kT_nw _ _ _ _
  refine gd_putFR (pc := 136) (kf := 22) X ci6 (by decide) rfl rfl hin rfl tw_1005 (rf_nar (by decide) q310) (rf_fit (by decide) q310) dX6_init_136 hk312 ?_
  refine gd_topS (fun S328 hS328 => ?_)
  have h := h S328 hS328
  have hk329 : kT S328 a0 = 7 := by rw [hS328]; exact hk312
  have hk330 : kT S328 q2 = 9 := by rw [hS328]; exact hk313
  have hk331 : kT S328 q9 = 9 := by rw [hS328]; exact hk314
  have hk332 : kT S328 q18 = 9 := by rw [hS328]; exact hk315
  have hk333 : kT S328 q29 = 9 := by rw [hS328]; exact hk316
  have hk334 : kT S328 q42 = 10 := by rw [hS328]; exact hk317
  have hk335 : kT S328 q57 = 9 := by rw [hS328]; exact hk318
  have hk336 : kT S328 q74 = 9 := by rw [hS328]; exact hk319
  have hk337 : kT S328 q93 = 9 := by rw [hS328]; exact hk320
  have hk338 : kT S328 q114 = 9 := by rw [hS328]; exact hk321
  have hk339 : kT S328 q137 = 9 := by rw [hS328]; exact hk322
  have hk340 : kT S328 q162 = 9 := by rw [hS328]; exact hk323
  have hk341 : kT S328 q202 = 9 := by rw [hS328]; exact hk324
  have hk342 : kT S328 q231 = 9 := by rw [hS328]; exact hk325
  have hk343 : kT S328 q277 = 9 := by rw [hS328]; exact hk326
  have hk344 : kT S328 q310 = 9 := by rw [hS328]; exact hk327
  refine gd_aload_n (pc := 139) X 0 dX6_init_139 rfl ?_
  refine gd_bipush (pc := 140) X (32) dX6_init_140 (by decide) ?_
  refine gd_newaI (pc := 142) (N := 32) X tw_53 (by decide) (by decide) (by decide) dX6_init_142 ⟨Nat.le_of_ble_eq_true rfl, Nat.le_of_ble_eq_true rfl⟩ (fun q345 hzq345 hnq345 => ?_)
  have h := h q345 hzq345 hnq345
  refine gd_wide (k2 := 16) (j2 := 25078) (Nat.le_of_ble_eq_true rfl) (Nat.le_of_ble_eq_true rfl) ?_
  refine gd_topS (fun S346 hS346 => ?_)
  have h := h S346 hS346
  have hk347 : kT S346 a0 = 7 := by rw [hS346]; exact kT_nwo hk329 hzq345 (by decide)
  have hk348 : kT S346 q2 = 9 := by rw [hS346]; exact kT_nwo hk330 hzq345 (by decide)
  have hk349 : kT S346 q9 = 9 := by rw [hS346]; exact kT_nwo hk331 hzq345 (by decide)
  have hk350 : kT S346 q18 = 9 := by rw [hS346]; exact kT_nwo hk332 hzq345 (by decide)
  have hk351 : kT S346 q29 = 9 := by rw [hS346]; exact kT_nwo hk333 hzq345 (by decide)
  have hk352 : kT S346 q42 = 10 := by rw [hS346]; exact kT_nwo hk334 hzq345 (by decide)
  have hk353 : kT S346 q57 = 9 := by rw [hS346]; exact kT_nwo hk335 hzq345 (by decide)
  have hk354 : kT S346 q74 = 9 := by rw [hS346]; exact kT_nwo hk336 hzq345 (by decide)
  have hk355 : kT S346 q93 = 9 := by rw [hS346]; exact kT_nwo hk337 hzq345 (by decide)
  have hk356 : kT S346 q114 = 9 := by rw [hS346]; exact kT_nwo hk338 hzq345 (by decide)
  have hk357 : kT S346 q137 = 9 := by rw [hS346]; exact kT_nwo hk339 hzq345 (by decide)
  have hk358 : kT S346 q162 = 9 := by rw [hS346]; exact kT_nwo hk340 hzq345 (by decide)
  have hk359 : kT S346 q202 = 9 := by rw [hS346]; exact kT_nwo hk341 hzq345 (by decide)
  have hk360 : kT S346 q231 = 9 := by rw [hS346]; exact kT_nwo hk342 hzq345 (by decide)
  have hk361 : kT S346 q277 = 9 := by rw [hS346]; exact kT_nwo hk343 hzq345 (by decide)
  have hk362 : kT S346 q310 = 9 := by rw [hS346]; exact kT_nwo hk344 hzq345 (by decide)
  have hk363 : kT S346 q345 = 9 := by rw [hS346]; exact kT_nw _ _ _ _
  refine gd_putFR (pc := 144) (kf := 23) X ci6 (by decide) rfl rfl hin rfl tw_1006 (rf_nar (by decide) q345) (rf_fit (by decide) q345) dX6_init_144 hk347 ?_
  refine gd_topS (fun S364 hS364 => ?_)
  have h := h S364 hS364
  have hk365 : kT S364 a0 = 7 := by rw [hS364]; exact hk347
  have hk366 : kT S364 q2 = 9 := by rw [hS364]; exact hk348
  have hk367 : kT S364 q9 = 9 := by rw [hS364]; exact hk349
  have hk368 : kT S364 q18 = 9 := by rw [hS364]; exact hk350
  have hk369 : kT S364 q29 = 9 := by rw [hS364]; exact hk351
  have hk370 : kT S364 q42 = 10 := by rw [hS364]; exact hk352
  have hk371 : kT S364 q57 = 9 := by rw [hS364]; exact hk353
  have hk372 : kT S364 q74 = 9 := by rw [hS364]; exact hk354
  have hk373 : kT S364 q93 = 9 := by rw [hS364]; exact hk355
  have hk374 : kT S364 q114 = 9 := by rw [hS364]; exact hk356
  have hk375 : kT S364 q137 = 9 := by rw [hS364]; exact hk357
  have hk376 : kT S364 q162 = 9 := by rw [hS364]; exact hk358
  have hk377 : kT S364 q202 = 9 := by rw [hS364]; exact hk359
  have hk378 : kT S364 q231 = 9 := by rw [hS364]; exact hk360
  have hk379 : kT S364 q277 = 9 := by rw [hS364]; exact hk361
  have hk380 : kT S364 q310 = 9 := by rw [hS364]; exact hk362
  have hk381 : kT S364 q345 = 9 := by rw [hS364]; exact hk363
  refine gd_aload_n (pc := 147) X 0 dX6_init_147 rfl ?_
  refine gd_bipush (pc := 148) X (60) dX6_init_148 (by decide) ?_
  refine gd_newaI (pc := 150) (N := 60) X tw_53 (by decide) (by decide) (by decide) dX6_init_150 ⟨Nat.le_of_ble_eq_true rfl, Nat.le_of_ble_eq_true rfl⟩ (fun q382 hzq382 hnq382 => ?_)
  have h := h q382 hzq382 hnq382
  refine gd_wide (k2 := 17) (j2 := 25138) (Nat.le_of_ble_eq_true rfl) (Nat.le_of_ble_eq_true rfl) ?_
  refine gd_topS (fun S383 hS383 => ?_)
  have h := h S383 hS383
  have hk384 : kT S383 a0 = 7 := by rw [hS383]; exact kT_nwo hk365 hzq382 (by decide)
  have hk385 : kT S383 q2 = 9 := by rw [hS383]; exact kT_nwo hk366 hzq382 (by decide)
  have hk386 : kT S383 q9 = 9 := by rw [hS383]; exact kT_nwo hk367 hzq382 (by decide)
  have hk387 : kT S383 q18 = 9 := by rw [hS383]; exact kT_nwo hk368 hzq382 (by decide)
  have hk388 : kT S383 q29 = 9 := by rw [hS383]; exact kT_nwo hk369 hzq382 (by decide)
  have hk389 : kT S383 q42 = 10 := by rw [hS383]; exact kT_nwo hk370 hzq382 (by decide)
  have hk390 : kT S383 q57 = 9 := by rw [hS383]; exact kT_nwo hk371 hzq382 (by decide)
  have hk391 : kT S383 q74 = 9 := by rw [hS383]; exact kT_nwo hk372 hzq382 (by decide)
  have hk392 : kT S383 q93 = 9 := by rw [hS383]; exact kT_nwo hk373 hzq382 (by decide)
  have hk393 : kT S383 q114 = 9 := by rw [hS383]; exact kT_nwo hk374 hzq382 (by decide)
  have hk394 : kT S383 q137 = 9 := by rw [hS383]; exact kT_nwo hk375 hzq382 (by decide)
  have hk395 : kT S383 q162 = 9 := by rw [hS383]; exact kT_nwo hk376 hzq382 (by decide)
  have hk396 : kT S383 q202 = 9 := by rw [hS383]; exact kT_nwo hk377 hzq382 (by decide)
  have hk397 : kT S383 q231 = 9 := by rw [hS383]; exact kT_nwo hk378 hzq382 (by decide)
  have hk398 : kT S383 q277 = 9 := by rw [hS383]; exact kT_nwo hk379 hzq382 (by decide)
  have hk399 : kT S383 q310 = 9 := by rw [hS383]; exact kT_nwo hk380 hzq382 (by decide)
  have hk400 : kT S383 q345 = 9 := by rw [hS383]; exact kT_nwo hk381 hzq382 (by decide)
  have hk401 : kT S383 q382 = 9 := by rw [hS383]; exact kT_nw _ _ _ _
  refine gd_putFR (pc := 152) (kf := 24) X ci6 (by decide) rfl rfl hin rfl tw_1007 (rf_nar (by decide) q382) (rf_fit (by decide) q382) dX6_init_152 hk384 ?_
  refine gd_topS (fun S402 hS402 => ?_)
  have h := h S402 hS402
  have hk403 : kT S402 a0 = 7 := by rw [hS402]; exact hk384
  have hk404 : kT S402 q2 = 9 := by rw [hS402]; exact hk385
  have hk405 : kT S402 q9 = 9 := by rw [hS402]; exact hk386
  have hk406 : kT S402 q18 = 9 := by rw [hS402]; exact hk387
  have hk407 : kT S402 q29 = 9 := by rw [hS402]; exact hk388
  have hk408 : kT S402 q42 = 10 := by rw [hS402]; exact hk389
  have hk409 : kT S402 q57 = 9 := by rw [hS402]; exact hk390
  have hk410 : kT S402 q74 = 9 := by rw [hS402]; exact hk391
  have hk411 : kT S402 q93 = 9 := by rw [hS402]; exact hk392
  have hk412 : kT S402 q114 = 9 := by rw [hS402]; exact hk393
  have hk413 : kT S402 q137 = 9 := by rw [hS402]; exact hk394
  have hk414 : kT S402 q162 = 9 := by rw [hS402]; exact hk395
  have hk415 : kT S402 q202 = 9 := by rw [hS402]; exact hk396
  have hk416 : kT S402 q231 = 9 := by rw [hS402]; exact hk397
  have hk417 : kT S402 q277 = 9 := by rw [hS402]; exact hk398
  have hk418 : kT S402 q310 = 9 := by rw [hS402]; exact hk399
  have hk419 : kT S402 q345 = 9 := by rw [hS402]; exact hk400
  have hk420 : kT S402 q382 = 9 := by rw [hS402]; exact hk401
  refine gd_aload_n (pc := 155) X 0 dX6_init_155 rfl ?_
  refine gd_iconst (pc := 156) X (-1) dX6_init_156 (by decide) ?_
  refine gd_putI (pc := 157) (kf := 28) X ci6 (by decide) rfl rfl tw_1011 rfl rfl dX6_init_157 hk403 ?_
  refine gd_topS (fun S421 hS421 => ?_)
  have h := h S421 hS421
  have hk422 : kT S421 a0 = 7 := by rw [hS421]; exact hk403
  have hk423 : kT S421 q2 = 9 := by rw [hS421]; exact hk404
  have hk424 : kT S421 q9 = 9 := by rw [hS421]; exact hk405
  have hk425 : kT S421 q18 = 9 := by rw [hS421]; exact hk406
  have hk426 : kT S421 q29 = 9 := by rw [hS421]; exact hk407
  have hk427 : kT S421 q42 = 10 := by rw [hS421]; exact hk408
  have hk428 : kT S421 q57 = 9 := by rw [hS421]; exact hk409
  have hk429 : kT S421 q74 = 9 := by rw [hS421]; exact hk410
  have hk430 : kT S421 q93 = 9 := by rw [hS421]; exact hk411
  have hk431 : kT S421 q114 = 9 := by rw [hS421]; exact hk412
  have hk432 : kT S421 q137 = 9 := by rw [hS421]; exact hk413
  have hk433 : kT S421 q162 = 9 := by rw [hS421]; exact hk414
  have hk434 : kT S421 q202 = 9 := by rw [hS421]; exact hk415
  have hk435 : kT S421 q231 = 9 := by rw [hS421]; exact hk416
  have hk436 : kT S421 q277 = 9 := by rw [hS421]; exact hk417
  have hk437 : kT S421 q310 = 9 := by rw [hS421]; exact hk418
  have hk438 : kT S421 q345 = 9 := by rw [hS421]; exact hk419
  have hk439 : kT S421 q382 = 9 := by rw [hS421]; exact hk420
  refine gd_aload_n (pc := 160) X 0 dX6_init_160 rfl ?_
  refine gd_bipush (pc := 161) X (120) dX6_init_161 (by decide) ?_
  refine gd_newaI (pc := 163) (N := 120) X tw_53 (by decide) (by decide) (by decide) dX6_init_163 ⟨Nat.le_of_ble_eq_true rfl, Nat.le_of_ble_eq_true rfl⟩ (fun q440 hzq440 hnq440 => ?_)
  have h := h q440 hzq440 hnq440
  refine gd_wide (k2 := 18) (j2 := 25258) (Nat.le_of_ble_eq_true rfl) (Nat.le_of_ble_eq_true rfl) ?_
  refine gd_topS (fun S441 hS441 => ?_)
  have h := h S441 hS441
  have hk442 : kT S441 a0 = 7 := by rw [hS441]; exact kT_nwo hk422 hzq440 (by decide)
  have hk443 : kT S441 q2 = 9 := by rw [hS441]; exact kT_nwo hk423 hzq440 (by decide)
  have hk444 : kT S441 q9 = 9 := by rw [hS441]; exact kT_nwo hk424 hzq440 (by decide)
  have hk445 : kT S441 q18 = 9 := by rw [hS441]; exact kT_nwo hk425 hzq440 (by decide)
  have hk446 : kT S441 q29 = 9 := by rw [hS441]; exact kT_nwo hk426 hzq440 (by decide)
  have hk447 : kT S441 q42 = 10 := by rw [hS441]; exact kT_nwo hk427 hzq440 (by decide)
  have hk448 : kT S441 q57 = 9 := by rw [hS441]; exact kT_nwo hk428 hzq440 (by decide)
  have hk449 : kT S441 q74 = 9 := by rw [hS441]; exact kT_nwo hk429 hzq440 (by decide)
  have hk450 : kT S441 q93 = 9 := by rw [hS441]; exact kT_nwo hk430 hzq440 (by decide)
  have hk451 : kT S441 q114 = 9 := by rw [hS441]; exact kT_nwo hk431 hzq440 (by decide)
  have hk452 : kT S441 q137 = 9 := by rw [hS441]; exact kT_nwo hk432 hzq440 (by decide)
  have hk453 : kT S441 q162 = 9 := by rw [hS441]; exact kT_nwo hk433 hzq440 (by decide)
  have hk454 : kT S441 q202 = 9 := by rw [hS441]; exact kT_nwo hk434 hzq440 (by decide)
  have hk455 : kT S441 q231 = 9 := by rw [hS441]; exact kT_nwo hk435 hzq440 (by decide)
  have hk456 : kT S441 q277 = 9 := by rw [hS441]; exact kT_nwo hk436 hzq440 (by decide)
  have hk457 : kT S441 q310 = 9 := by rw [hS441]; exact kT_nwo hk437 hzq440 (by decide)
  have hk458 : kT S441 q345 = 9 := by rw [hS441]; exact kT_nwo hk438 hzq440 (by decide)
  have hk459 : kT S441 q382 = 9 := by rw [hS441]; exact kT_nwo hk439 hzq440 (by decide)
  have hk460 : kT S441 q440 = 9 := by rw [hS441]; exact kT_nw _ _ _ _
  refine gd_putFR (pc := 165) (kf := 29) X ci6 (by decide) rfl rfl hin rfl tw_1012 (rf_nar (by decide) q440) (rf_fit (by decide) q440) dX6_init_165 hk442 ?_
  refine gd_topS (fun S461 hS461 => ?_)
  have h := h S461 hS461
  have hk462 : kT S461 a0 = 7 := by rw [hS461]; exact hk442
  have hk463 : kT S461 q2 = 9 := by rw [hS461]; exact hk443
  have hk464 : kT S461 q9 = 9 := by rw [hS461]; exact hk444
  have hk465 : kT S461 q18 = 9 := by rw [hS461]; exact hk445
  have hk466 : kT S461 q29 = 9 := by rw [hS461]; exact hk446
  have hk467 : kT S461 q42 = 10 := by rw [hS461]; exact hk447
  have hk468 : kT S461 q57 = 9 := by rw [hS461]; exact hk448
  have hk469 : kT S461 q74 = 9 := by rw [hS461]; exact hk449
  have hk470 : kT S461 q93 = 9 := by rw [hS461]; exact hk450
  have hk471 : kT S461 q114 = 9 := by rw [hS461]; exact hk451
  have hk472 : kT S461 q137 = 9 := by rw [hS461]; exact hk452
  have hk473 : kT S461 q162 = 9 := by rw [hS461]; exact hk453
  have hk474 : kT S461 q202 = 9 := by rw [hS461]; exact hk454
  have hk475 : kT S461 q231 = 9 := by rw [hS461]; exact hk455
  have hk476 : kT S461 q277 = 9 := by rw [hS461]; exact hk456
  have hk477 : kT S461 q310 = 9 := by rw [hS461]; exact hk457
  have hk478 : kT S461 q345 = 9 := by rw [hS461]; exact hk458
  have hk479 : kT S461 q382 = 9 := by rw [hS461]; exact hk459
  have hk480 : kT S461 q440 = 9 := by rw [hS461]; exact hk460
  refine gd_iconst (pc := 168) X (0) dX6_init_168 (by decide) ?_
  refine gd_istore_n (pc := 169) X dX6_init_169 (by decide) (E2 := [(1, .int 0), (0, rf a0)]) (by simp [rf_cat, lv1, int_cat] <;> decide) ?_
  refine gd_sub [1, 0] rfl ?_
  obtain ⟨f170, h⟩ := h
  exact g170 f170 _ _ _ h
abbrev rm_X6_stored : Room := { frames := 0, cells := 0, slots := 0, locals := 0 }
def w_X6_stored (S : MS) (a0 : Nat) (a1 : Int32) (a2 : Int32) (post : Int32 → MS → Prop) : Prop := kT S a0 = 7 ∧ kT S (sR S a0 15) = 9 ∧ vp_in ((32 * a1) + a2) (kL S (sR S a0 15)) ∧ post (sI S (sR S a0 15) (ix ((32 * a1) + a2))) S
set_option maxHeartbeats 4000000 in
set_option maxRecDepth 100000 in
theorem ct_X6_stored (l : Launch) (G : GP) (S : MS) (a0 : Nat) (a1 : Int32) (a2 : Int32) (post : Int32 → MS → Prop) (h : w_X6_stored S a0 a1 a2 post) : MetM l yX6_stored cX6_stored 3 (some .int) rm_X6_stored [rf a0, .int a1, .int a2] G S (pI_ post) := by
  refine met_of (by decide) (cat1_r (cat1_i (cat1_i cat1_n))) (Nat.le_of_ble_eq_true rfl) ?_
  intro p e s m args below meth c X hr hlk hin
  refine gd_aload_n (pc := 0) X 0 dX6_stored_0 rfl ?_
  obtain ⟨hk1, h⟩ := h
  refine gd_getR (pc := 1) (kf := 15) X ci6 (by decide) rfl tw_998 dX6_stored_1 hk1 ?_
  refine gd_bipush (pc := 4) X (32) dX6_stored_4 (by decide) ?_
  refine gd_iload_n (pc := 6) X 1 dX6_stored_6 rfl ?_
  refine gd_imul (pc := 7) X dX6_stored_7 ?_
  refine gd_iload_n (pc := 8) X 2 dX6_stored_8 rfl ?_
  refine gd_iadd (pc := 9) X dX6_stored_9 ?_
  obtain ⟨hk2, h⟩ := h
  obtain ⟨hi3, h⟩ := h
  refine gd_iald (pc := 10) X dX6_stored_10 hk2 hi3 ?_
  exact (gd_ret_i (pc := 11) X hr hlk rfl (by decide) (by decide) dX6_stored_11 ⟨_, rfl, h⟩)
abbrev rm_X6_isTransaction : Room := { frames := 1, cells := 0, slots := 0, locals := 22 }
def w_X6_isTransaction (S : MS) (a0 : Nat) (a1 : Int32) (post : Int32 → MS → Prop) : Prop := kT S a0 = 7 ∧ w_X6_isIn S a1 0 ((sI S a0 1) - 1) (fun r3 S2 => narrow .boolean (.int r3) = .int r3 ∧ post r3 S2)
set_option maxHeartbeats 4000000 in
set_option maxRecDepth 100000 in
theorem ct_X6_isTransaction (l : Launch) (G : GP) (S : MS) (a0 : Nat) (a1 : Int32) (post : Int32 → MS → Prop) (h : w_X6_isTransaction S a0 a1 post) : MetM l yX6_isTransaction cX6_isTransaction 2 (some .boolean) rm_X6_isTransaction [rf a0, .int a1] G S (pI_ post) := by
  refine met_of (by decide) (cat1_r (cat1_i cat1_n)) (Nat.le_of_ble_eq_true rfl) ?_
  intro p e s m args below meth c X hr hlk hin
  refine gd_iload_n (pc := 0) X 1 dX6_isTransaction_0 rfl ?_
  refine gd_iconst (pc := 1) X (0) dX6_isTransaction_1 (by decide) ?_
  refine gd_aload_n (pc := 2) X 0 dX6_isTransaction_2 rfl ?_
  obtain ⟨hk1, h⟩ := h
  refine gd_getI (pc := 3) (kf := 1) X ci6 (by decide) rfl tw_984 dX6_isTransaction_3 hk1 ?_
  refine gd_iconst (pc := 6) X (1) dX6_isTransaction_6 (by decide) ?_
  refine gd_isub (pc := 7) X dX6_isTransaction_7 ?_
  refine gd_callS (pc := 8) (As := [.int a1, .int 0, .int ((sI S a0 1) - 1)]) (rest := []) X (ct_X6_isIn l G S a1 0 ((sI S a0 1) - 1) _ h) mw_X6_isIn tw_1082 ⟨(Nat.le_of_ble_eq_true rfl), (Nat.le_of_ble_eq_true rfl)⟩ rfl rfl (Nat.le_of_ble_eq_true rfl) dX6_isTransaction_8 ⟨Nat.le_of_ble_eq_true rfl, Nat.le_of_ble_eq_true rfl⟩ (kI (fun r3 S2 h => ?_))
  refine gd_wide (k2 := 0) (j2 := 0) (Nat.le_of_ble_eq_true rfl) (Nat.le_of_ble_eq_true rfl) ?_
  obtain ⟨hnz, h⟩ := h
  exact (gd_ret_i (pc := 11) X hr hlk hnz (by decide) (by decide) dX6_isTransaction_11 ⟨_, rfl, h⟩)
abbrev rm_X6_isKey : Room := { frames := 1, cells := 0, slots := 0, locals := 22 }
def w_X6_isKey (S : MS) (a0 : Int32) (post : Int32 → MS → Prop) : Prop := w_X6_isIn S a0 0 31 (fun r2 S1 => narrow .boolean (.int r2) = .int r2 ∧ post r2 S1)
set_option maxHeartbeats 4000000 in
set_option maxRecDepth 100000 in
theorem ct_X6_isKey (l : Launch) (G : GP) (S : MS) (a0 : Int32) (post : Int32 → MS → Prop) (h : w_X6_isKey S a0 post) : MetM l yX6_isKey cX6_isKey 1 (some .boolean) rm_X6_isKey [.int a0] G S (pI_ post) := by
  refine met_of (by decide) (cat1_i cat1_n) (Nat.le_of_ble_eq_true rfl) ?_
  intro p e s m args below meth c X hr hlk hin
  refine gd_iload_n (pc := 0) X 0 dX6_isKey_0 rfl ?_
  refine gd_iconst (pc := 1) X (0) dX6_isKey_1 (by decide) ?_
  refine gd_bipush (pc := 2) X (31) dX6_isKey_2 (by decide) ?_
  refine gd_callS (pc := 4) (As := [.int a0, .int 0, .int 31]) (rest := []) X (ct_X6_isIn l G S a0 0 31 _ h) mw_X6_isIn tw_1082 ⟨(Nat.le_of_ble_eq_true rfl), (Nat.le_of_ble_eq_true rfl)⟩ rfl rfl (Nat.le_of_ble_eq_true rfl) dX6_isKey_4 ⟨Nat.le_of_ble_eq_true rfl, Nat.le_of_ble_eq_true rfl⟩ (kI (fun r2 S1 h => ?_))
  refine gd_wide (k2 := 0) (j2 := 0) (Nat.le_of_ble_eq_true rfl) (Nat.le_of_ble_eq_true rfl) ?_
  obtain ⟨hnz, h⟩ := h
  exact (gd_ret_i (pc := 7) X hr hlk hnz (by decide) (by decide) dX6_isKey_7 ⟨_, rfl, h⟩)
abbrev rm_X6_isRange : Room := { frames := 2, cells := 0, slots := 0, locals := 42 }
def b_X6_isRange_24 (post : Int32 → MS → Prop) (S : MS) (l0 : Int32) (l1 : Int32) (s0 : Int32) : Prop := narrow .boolean (.int s0) = .int s0 ∧ post s0 S
def b_X6_isRange_23 (post : Int32 → MS → Prop) (S : MS) (l0 : Int32) (l1 : Int32) : Prop := b_X6_isRange_24 post S l0 l1 0
def w_X6_isRange (S : MS) (a0 : Int32) (a1 : Int32) (post : Int32 → MS → Prop) : Prop := w_X6_isKey S a0 (fun r2 S1 => ((r2 = 0 → b_X6_isRange_23 post S1 a0 a1) ∧ (¬ r2 = 0 → w_X6_isKey S1 a1 (fun r4 S3 => ((r4 = 0 → b_X6_isRange_23 post S3 a0 a1) ∧ (¬ r4 = 0 → ((a1 < a0 → b_X6_isRange_23 post S3 a0 a1) ∧ (¬ a1 < a0 → b_X6_isRange_24 post S3 a0 a1 1))))))))
set_option maxHeartbeats 4000000 in
set_option maxRecDepth 100000 in
theorem ct_X6_isRange (l : Launch) (G : GP) (S : MS) (a0 : Int32) (a1 : Int32) (post : Int32 → MS → Prop) (h : w_X6_isRange S a0 a1 post) : MetM l yX6_isRange cX6_isRange 2 (some .boolean) rm_X6_isRange [.int a0, .int a1] G S (pI_ post) := by
  refine met_of (by decide) (cat1_i (cat1_i cat1_n)) (Nat.le_of_ble_eq_true rfl) ?_
  intro p e s m args below meth c X hr hlk hin
  revert h
  have g24 : ∀ (S : MS) (l0 : Int32) (l1 : Int32) (s0 : Int32), b_X6_isRange_24 post S l0 l1 s0 → Gd p l e rm_X6_isRange s m args below meth c 2 G (MQ below (QcM G (pI_ post)) args s rm_X6_isRange.cells rm_X6_isRange.slots (Ab G)) 0 0 S 24 [(0, .int l0), (1, .int l1)] [.int s0] := by
    intro S l0 l1 s0 h
    obtain ⟨hnz, h⟩ := h
    exact (gd_ret_i (pc := 24) X hr hlk hnz (by decide) (by decide) dX6_isRange_24 ⟨_, rfl, h⟩)
  have g23 : ∀ (S : MS) (l0 : Int32) (l1 : Int32), b_X6_isRange_23 post S l0 l1 → Gd p l e rm_X6_isRange s m args below meth c 2 G (MQ below (QcM G (pI_ post)) args s rm_X6_isRange.cells rm_X6_isRange.slots (Ab G)) 0 0 S 23 [(0, .int l0), (1, .int l1)] [] := by
    intro S l0 l1 h
    refine gd_iconst (pc := 23) X (0) dX6_isRange_23 (by decide) ?_
    exact g24 _ _ _ _ h
  intro h
  refine gd_iload_n (pc := 0) X 0 dX6_isRange_0 rfl ?_
  refine gd_callS (pc := 1) (As := [.int a0]) (rest := []) X (ct_X6_isKey l G S a0 _ h) mw_X6_isKey tw_1117 ⟨(Nat.le_of_ble_eq_true rfl), (Nat.le_of_ble_eq_true rfl)⟩ rfl rfl (Nat.le_of_ble_eq_true rfl) dX6_isRange_1 ⟨Nat.le_of_ble_eq_true rfl, Nat.le_of_ble_eq_true rfl⟩ (kI (fun r2 S1 h => ?_))
  refine gd_wide (k2 := 0) (j2 := 0) (Nat.le_of_ble_eq_true rfl) (Nat.le_of_ble_eq_true rfl) ?_
  refine gd_if_eq (pc := 4) X 23 dX6_isRange_4 (by decide) (fun hc7 => ?_) (fun hc7 => ?_)
  · have h := h.1 hc7
    exact g23 _ _ _ h
  · have h := h.2 hc7
    refine gd_iload_n (pc := 7) X 1 dX6_isRange_7 rfl ?_
    refine gd_callS (pc := 8) (As := [.int a1]) (rest := []) X (ct_X6_isKey l G S1 a1 _ h) mw_X6_isKey tw_1117 ⟨(Nat.le_of_ble_eq_true rfl), (Nat.le_of_ble_eq_true rfl)⟩ rfl rfl (Nat.le_of_ble_eq_true rfl) dX6_isRange_8 ⟨Nat.le_of_ble_eq_true rfl, Nat.le_of_ble_eq_true rfl⟩ (kI (fun r4 S3 h => ?_))
    refine gd_wide (k2 := 0) (j2 := 0) (Nat.le_of_ble_eq_true rfl) (Nat.le_of_ble_eq_true rfl) ?_
    refine gd_if_eq (pc := 11) X 23 dX6_isRange_11 (by decide) (fun hc6 => ?_) (fun hc6 => ?_)
    · have h := h.1 hc6
      exact g23 _ _ _ h
    · have h := h.2 hc6
      refine gd_iload_n (pc := 14) X 0 dX6_isRange_14 rfl ?_
      refine gd_iload_n (pc := 15) X 1 dX6_isRange_15 rfl ?_
      refine gd_icmp_gt (pc := 16) X 23 dX6_isRange_16 (by decide) (fun hc5 => ?_) (fun hc5 => ?_)
      · have h := h.1 hc5
        exact g23 _ _ _ h
      · have h := h.2 hc5
        refine gd_iconst (pc := 19) X (1) dX6_isRange_19 (by decide) ?_
        refine gd_goto (pc := 20) X 24 dX6_isRange_20 (by decide) ?_
        exact g24 _ _ _ _ h
abbrev rm_X6_activeNow : Room := { frames := 0, cells := 0, slots := 0, locals := 0 }
def b_X6_activeNow_27 (KH4 : MS → Nat → Int32 → Int32 → Prop) (post : Int32 → MS → Prop) (S : MS) (l0 : Nat) (l1 : Int32) (l2 : Int32) (s0 : Int32) (s1 : Int32) : Prop := ∀ v1 : Int32, v1 = s1 + s0 → ∀ v2 : Int32, v2 = l2 + 1 → KH4 S l0 v1 v2
def b_X6_activeNow_4 (post : Int32 → MS → Prop) : Nat → MS → Nat → Int32 → Int32 → Prop
  | 0 => fun _ _ _ _ => False
  | f + 1 => fun S l0 l1 l2 => kT S l0 = 7 ∧ (((sI S l0 1) ≤ l2 → post l1 S) ∧ (¬ (sI S l0 1) ≤ l2 → kT S (sR S l0 2) = 9 ∧ vp_in l2 (kL S (sR S l0 2)) ∧ ((¬ (sI S (sR S l0 2) (ix l2)) = 0 → b_X6_activeNow_27 (b_X6_activeNow_4 post f) post S l0 l1 l2 0 l1) ∧ ((sI S (sR S l0 2) (ix l2)) = 0 → b_X6_activeNow_27 (b_X6_activeNow_4 post f) post S l0 l1 l2 1 l1))))
def w_X6_activeNow (S : MS) (a0 : Nat) (post : Int32 → MS → Prop) : Prop := ∃ f4, b_X6_activeNow_4 post f4 S a0 0 0
set_option maxHeartbeats 4000000 in
set_option maxRecDepth 100000 in
theorem ct_X6_activeNow (l : Launch) (G : GP) (S : MS) (a0 : Nat) (post : Int32 → MS → Prop) (h : w_X6_activeNow S a0 post) : MetM l yX6_activeNow cX6_activeNow 3 (some .int) rm_X6_activeNow [rf a0] G S (pI_ post) := by
  refine met_of (by decide) (cat1_r cat1_n) (Nat.le_of_ble_eq_true rfl) ?_
  intro p e s m args below meth c X hr hlk hin
  revert h
  have g27 : ∀ (KH4 : MS → Nat → Int32 → Int32 → Prop) (hKH4 : ∀ (S : MS) (l0 : Nat) (l1 : Int32) (l2 : Int32), KH4 S l0 l1 l2 → Gd p l e rm_X6_activeNow s m args below meth c 3 G (MQ below (QcM G (pI_ post)) args s rm_X6_activeNow.cells rm_X6_activeNow.slots (Ab G)) 0 0 S 4 [(0, rf l0), (1, .int l1), (2, .int l2)] []) (S : MS) (l0 : Nat) (l1 : Int32) (l2 : Int32) (s0 : Int32) (s1 : Int32), b_X6_activeNow_27 KH4 post S l0 l1 l2 s0 s1 → Gd p l e rm_X6_activeNow s m args below meth c 3 G (MQ below (QcM G (pI_ post)) args s rm_X6_activeNow.cells rm_X6_activeNow.slots (Ab G)) 0 0 S 27 [(0, rf l0), (1, .int l1), (2, .int l2)] [.int s0, .int s1] := by
    intro KH4 hKH4 S l0 l1 l2 s0 s1 h
    refine gd_iadd (pc := 27) X dX6_activeNow_27 ?_
    refine gd_topI (fun v1 hv1 => ?_)
    have h := h v1 hv1
    refine gd_istore_n (pc := 28) X dX6_activeNow_28 (by decide) (E2 := [(1, .int v1), (0, rf l0), (2, .int l2)]) (by simp [rf_cat, lv1, int_cat] <;> decide) ?_
    obtain ⟨v2, hv2⟩ : ∃ z : Int32, z = l2 + 1 := ⟨_, rfl⟩
    have h := h v2 hv2
    refine gd_iinc (pc := 29) (v := v2) X 2 dX6_activeNow_29 rfl (by rw [hv2]; rfl) (by decide) (E2 := [(2, .int v2), (1, .int v1), (0, rf l0)]) rfl ?_
    refine gd_goto (pc := 32) X 4 dX6_activeNow_32 (by decide) ?_
    refine gd_sub [2, 1, 0] rfl ?_
    exact hKH4 _ _ _ _ h
  have g4 : ∀ (f : Nat) (S : MS) (l0 : Nat) (l1 : Int32) (l2 : Int32), b_X6_activeNow_4 post f S l0 l1 l2 → Gd p l e rm_X6_activeNow s m args below meth c 3 G (MQ below (QcM G (pI_ post)) args s rm_X6_activeNow.cells rm_X6_activeNow.slots (Ab G)) 0 0 S 4 [(0, rf l0), (1, .int l1), (2, .int l2)] [] := by
    intro f
    induction f with
    | zero => intro S l0 l1 l2 h; exact h.elim
    | succ f ih =>
      intro S l0 l1 l2 h
      refine gd_iload_n (pc := 4) X 2 dX6_activeNow_4 rfl ?_
      refine gd_aload_n (pc := 5) X 0 dX6_activeNow_5 rfl ?_
      obtain ⟨hk1, h⟩ := h
      refine gd_getI (pc := 6) (kf := 1) X ci6 (by decide) rfl tw_984 dX6_activeNow_6 hk1 ?_
      refine gd_icmp_ge (pc := 9) X 35 dX6_activeNow_9 (by decide) (fun hc5 => ?_) (fun hc5 => ?_)
      · have h := h.1 hc5
        refine gd_iload_n (pc := 35) X 1 dX6_activeNow_35 rfl ?_
        exact (gd_ret_i (pc := 36) X hr hlk rfl (by decide) (by decide) dX6_activeNow_36 ⟨_, rfl, h⟩)
      · have h := h.2 hc5
        refine gd_iload_n (pc := 12) X 1 dX6_activeNow_12 rfl ?_
        refine gd_aload_n (pc := 13) X 0 dX6_activeNow_13 rfl ?_
        refine gd_getR (pc := 14) (kf := 2) X ci6 (by decide) rfl tw_985 dX6_activeNow_14 hk1 ?_
        refine gd_iload_n (pc := 17) X 2 dX6_activeNow_17 rfl ?_
        obtain ⟨hk2, h⟩ := h
        obtain ⟨hi3, h⟩ := h
        refine gd_iald (pc := 18) X dX6_activeNow_18 hk2 hi3 ?_
        refine gd_if_ne (pc := 19) X 26 dX6_activeNow_19 (by decide) (fun hc4 => ?_) (fun hc4 => ?_)
        · have h := h.1 hc4
          refine gd_iconst (pc := 26) X (0) dX6_activeNow_26 (by decide) ?_
          exact g27 _ ih _ _ _ _ _ _ h
        · have h := h.2 hc4
          refine gd_iconst (pc := 22) X (1) dX6_activeNow_22 (by decide) ?_
          refine gd_goto (pc := 23) X 27 dX6_activeNow_23 (by decide) ?_
          exact g27 _ ih _ _ _ _ _ _ h
  intro h
  refine gd_iconst (pc := 0) X (0) dX6_activeNow_0 (by decide) ?_
  refine gd_istore_n (pc := 1) X dX6_activeNow_1 (by decide) (E2 := [(1, .int 0), (0, rf a0)]) (by simp [rf_cat, lv1, int_cat] <;> decide) ?_
  refine gd_iconst (pc := 2) X (0) dX6_activeNow_2 (by decide) ?_
  refine gd_istore_n (pc := 3) X dX6_activeNow_3 (by decide) (E2 := [(2, .int 0), (1, .int 0), (0, rf a0)]) rfl ?_
  refine gd_sub [2, 1, 0] rfl ?_
  obtain ⟨f4, h⟩ := h
  exact g4 f4 _ _ _ _ h
abbrev rm_X6_configure : Room := { frames := 1, cells := 0, slots := 0, locals := 22 }
def b_X6_configure_69 (post : MS → Prop) (S : MS) (l0 : Nat) (l1 : Int32) (l2 : Int32) (l3 : Int32) : Prop := post S
def b_X6_configure_44 (post : MS → Prop) (S : MS) (l0 : Nat) (l1 : Int32) (l2 : Int32) (l3 : Int32) (s0 : Int32) (s1 : Nat) : Prop := kT S s1 = 7 ∧ ∀ S2 : MS, S2 = pI S s1 0 s0 → kT S2 l0 = 7 ∧ ((¬ (sI S2 l0 0) = 0 → b_X6_configure_69 post S2 l0 l1 l2 l3) ∧ ((sI S2 l0 0) = 0 → ∀ S5 : MS, S5 = pI S2 l0 17 l1 → ∀ S8 : MS, S8 = pI S5 l0 18 l2 → ∀ S11 : MS, S11 = pI S8 l0 19 l3 → b_X6_configure_69 post S11 l0 l1 l2 l3))
def b_X6_configure_28 (post : MS → Prop) (S : MS) (l0 : Nat) (l1 : Int32) (l2 : Int32) (l3 : Int32) (s0 : Nat) : Prop := b_X6_configure_44 post S l0 l1 l2 l3 1 s0
def w_X6_configure (S : MS) (a0 : Nat) (a1 : Int32) (a2 : Int32) (a3 : Int32) (post : MS → Prop) : Prop := w_X6_isIn S a1 0 1 (fun r2 S1 => ((r2 = 0 → b_X6_configure_28 post S1 a0 a1 a2 a3 a0) ∧ (¬ r2 = 0 → w_X6_isIn S1 a2 0 2 (fun r4 S3 => ((r4 = 0 → b_X6_configure_28 post S3 a0 a1 a2 a3 a0) ∧ (¬ r4 = 0 → w_X6_isIn S3 a3 1 5 (fun r6 S5 => ((¬ r6 = 0 → kT S5 a0 = 7 ∧ w_X6_activeNow S5 a0 (fun r9 S8 => ((r9 ≤ 0 → b_X6_configure_44 post S8 a0 a1 a2 a3 0 a0) ∧ (¬ r9 ≤ 0 → b_X6_configure_44 post S8 a0 a1 a2 a3 2 a0)))) ∧ (r6 = 0 → b_X6_configure_28 post S5 a0 a1 a2 a3 a0)))))))))
set_option maxHeartbeats 4000000 in
set_option maxRecDepth 100000 in
theorem ct_X6_configure (l : Launch) (G : GP) (S : MS) (a0 : Nat) (a1 : Int32) (a2 : Int32) (a3 : Int32) (post : MS → Prop) (h : w_X6_configure S a0 a1 a2 a3 post) : MetM l yX6_configure cX6_configure 4 none rm_X6_configure [rf a0, .int a1, .int a2, .int a3] G S (pV_ post) := by
  refine met_of (by decide) (cat1_r (cat1_i (cat1_i (cat1_i cat1_n)))) (Nat.le_of_ble_eq_true rfl) ?_
  intro p e s m args below meth c X hr hlk hin
  revert h
  have g69 : ∀ (S : MS) (l0 : Nat) (l1 : Int32) (l2 : Int32) (l3 : Int32), b_X6_configure_69 post S l0 l1 l2 l3 → Gd p l e rm_X6_configure s m args below meth c 4 G (MQ below (QcM G (pV_ post)) args s rm_X6_configure.cells rm_X6_configure.slots (Ab G)) 0 0 S 69 [(0, rf l0), (1, .int l1), (2, .int l2), (3, .int l3)] [] := by
    intro S l0 l1 l2 l3 h
    exact (gd_ret_v (pc := 69) X hr hlk (by decide) (by decide) dX6_configure_69 ⟨rfl, h⟩)
  have g44 : ∀ (S : MS) (l0 : Nat) (l1 : Int32) (l2 : Int32) (l3 : Int32) (s0 : Int32) (s1 : Nat), b_X6_configure_44 post S l0 l1 l2 l3 s0 s1 → Gd p l e rm_X6_configure s m args below meth c 4 G (MQ below (QcM G (pV_ post)) args s rm_X6_configure.cells rm_X6_configure.slots (Ab G)) 0 0 S 44 [(0, rf l0), (1, .int l1), (2, .int l2), (3, .int l3)] [.int s0, rf s1] := by
    intro S l0 l1 l2 l3 s0 s1 h
    obtain ⟨hk1, h⟩ := h
    refine gd_putI (pc := 44) (kf := 0) X ci6 (by decide) rfl rfl tw_983 rfl rfl dX6_configure_44 hk1 ?_
    refine gd_topS (fun S2 hS2 => ?_)
    have h := h S2 hS2
    have hk3 : kT S2 s1 = 7 := by rw [hS2]; exact hk1
    refine gd_aload_n (pc := 47) X 0 dX6_configure_47 rfl ?_
    obtain ⟨hk4, h⟩ := h
    refine gd_getI (pc := 48) (kf := 0) X ci6 (by decide) rfl tw_983 dX6_configure_48 hk4 ?_
    refine gd_if_ne (pc := 51) X 69 dX6_configure_51 (by decide) (fun hc14 => ?_) (fun hc14 => ?_)
    · have h := h.1 hc14
      exact g69 _ _ _ _ _ h
    · have h := h.2 hc14
      refine gd_aload_n (pc := 54) X 0 dX6_configure_54 rfl ?_
      refine gd_iload_n (pc := 55) X 1 dX6_configure_55 rfl ?_
      refine gd_putI (pc := 56) (kf := 17) X ci6 (by decide) rfl rfl tw_1000 rfl rfl dX6_configure_56 hk4 ?_
      refine gd_topS (fun S5 hS5 => ?_)
      have h := h S5 hS5
      have hk6 : kT S5 s1 = 7 := by rw [hS5]; exact hk3
      have hk7 : kT S5 l0 = 7 := by rw [hS5]; exact hk4
      refine gd_aload_n (pc := 59) X 0 dX6_configure_59 rfl ?_
      refine gd_iload_n (pc := 60) X 2 dX6_configure_60 rfl ?_
      refine gd_putI (pc := 61) (kf := 18) X ci6 (by decide) rfl rfl tw_1001 rfl rfl dX6_configure_61 hk7 ?_
      refine gd_topS (fun S8 hS8 => ?_)
      have h := h S8 hS8
      have hk9 : kT S8 s1 = 7 := by rw [hS8]; exact hk6
      have hk10 : kT S8 l0 = 7 := by rw [hS8]; exact hk7
      refine gd_aload_n (pc := 64) X 0 dX6_configure_64 rfl ?_
      refine gd_iload_n (pc := 65) X 3 dX6_configure_65 rfl ?_
      refine gd_putI (pc := 66) (kf := 19) X ci6 (by decide) rfl rfl tw_1002 rfl rfl dX6_configure_66 hk10 ?_
      refine gd_topS (fun S11 hS11 => ?_)
      have h := h S11 hS11
      have hk12 : kT S11 s1 = 7 := by rw [hS11]; exact hk9
      have hk13 : kT S11 l0 = 7 := by rw [hS11]; exact hk10
      exact g69 _ _ _ _ _ h
  have g28 : ∀ (S : MS) (l0 : Nat) (l1 : Int32) (l2 : Int32) (l3 : Int32) (s0 : Nat), b_X6_configure_28 post S l0 l1 l2 l3 s0 → Gd p l e rm_X6_configure s m args below meth c 4 G (MQ below (QcM G (pV_ post)) args s rm_X6_configure.cells rm_X6_configure.slots (Ab G)) 0 0 S 28 [(0, rf l0), (1, .int l1), (2, .int l2), (3, .int l3)] [rf s0] := by
    intro S l0 l1 l2 l3 s0 h
    refine gd_iconst (pc := 28) X (1) dX6_configure_28 (by decide) ?_
    refine gd_goto (pc := 29) X 44 dX6_configure_29 (by decide) ?_
    exact g44 _ _ _ _ _ _ _ h
  intro h
  refine gd_aload_n (pc := 0) X 0 dX6_configure_0 rfl ?_
  refine gd_iload_n (pc := 1) X 1 dX6_configure_1 rfl ?_
  refine gd_iconst (pc := 2) X (0) dX6_configure_2 (by decide) ?_
  refine gd_iconst (pc := 3) X (1) dX6_configure_3 (by decide) ?_
  refine gd_callS (pc := 4) (As := [.int a1, .int 0, .int 1]) (rest := [rf a0]) X (ct_X6_isIn l G S a1 0 1 _ h) mw_X6_isIn tw_1082 ⟨(Nat.le_of_ble_eq_true rfl), (Nat.le_of_ble_eq_true rfl)⟩ rfl rfl (Nat.le_of_ble_eq_true rfl) dX6_configure_4 ⟨Nat.le_of_ble_eq_true rfl, Nat.le_of_ble_eq_true rfl⟩ (kI (fun r2 S1 h => ?_))
  refine gd_wide (k2 := 0) (j2 := 0) (Nat.le_of_ble_eq_true rfl) (Nat.le_of_ble_eq_true rfl) ?_
  refine gd_if_eq (pc := 7) X 28 dX6_configure_7 (by decide) (fun hc13 => ?_) (fun hc13 => ?_)
  · have h := h.1 hc13
    exact g28 _ _ _ _ _ _ h
  · have h := h.2 hc13
    refine gd_iload_n (pc := 10) X 2 dX6_configure_10 rfl ?_
    refine gd_iconst (pc := 11) X (0) dX6_configure_11 (by decide) ?_
    refine gd_iconst (pc := 12) X (2) dX6_configure_12 (by decide) ?_
    refine gd_callS (pc := 13) (As := [.int a2, .int 0, .int 2]) (rest := [rf a0]) X (ct_X6_isIn l G S1 a2 0 2 _ h) mw_X6_isIn tw_1082 ⟨(Nat.le_of_ble_eq_true rfl), (Nat.le_of_ble_eq_true rfl)⟩ rfl rfl (Nat.le_of_ble_eq_true rfl) dX6_configure_13 ⟨Nat.le_of_ble_eq_true rfl, Nat.le_of_ble_eq_true rfl⟩ (kI (fun r4 S3 h => ?_))
    refine gd_wide (k2 := 0) (j2 := 0) (Nat.le_of_ble_eq_true rfl) (Nat.le_of_ble_eq_true rfl) ?_
    refine gd_if_eq (pc := 16) X 28 dX6_configure_16 (by decide) (fun hc12 => ?_) (fun hc12 => ?_)
    · have h := h.1 hc12
      exact g28 _ _ _ _ _ _ h
    · have h := h.2 hc12
      refine gd_iload_n (pc := 19) X 3 dX6_configure_19 rfl ?_
      refine gd_iconst (pc := 20) X (1) dX6_configure_20 (by decide) ?_
      refine gd_iconst (pc := 21) X (5) dX6_configure_21 (by decide) ?_
      refine gd_callS (pc := 22) (As := [.int a3, .int 1, .int 5]) (rest := [rf a0]) X (ct_X6_isIn l G S3 a3 1 5 _ h) mw_X6_isIn tw_1082 ⟨(Nat.le_of_ble_eq_true rfl), (Nat.le_of_ble_eq_true rfl)⟩ rfl rfl (Nat.le_of_ble_eq_true rfl) dX6_configure_22 ⟨Nat.le_of_ble_eq_true rfl, Nat.le_of_ble_eq_true rfl⟩ (kI (fun r6 S5 h => ?_))
      refine gd_wide (k2 := 0) (j2 := 0) (Nat.le_of_ble_eq_true rfl) (Nat.le_of_ble_eq_true rfl) ?_
      refine gd_if_ne (pc := 25) X 32 dX6_configure_25 (by decide) (fun hc11 => ?_) (fun hc11 => ?_)
      · have h := h.1 hc11
        refine gd_aload_n (pc := 32) X 0 dX6_configure_32 rfl ?_
        obtain ⟨hk7, h⟩ := h
        refine gd_callV (pc := 33) (As := []) (rest := [rf a0]) X (ct_X6_activeNow l G S5 a0 _ h) mw_X6_activeNow tw_1085 ci6 rfl hk7 ⟨(Nat.le_of_ble_eq_true rfl), (Nat.le_of_ble_eq_true rfl)⟩ rfl rfl (Nat.le_of_ble_eq_true rfl) dX6_configure_33 ⟨Nat.le_of_ble_eq_true rfl, Nat.le_of_ble_eq_true rfl⟩ (kI (fun r9 S8 h => ?_))
        refine gd_wide (k2 := 0) (j2 := 0) (Nat.le_of_ble_eq_true rfl) (Nat.le_of_ble_eq_true rfl) ?_
        refine gd_if_le (pc := 36) X 43 dX6_configure_36 (by decide) (fun hc10 => ?_) (fun hc10 => ?_)
        · have h := h.1 hc10
          refine gd_iconst (pc := 43) X (0) dX6_configure_43 (by decide) ?_
          exact g44 _ _ _ _ _ _ _ h
        · have h := h.2 hc10
          refine gd_iconst (pc := 39) X (2) dX6_configure_39 (by decide) ?_
          refine gd_goto (pc := 40) X 44 dX6_configure_40 (by decide) ?_
          exact g44 _ _ _ _ _ _ _ h
      · have h := h.2 hc11
        exact g28 _ _ _ _ _ _ h
abbrev rm_X6_hasRoom : Room := { frames := 1, cells := 0, slots := 0, locals := 22 }
def b_X6_hasRoom_23 (post : Int32 → MS → Prop) (S : MS) (l0 : Nat) (s0 : Int32) : Prop := narrow .boolean (.int s0) = .int s0 ∧ post s0 S
def b_X6_hasRoom_22 (post : Int32 → MS → Prop) (S : MS) (l0 : Nat) : Prop := b_X6_hasRoom_23 post S l0 0
def w_X6_hasRoom (S : MS) (a0 : Nat) (post : Int32 → MS → Prop) : Prop := kT S a0 = 7 ∧ w_X6_activeNow S a0 (fun r3 S2 => ((6 ≤ r3 → b_X6_hasRoom_22 post S2 a0) ∧ (¬ 6 ≤ r3 → kT S2 a0 = 7 ∧ ((80 ≤ (sI S2 a0 1) → b_X6_hasRoom_22 post S2 a0) ∧ (¬ 80 ≤ (sI S2 a0 1) → b_X6_hasRoom_23 post S2 a0 1)))))
set_option maxHeartbeats 4000000 in
set_option maxRecDepth 100000 in
theorem ct_X6_hasRoom (l : Launch) (G : GP) (S : MS) (a0 : Nat) (post : Int32 → MS → Prop) (h : w_X6_hasRoom S a0 post) : MetM l yX6_hasRoom cX6_hasRoom 1 (some .boolean) rm_X6_hasRoom [rf a0] G S (pI_ post) := by
  refine met_of (by decide) (cat1_r cat1_n) (Nat.le_of_ble_eq_true rfl) ?_
  intro p e s m args below meth c X hr hlk hin
  revert h
  have g23 : ∀ (S : MS) (l0 : Nat) (s0 : Int32), b_X6_hasRoom_23 post S l0 s0 → Gd p l e rm_X6_hasRoom s m args below meth c 1 G (MQ below (QcM G (pI_ post)) args s rm_X6_hasRoom.cells rm_X6_hasRoom.slots (Ab G)) 0 0 S 23 [(0, rf l0)] [.int s0] := by
    intro S l0 s0 h
    obtain ⟨hnz, h⟩ := h
    exact (gd_ret_i (pc := 23) X hr hlk hnz (by decide) (by decide) dX6_hasRoom_23 ⟨_, rfl, h⟩)
  have g22 : ∀ (S : MS) (l0 : Nat), b_X6_hasRoom_22 post S l0 → Gd p l e rm_X6_hasRoom s m args below meth c 1 G (MQ below (QcM G (pI_ post)) args s rm_X6_hasRoom.cells rm_X6_hasRoom.slots (Ab G)) 0 0 S 22 [(0, rf l0)] [] := by
    intro S l0 h
    refine gd_iconst (pc := 22) X (0) dX6_hasRoom_22 (by decide) ?_
    exact g23 _ _ _ h
  intro h
  refine gd_aload_n (pc := 0) X 0 dX6_hasRoom_0 rfl ?_
  obtain ⟨hk1, h⟩ := h
  refine gd_callV (pc := 1) (As := []) (rest := []) X (ct_X6_activeNow l G S a0 _ h) mw_X6_activeNow tw_1085 ci6 rfl hk1 ⟨(Nat.le_of_ble_eq_true rfl), (Nat.le_of_ble_eq_true rfl)⟩ rfl rfl (Nat.le_of_ble_eq_true rfl) dX6_hasRoom_1 ⟨Nat.le_of_ble_eq_true rfl, Nat.le_of_ble_eq_true rfl⟩ (kI (fun r3 S2 h => ?_))
  refine gd_wide (k2 := 0) (j2 := 0) (Nat.le_of_ble_eq_true rfl) (Nat.le_of_ble_eq_true rfl) ?_
  refine gd_bipush (pc := 4) X (6) dX6_hasRoom_4 (by decide) ?_
  refine gd_icmp_ge (pc := 6) X 22 dX6_hasRoom_6 (by decide) (fun hc6 => ?_) (fun hc6 => ?_)
  · have h := h.1 hc6
    exact g22 _ _ h
  · have h := h.2 hc6
    refine gd_aload_n (pc := 9) X 0 dX6_hasRoom_9 rfl ?_
    obtain ⟨hk4, h⟩ := h
    refine gd_getI (pc := 10) (kf := 1) X ci6 (by decide) rfl tw_984 dX6_hasRoom_10 hk4 ?_
    refine gd_bipush (pc := 13) X (80) dX6_hasRoom_13 (by decide) ?_
    refine gd_icmp_ge (pc := 15) X 22 dX6_hasRoom_15 (by decide) (fun hc5 => ?_) (fun hc5 => ?_)
    · have h := h.1 hc5
      exact g22 _ _ h
    · have h := h.2 hc5
      refine gd_iconst (pc := 18) X (1) dX6_hasRoom_18 (by decide) ?_
      refine gd_goto (pc := 19) X 23 dX6_hasRoom_19 (by decide) ?_
      exact g23 _ _ _ h
abbrev rm_X6_beginWith : Room := { frames := 0, cells := 0, slots := 0, locals := 0 }
def b_X6_beginWith_94 (post : Int32 → MS → Prop) (S : MS) (l0 : Nat) (l1 : Int32) (l2 : Int32) (l3 : Int32) : Prop := kT S l0 = 7 ∧ ∀ S2 : MS, S2 = pI S l0 1 ((sI S l0 1) + 1) → post l2 S2
def b_X6_beginWith_35 (post : Int32 → MS → Prop) : Nat → MS → Nat → Int32 → Int32 → Int32 → Prop
  | 0 => fun _ _ _ _ _ => False
  | f + 1 => fun S l0 l1 l2 l3 => ((32 ≤ l3 → kT S l0 = 7 ∧ ((l1 ≤ (sI S l0 19) → b_X6_beginWith_94 post S l0 l1 l2 l3) ∧ (¬ l1 ≤ (sI S l0 19) → ((¬ (sI S l0 13) = ((-1)) → b_X6_beginWith_94 post S l0 l1 l2 l3) ∧ ((sI S l0 13) = ((-1)) → ∀ S2 : MS, S2 = pI S l0 13 l2 → b_X6_beginWith_94 post S2 l0 l1 l2 l3))))) ∧ (¬ 32 ≤ l3 → kT S l0 = 7 ∧ kT S (sR S l0 9) = 9 ∧ vp_in ((32 * l2) + l3) (kL S (sR S l0 9)) ∧ ∀ S9 : MS, S9 = pI S (sR S l0 9) (ix ((32 * l2) + l3)) ((-1)) → kT S9 (sR S9 l0 10) = 9 ∧ vp_in ((32 * l2) + l3) (kL S9 (sR S9 l0 10)) ∧ ∀ S14 : MS, S14 = pI S9 (sR S9 l0 10) (ix ((32 * l2) + l3)) ((-5000)) → ∀ v18 : Int32, v18 = l3 + 1 → b_X6_beginWith_35 post f S14 l0 l1 l2 v18))
def w_X6_beginWith (S : MS) (a0 : Nat) (a1 : Int32) (post : Int32 → MS → Prop) : Prop := kT S a0 = 7 ∧ ∀ v2 : Int32, v2 = sI S a0 1 → kT S (sR S a0 2) = 9 ∧ vp_in v2 (kL S (sR S a0 2)) ∧ ∀ S5 : MS, S5 = pI S (sR S a0 2) (ix v2) 0 → kT S5 (sR S5 a0 3) = 9 ∧ vp_in v2 (kL S5 (sR S5 a0 3)) ∧ ∀ S10 : MS, S10 = pI S5 (sR S5 a0 3) (ix v2) a1 → kT S10 (sR S10 a0 7) = 9 ∧ vp_in v2 (kL S10 (sR S10 a0 7)) ∧ ∀ S16 : MS, S16 = pI S10 (sR S10 a0 7) (ix v2) 0 → kT S16 (sR S16 a0 12) = 9 ∧ vp_in v2 (kL S16 (sR S16 a0 12)) ∧ ∀ S23 : MS, S23 = pI S16 (sR S16 a0 12) (ix v2) 0 → ∃ f35, b_X6_beginWith_35 post f35 S23 a0 a1 v2 0
set_option maxHeartbeats 4000000 in
set_option maxRecDepth 100000 in
theorem ct_X6_beginWith (l : Launch) (G : GP) (S : MS) (a0 : Nat) (a1 : Int32) (post : Int32 → MS → Prop) (h : w_X6_beginWith S a0 a1 post) : MetM l yX6_beginWith cX6_beginWith 4 (some .int) rm_X6_beginWith [rf a0, .int a1] G S (pI_ post) := by
  refine met_of (by decide) (cat1_r (cat1_i cat1_n)) (Nat.le_of_ble_eq_true rfl) ?_
  intro p e s m args below meth c X hr hlk hin
  revert h
  have g94 : ∀ (S : MS) (l0 : Nat) (l1 : Int32) (l2 : Int32) (l3 : Int32), b_X6_beginWith_94 post S l0 l1 l2 l3 → Gd p l e rm_X6_beginWith s m args below meth c 4 G (MQ below (QcM G (pI_ post)) args s rm_X6_beginWith.cells rm_X6_beginWith.slots (Ab G)) 0 0 S 94 [(0, rf l0), (1, .int l1), (2, .int l2), (3, .int l3)] [] := by
    intro S l0 l1 l2 l3 h
    refine gd_aload_n (pc := 94) X 0 dX6_beginWith_94 rfl ?_
    refine gd_dupR (pc := 95) X dX6_beginWith_95 ?_
    obtain ⟨hk1, h⟩ := h
    refine gd_getI (pc := 96) (kf := 1) X ci6 (by decide) rfl tw_984 dX6_beginWith_96 hk1 ?_
    refine gd_iconst (pc := 99) X (1) dX6_beginWith_99 (by decide) ?_
    refine gd_iadd (pc := 100) X dX6_beginWith_100 ?_
    refine gd_putI (pc := 101) (kf := 1) X ci6 (by decide) rfl rfl tw_984 rfl rfl dX6_beginWith_101 hk1 ?_
    refine gd_topS (fun S2 hS2 => ?_)
    have h := h S2 hS2
    have hk3 : kT S2 l0 = 7 := by rw [hS2]; exact hk1
    refine gd_iload_n (pc := 104) X 2 dX6_beginWith_104 rfl ?_
    exact (gd_ret_i (pc := 105) X hr hlk rfl (by decide) (by decide) dX6_beginWith_105 ⟨_, rfl, h⟩)
  have g35 : ∀ (f : Nat) (S : MS) (l0 : Nat) (l1 : Int32) (l2 : Int32) (l3 : Int32), b_X6_beginWith_35 post f S l0 l1 l2 l3 → Gd p l e rm_X6_beginWith s m args below meth c 4 G (MQ below (QcM G (pI_ post)) args s rm_X6_beginWith.cells rm_X6_beginWith.slots (Ab G)) 0 0 S 35 [(0, rf l0), (1, .int l1), (2, .int l2), (3, .int l3)] [] := by
    intro f
    induction f with
    | zero => intro S l0 l1 l2 l3 h; exact h.elim
    | succ f ih =>
      intro S l0 l1 l2 l3 h
      refine gd_iload_n (pc := 35) X 3 dX6_beginWith_35 rfl ?_
      refine gd_bipush (pc := 36) X (32) dX6_beginWith_36 (by decide) ?_
      refine gd_icmp_ge (pc := 38) X 73 dX6_beginWith_38 (by decide) (fun hc19 => ?_) (fun hc19 => ?_)
      · have h := h.1 hc19
        refine gd_iload_n (pc := 73) X 1 dX6_beginWith_73 rfl ?_
        refine gd_aload_n (pc := 74) X 0 dX6_beginWith_74 rfl ?_
        obtain ⟨hk1, h⟩ := h
        refine gd_getI (pc := 75) (kf := 19) X ci6 (by decide) rfl tw_1002 dX6_beginWith_75 hk1 ?_
        refine gd_icmp_le (pc := 78) X 94 dX6_beginWith_78 (by decide) (fun hc5 => ?_) (fun hc5 => ?_)
        · have h := h.1 hc5
          exact g94 _ _ _ _ _ h
        · have h := h.2 hc5
          refine gd_aload_n (pc := 81) X 0 dX6_beginWith_81 rfl ?_
          refine gd_getI (pc := 82) (kf := 13) X ci6 (by decide) rfl tw_996 dX6_beginWith_82 hk1 ?_
          refine gd_iconst (pc := 85) X (-1) dX6_beginWith_85 (by decide) ?_
          refine gd_icmp_ne (pc := 86) X 94 dX6_beginWith_86 (by decide) (fun hc4 => ?_) (fun hc4 => ?_)
          · have h := h.1 hc4
            exact g94 _ _ _ _ _ h
          · have h := h.2 hc4
            refine gd_aload_n (pc := 89) X 0 dX6_beginWith_89 rfl ?_
            refine gd_iload_n (pc := 90) X 2 dX6_beginWith_90 rfl ?_
            refine gd_putI (pc := 91) (kf := 13) X ci6 (by decide) rfl rfl tw_996 rfl rfl dX6_beginWith_91 hk1 ?_
            refine gd_topS (fun S2 hS2 => ?_)
            have h := h S2 hS2
            have hk3 : kT S2 l0 = 7 := by rw [hS2]; exact hk1
            exact g94 _ _ _ _ _ h
      · have h := h.2 hc19
        refine gd_aload_n (pc := 41) X 0 dX6_beginWith_41 rfl ?_
        obtain ⟨hk6, h⟩ := h
        refine gd_getR (pc := 42) (kf := 9) X ci6 (by decide) rfl tw_992 dX6_beginWith_42 hk6 ?_
        refine gd_bipush (pc := 45) X (32) dX6_beginWith_45 (by decide) ?_
        refine gd_iload_n (pc := 47) X 2 dX6_beginWith_47 rfl ?_
        refine gd_imul (pc := 48) X dX6_beginWith_48 ?_
        refine gd_iload_n (pc := 49) X 3 dX6_beginWith_49 rfl ?_
        refine gd_iadd (pc := 50) X dX6_beginWith_50 ?_
        refine gd_iconst (pc := 51) X (-1) dX6_beginWith_51 (by decide) ?_
        obtain ⟨hk7, h⟩ := h
        obtain ⟨hi8, h⟩ := h
        refine gd_iast (pc := 52) X dX6_beginWith_52 hk7 hi8 ?_
        refine gd_topS (fun S9 hS9 => ?_)
        have h := h S9 hS9
        have hk10 : kT S9 l0 = 7 := by rw [hS9]; exact hk6
        have hk11 : kT S9 (sR S l0 9) = 9 := by rw [hS9]; exact hk7
        refine gd_aload_n (pc := 53) X 0 dX6_beginWith_53 rfl ?_
        refine gd_getR (pc := 54) (kf := 10) X ci6 (by decide) rfl tw_993 dX6_beginWith_54 hk10 ?_
        refine gd_bipush (pc := 57) X (32) dX6_beginWith_57 (by decide) ?_
        refine gd_iload_n (pc := 59) X 2 dX6_beginWith_59 rfl ?_
        refine gd_imul (pc := 60) X dX6_beginWith_60 ?_
        refine gd_iload_n (pc := 61) X 3 dX6_beginWith_61 rfl ?_
        refine gd_iadd (pc := 62) X dX6_beginWith_62 ?_
        refine gd_sipush (pc := 63) X (-5000) dX6_beginWith_63 (by decide) ?_
        obtain ⟨hk12, h⟩ := h
        obtain ⟨hi13, h⟩ := h
        refine gd_iast (pc := 66) X dX6_beginWith_66 hk12 hi13 ?_
        refine gd_topS (fun S14 hS14 => ?_)
        have h := h S14 hS14
        have hk15 : kT S14 l0 = 7 := by rw [hS14]; exact hk10
        have hk16 : kT S14 (sR S l0 9) = 9 := by rw [hS14]; exact hk11
        have hk17 : kT S14 (sR S9 l0 10) = 9 := by rw [hS14]; exact hk12
        obtain ⟨v18, hv18⟩ : ∃ z : Int32, z = l3 + 1 := ⟨_, rfl⟩
        have h := h v18 hv18
        refine gd_iinc (pc := 67) (v := v18) X 3 dX6_beginWith_67 rfl (by rw [hv18]; rfl) (by decide) (E2 := [(3, .int v18), (0, rf l0), (1, .int l1), (2, .int l2)]) rfl ?_
        refine gd_goto (pc := 70) X 35 dX6_beginWith_70 (by decide) ?_
        refine gd_sub [1, 2, 3, 0] rfl ?_
        exact ih _ _ _ _ _ h
  intro h
  refine gd_aload_n (pc := 0) X 0 dX6_beginWith_0 rfl ?_
  obtain ⟨hk1, h⟩ := h
  refine gd_getI (pc := 1) (kf := 1) X ci6 (by decide) rfl tw_984 dX6_beginWith_1 hk1 ?_
  refine gd_topI (fun v2 hv2 => ?_)
  have h := h v2 hv2
  refine gd_istore_n (pc := 4) X dX6_beginWith_4 (by decide) (E2 := [(2, .int v2), (0, rf a0), (1, .int a1)]) rfl ?_
  refine gd_aload_n (pc := 5) X 1 dX6_beginWith_5 rfl ?_
  refine gd_getR (pc := 6) (kf := 2) X ci6 (by decide) rfl tw_985 dX6_beginWith_6 hk1 ?_
  refine gd_iload_n (pc := 9) X 0 dX6_beginWith_9 rfl ?_
  refine gd_iconst (pc := 10) X (0) dX6_beginWith_10 (by decide) ?_
  obtain ⟨hk3, h⟩ := h
  obtain ⟨hi4, h⟩ := h
  refine gd_iast (pc := 11) X dX6_beginWith_11 hk3 hi4 ?_
  refine gd_topS (fun S5 hS5 => ?_)
  have h := h S5 hS5
  have hk6 : kT S5 a0 = 7 := by rw [hS5]; exact hk1
  have hk7 : kT S5 (sR S a0 2) = 9 := by rw [hS5]; exact hk3
  refine gd_aload_n (pc := 12) X 1 dX6_beginWith_12 rfl ?_
  refine gd_getR (pc := 13) (kf := 3) X ci6 (by decide) rfl tw_986 dX6_beginWith_13 hk6 ?_
  refine gd_iload_n (pc := 16) X 0 dX6_beginWith_16 rfl ?_
  refine gd_iload_n (pc := 17) X 2 dX6_beginWith_17 rfl ?_
  obtain ⟨hk8, h⟩ := h
  obtain ⟨hi9, h⟩ := h
  refine gd_iast (pc := 18) X dX6_beginWith_18 hk8 hi9 ?_
  refine gd_topS (fun S10 hS10 => ?_)
  have h := h S10 hS10
  have hk11 : kT S10 a0 = 7 := by rw [hS10]; exact hk6
  have hk12 : kT S10 (sR S a0 2) = 9 := by rw [hS10]; exact hk7
  have hk13 : kT S10 (sR S5 a0 3) = 9 := by rw [hS10]; exact hk8
  refine gd_aload_n (pc := 19) X 1 dX6_beginWith_19 rfl ?_
  refine gd_getR (pc := 20) (kf := 7) X ci6 (by decide) rfl tw_990 dX6_beginWith_20 hk11 ?_
  refine gd_iload_n (pc := 23) X 0 dX6_beginWith_23 rfl ?_
  refine gd_iconst (pc := 24) X (0) dX6_beginWith_24 (by decide) ?_
  obtain ⟨hk14, h⟩ := h
  obtain ⟨hi15, h⟩ := h
  refine gd_iast (pc := 25) X dX6_beginWith_25 hk14 hi15 ?_
  refine gd_topS (fun S16 hS16 => ?_)
  have h := h S16 hS16
  have hk17 : kT S16 a0 = 7 := by rw [hS16]; exact hk11
  have hk18 : kT S16 (sR S a0 2) = 9 := by rw [hS16]; exact hk12
  have hk19 : kT S16 (sR S5 a0 3) = 9 := by rw [hS16]; exact hk13
  have hk20 : kT S16 (sR S10 a0 7) = 9 := by rw [hS16]; exact hk14
  refine gd_aload_n (pc := 26) X 1 dX6_beginWith_26 rfl ?_
  refine gd_getR (pc := 27) (kf := 12) X ci6 (by decide) rfl tw_995 dX6_beginWith_27 hk17 ?_
  refine gd_iload_n (pc := 30) X 0 dX6_beginWith_30 rfl ?_
  refine gd_iconst (pc := 31) X (0) dX6_beginWith_31 (by decide) ?_
  obtain ⟨hk21, h⟩ := h
  obtain ⟨hi22, h⟩ := h
  refine gd_iast (pc := 32) X dX6_beginWith_32 hk21 hi22 ?_
  refine gd_topS (fun S23 hS23 => ?_)
  have h := h S23 hS23
  have hk24 : kT S23 a0 = 7 := by rw [hS23]; exact hk17
  have hk25 : kT S23 (sR S a0 2) = 9 := by rw [hS23]; exact hk18
  have hk26 : kT S23 (sR S5 a0 3) = 9 := by rw [hS23]; exact hk19
  have hk27 : kT S23 (sR S10 a0 7) = 9 := by rw [hS23]; exact hk20
  have hk28 : kT S23 (sR S16 a0 12) = 9 := by rw [hS23]; exact hk21
  refine gd_iconst (pc := 33) X (0) dX6_beginWith_33 (by decide) ?_
  refine gd_istore_n (pc := 34) X dX6_beginWith_34 (by decide) (E2 := [(3, .int 0), (2, .int v2), (0, rf a0), (1, .int a1)]) rfl ?_
  refine gd_sub [2, 3, 1, 0] rfl ?_
  obtain ⟨f35, h⟩ := h
  exact g35 f35 _ _ _ _ _ h
abbrev rm_X6_begin : Room := { frames := 2, cells := 0, slots := 0, locals := 42 }
def b_X6_begin_25 (post : Int32 → MS → Prop) (S : MS) (l0 : Nat) (s0 : Int32) : Prop := post s0 S
def w_X6_begin (S : MS) (a0 : Nat) (post : Int32 → MS → Prop) : Prop := kT S a0 = 7 ∧ ∀ S2 : MS, S2 = pI S a0 0 0 → w_X6_hasRoom S2 a0 (fun r5 S4 => ((r5 = 0 → kT S4 a0 = 7 ∧ w_X6_fail S4 a0 1 (fun r8 S7 => b_X6_begin_25 post S7 a0 r8)) ∧ (¬ r5 = 0 → kT S4 a0 = 7 ∧ w_X6_beginWith S4 a0 1 (fun r11 S10 => b_X6_begin_25 post S10 a0 r11))))
set_option maxHeartbeats 4000000 in
set_option maxRecDepth 100000 in
theorem ct_X6_begin (l : Launch) (G : GP) (S : MS) (a0 : Nat) (post : Int32 → MS → Prop) (h : w_X6_begin S a0 post) : MetM l yX6_begin cX6_begin 1 (some .int) rm_X6_begin [rf a0] G S (pI_ post) := by
  refine met_of (by decide) (cat1_r cat1_n) (Nat.le_of_ble_eq_true rfl) ?_
  intro p e s m args below meth c X hr hlk hin
  revert h
  have g25 : ∀ (S : MS) (l0 : Nat) (s0 : Int32), b_X6_begin_25 post S l0 s0 → Gd p l e rm_X6_begin s m args below meth c 1 G (MQ below (QcM G (pI_ post)) args s rm_X6_begin.cells rm_X6_begin.slots (Ab G)) 0 0 S 25 [(0, rf l0)] [.int s0] := by
    intro S l0 s0 h
    exact (gd_ret_i (pc := 25) X hr hlk rfl (by decide) (by decide) dX6_begin_25 ⟨_, rfl, h⟩)
  intro h
  refine gd_aload_n (pc := 0) X 0 dX6_begin_0 rfl ?_
  refine gd_iconst (pc := 1) X (0) dX6_begin_1 (by decide) ?_
  obtain ⟨hk1, h⟩ := h
  refine gd_putI (pc := 2) (kf := 0) X ci6 (by decide) rfl rfl tw_983 rfl rfl dX6_begin_2 hk1 ?_
  refine gd_topS (fun S2 hS2 => ?_)
  have h := h S2 hS2
  have hk3 : kT S2 a0 = 7 := by rw [hS2]; exact hk1
  refine gd_aload_n (pc := 5) X 0 dX6_begin_5 rfl ?_
  refine gd_callV (pc := 6) (As := []) (rest := []) X (ct_X6_hasRoom l G S2 a0 _ h) mw_X6_hasRoom tw_1093 ci6 rfl hk3 ⟨(Nat.le_of_ble_eq_true rfl), (Nat.le_of_ble_eq_true rfl)⟩ rfl rfl (Nat.le_of_ble_eq_true rfl) dX6_begin_6 ⟨Nat.le_of_ble_eq_true rfl, Nat.le_of_ble_eq_true rfl⟩ (kI (fun r5 S4 h => ?_))
  refine gd_wide (k2 := 0) (j2 := 0) (Nat.le_of_ble_eq_true rfl) (Nat.le_of_ble_eq_true rfl) ?_
  refine gd_if_eq (pc := 9) X 20 dX6_begin_9 (by decide) (fun hc12 => ?_) (fun hc12 => ?_)
  · have h := h.1 hc12
    refine gd_aload_n (pc := 20) X 0 dX6_begin_20 rfl ?_
    refine gd_iconst (pc := 21) X (1) dX6_begin_21 (by decide) ?_
    obtain ⟨hk6, h⟩ := h
    refine gd_callV (pc := 22) (As := [.int 1]) (rest := []) X (ct_X6_fail l G S4 a0 1 _ h) mw_X6_fail tw_1101 ci6 rfl hk6 ⟨(Nat.le_of_ble_eq_true rfl), (Nat.le_of_ble_eq_true rfl)⟩ rfl rfl (Nat.le_of_ble_eq_true rfl) dX6_begin_22 ⟨Nat.le_of_ble_eq_true rfl, Nat.le_of_ble_eq_true rfl⟩ (kI (fun r8 S7 h => ?_))
    refine gd_wide (k2 := 0) (j2 := 0) (Nat.le_of_ble_eq_true rfl) (Nat.le_of_ble_eq_true rfl) ?_
    exact g25 _ _ _ h
  · have h := h.2 hc12
    refine gd_aload_n (pc := 12) X 0 dX6_begin_12 rfl ?_
    refine gd_iconst (pc := 13) X (1) dX6_begin_13 (by decide) ?_
    obtain ⟨hk9, h⟩ := h
    refine gd_callV (pc := 14) (As := [.int 1]) (rest := []) X (ct_X6_beginWith l G S4 a0 1 _ h) mw_X6_beginWith tw_1097 ci6 rfl hk9 ⟨(Nat.le_of_ble_eq_true rfl), (Nat.le_of_ble_eq_true rfl)⟩ rfl rfl (Nat.le_of_ble_eq_true rfl) dX6_begin_14 ⟨Nat.le_of_ble_eq_true rfl, Nat.le_of_ble_eq_true rfl⟩ (kI (fun r11 S10 h => ?_))
    refine gd_wide (k2 := 0) (j2 := 0) (Nat.le_of_ble_eq_true rfl) (Nat.le_of_ble_eq_true rfl) ?_
    refine gd_goto (pc := 17) X 25 dX6_begin_17 (by decide) ?_
    exact g25 _ _ _ h
abbrev rm_X6_retry : Room := { frames := 2, cells := 0, slots := 0, locals := 43 }
def b_X6_retry_45 (post : Int32 → MS → Prop) (S : MS) (l0 : Nat) (l1 : Int32) : Prop := kT S l0 = 7 ∧ w_X6_fail S l0 2 (fun r3 S2 => post r3 S2)
def w_X6_retry (S : MS) (a0 : Nat) (a1 : Int32) (post : Int32 → MS → Prop) : Prop := kT S a0 = 7 ∧ ∀ S2 : MS, S2 = pI S a0 0 0 → w_X6_isTransaction S2 a0 a1 (fun r5 S4 => ((¬ r5 = 0 → kT S4 a0 = 7 ∧ kT S4 (sR S4 a0 2) = 9 ∧ vp_in a1 (kL S4 (sR S4 a0 2)) ∧ ((¬ (sI S4 (sR S4 a0 2) (ix a1)) = 2 → b_X6_retry_45 post S4 a0 a1) ∧ ((sI S4 (sR S4 a0 2) (ix a1)) = 2 → kT S4 (sR S4 a0 6) = 10 ∧ vp_in a1 (kL S4 (sR S4 a0 6)) ∧ ((¬ (sI S4 (sR S4 a0 6) (ix a1)) = 0 → b_X6_retry_45 post S4 a0 a1) ∧ ((sI S4 (sR S4 a0 6) (ix a1)) = 0 → w_X6_hasRoom S4 a0 (fun r12 S11 => ((¬ r12 = 0 → kT S11 a0 = 7 ∧ kT S11 (sR S11 a0 6) = 10 ∧ vp_in a1 (kL S11 (sR S11 a0 6)) ∧ ∀ S16 : MS, S16 = pI S11 (sR S11 a0 6) (ix a1) (vp_nar .boolean 1) → kT S16 (sR S16 a0 3) = 9 ∧ vp_in a1 (kL S16 (sR S16 a0 3)) ∧ w_X6_beginWith S16 a0 ((sI S16 (sR S16 a0 3) (ix a1)) + 1) (fun r22 S21 => post r22 S21)) ∧ (r12 = 0 → b_X6_retry_45 post S11 a0 a1)))))))) ∧ (r5 = 0 → kT S4 a0 = 7 ∧ w_X6_fail S4 a0 1 (fun r28 S27 => post r28 S27))))
set_option maxHeartbeats 4000000 in
set_option maxRecDepth 100000 in
theorem ct_X6_retry (l : Launch) (G : GP) (S : MS) (a0 : Nat) (a1 : Int32) (post : Int32 → MS → Prop) (h : w_X6_retry S a0 a1 post) : MetM l yX6_retry cX6_retry 2 (some .int) rm_X6_retry [rf a0, .int a1] G S (pI_ post) := by
  refine met_of (by decide) (cat1_r (cat1_i cat1_n)) (Nat.le_of_ble_eq_true rfl) ?_
  intro p e s m args below meth c X hr hlk hin
  revert h
  have g45 : ∀ (S : MS) (l0 : Nat) (l1 : Int32), b_X6_retry_45 post S l0 l1 → Gd p l e rm_X6_retry s m args below meth c 2 G (MQ below (QcM G (pI_ post)) args s rm_X6_retry.cells rm_X6_retry.slots (Ab G)) 0 0 S 45 [(0, rf l0), (1, .int l1)] [] := by
    intro S l0 l1 h
    refine gd_aload_n (pc := 45) X 0 dX6_retry_45 rfl ?_
    refine gd_iconst (pc := 46) X (2) dX6_retry_46 (by decide) ?_
    obtain ⟨hk1, h⟩ := h
    refine gd_callV (pc := 47) (As := [.int 2]) (rest := []) X (ct_X6_fail l G S l0 2 _ h) mw_X6_fail tw_1101 ci6 rfl hk1 ⟨(Nat.le_of_ble_eq_true rfl), (Nat.le_of_ble_eq_true rfl)⟩ rfl rfl (Nat.le_of_ble_eq_true rfl) dX6_retry_47 ⟨Nat.le_of_ble_eq_true rfl, Nat.le_of_ble_eq_true rfl⟩ (kI (fun r3 S2 h => ?_))
    refine gd_wide (k2 := 0) (j2 := 0) (Nat.le_of_ble_eq_true rfl) (Nat.le_of_ble_eq_true rfl) ?_
    exact (gd_ret_i (pc := 50) X hr hlk rfl (by decide) (by decide) dX6_retry_50 ⟨_, rfl, h⟩)
  intro h
  refine gd_aload_n (pc := 0) X 0 dX6_retry_0 rfl ?_
  refine gd_iconst (pc := 1) X (0) dX6_retry_1 (by decide) ?_
  obtain ⟨hk1, h⟩ := h
  refine gd_putI (pc := 2) (kf := 0) X ci6 (by decide) rfl rfl tw_983 rfl rfl dX6_retry_2 hk1 ?_
  refine gd_topS (fun S2 hS2 => ?_)
  have h := h S2 hS2
  have hk3 : kT S2 a0 = 7 := by rw [hS2]; exact hk1
  refine gd_aload_n (pc := 5) X 0 dX6_retry_5 rfl ?_
  refine gd_iload_n (pc := 6) X 1 dX6_retry_6 rfl ?_
  refine gd_callV (pc := 7) (As := [.int a1]) (rest := []) X (ct_X6_isTransaction l G S2 a0 a1 _ h) mw_X6_isTransaction tw_1109 ci6 rfl hk3 ⟨(Nat.le_of_ble_eq_true rfl), (Nat.le_of_ble_eq_true rfl)⟩ rfl rfl (Nat.le_of_ble_eq_true rfl) dX6_retry_7 ⟨Nat.le_of_ble_eq_true rfl, Nat.le_of_ble_eq_true rfl⟩ (kI (fun r5 S4 h => ?_))
  refine gd_wide (k2 := 0) (j2 := 0) (Nat.le_of_ble_eq_true rfl) (Nat.le_of_ble_eq_true rfl) ?_
  refine gd_if_ne (pc := 10) X 19 dX6_retry_10 (by decide) (fun hc29 => ?_) (fun hc29 => ?_)
  · have h := h.1 hc29
    refine gd_aload_n (pc := 19) X 0 dX6_retry_19 rfl ?_
    obtain ⟨hk6, h⟩ := h
    refine gd_getR (pc := 20) (kf := 2) X ci6 (by decide) rfl tw_985 dX6_retry_20 hk6 ?_
    refine gd_iload_n (pc := 23) X 1 dX6_retry_23 rfl ?_
    obtain ⟨hk7, h⟩ := h
    obtain ⟨hi8, h⟩ := h
    refine gd_iald (pc := 24) X dX6_retry_24 hk7 hi8 ?_
    refine gd_iconst (pc := 25) X (2) dX6_retry_25 (by decide) ?_
    refine gd_icmp_ne (pc := 26) X 45 dX6_retry_26 (by decide) (fun hc25 => ?_) (fun hc25 => ?_)
    · have h := h.1 hc25
      exact g45 _ _ _ h
    · have h := h.2 hc25
      refine gd_aload_n (pc := 29) X 0 dX6_retry_29 rfl ?_
      refine gd_getR (pc := 30) (kf := 6) X ci6 (by decide) rfl tw_989 dX6_retry_30 hk6 ?_
      refine gd_iload_n (pc := 33) X 1 dX6_retry_33 rfl ?_
      obtain ⟨hk9, h⟩ := h
      obtain ⟨hi10, h⟩ := h
      refine gd_zald (pc := 34) X dX6_retry_34 hk9 hi10 ?_
      refine gd_if_ne (pc := 35) X 45 dX6_retry_35 (by decide) (fun hc24 => ?_) (fun hc24 => ?_)
      · have h := h.1 hc24
        exact g45 _ _ _ h
      · have h := h.2 hc24
        refine gd_aload_n (pc := 38) X 0 dX6_retry_38 rfl ?_
        refine gd_callV (pc := 39) (As := []) (rest := []) X (ct_X6_hasRoom l G S4 a0 _ h) mw_X6_hasRoom tw_1093 ci6 rfl hk6 ⟨(Nat.le_of_ble_eq_true rfl), (Nat.le_of_ble_eq_true rfl)⟩ rfl rfl (Nat.le_of_ble_eq_true rfl) dX6_retry_39 ⟨Nat.le_of_ble_eq_true rfl, Nat.le_of_ble_eq_true rfl⟩ (kI (fun r12 S11 h => ?_))
        refine gd_wide (k2 := 0) (j2 := 0) (Nat.le_of_ble_eq_true rfl) (Nat.le_of_ble_eq_true rfl) ?_
        refine gd_if_ne (pc := 42) X 51 dX6_retry_42 (by decide) (fun hc23 => ?_) (fun hc23 => ?_)
        · have h := h.1 hc23
          refine gd_aload_n (pc := 51) X 0 dX6_retry_51 rfl ?_
          obtain ⟨hk13, h⟩ := h
          refine gd_getR (pc := 52) (kf := 6) X ci6 (by decide) rfl tw_989 dX6_retry_52 hk13 ?_
          refine gd_iload_n (pc := 55) X 1 dX6_retry_55 rfl ?_
          refine gd_iconst (pc := 56) X (1) dX6_retry_56 (by decide) ?_
          obtain ⟨hk14, h⟩ := h
          obtain ⟨hi15, h⟩ := h
          refine gd_zast (pc := 57) X dX6_retry_57 hk14 hi15 ?_
          refine gd_topS (fun S16 hS16 => ?_)
          have h := h S16 hS16
          have hk17 : kT S16 a0 = 7 := by rw [hS16]; exact hk13
          have hk18 : kT S16 (sR S11 a0 6) = 10 := by rw [hS16]; exact hk14
          refine gd_aload_n (pc := 58) X 0 dX6_retry_58 rfl ?_
          refine gd_aload_n (pc := 59) X 0 dX6_retry_59 rfl ?_
          refine gd_getR (pc := 60) (kf := 3) X ci6 (by decide) rfl tw_986 dX6_retry_60 hk17 ?_
          refine gd_iload_n (pc := 63) X 1 dX6_retry_63 rfl ?_
          obtain ⟨hk19, h⟩ := h
          obtain ⟨hi20, h⟩ := h
          refine gd_iald (pc := 64) X dX6_retry_64 hk19 hi20 ?_
          refine gd_iconst (pc := 65) X (1) dX6_retry_65 (by decide) ?_
          refine gd_iadd (pc := 66) X dX6_retry_66 ?_
          refine gd_callV (pc := 67) (As := [.int ((sI S16 (sR S16 a0 3) (ix a1)) + 1)]) (rest := []) X (ct_X6_beginWith l G S16 a0 ((sI S16 (sR S16 a0 3) (ix a1)) + 1) _ h) mw_X6_beginWith tw_1097 ci6 rfl hk17 ⟨(Nat.le_of_ble_eq_true rfl), (Nat.le_of_ble_eq_true rfl)⟩ rfl rfl (Nat.le_of_ble_eq_true rfl) dX6_retry_67 ⟨Nat.le_of_ble_eq_true rfl, Nat.le_of_ble_eq_true rfl⟩ (kI (fun r22 S21 h => ?_))
          refine gd_wide (k2 := 0) (j2 := 0) (Nat.le_of_ble_eq_true rfl) (Nat.le_of_ble_eq_true rfl) ?_
          exact (gd_ret_i (pc := 70) X hr hlk rfl (by decide) (by decide) dX6_retry_70 ⟨_, rfl, h⟩)
        · have h := h.2 hc23
          exact g45 _ _ _ h
  · have h := h.2 hc29
    refine gd_aload_n (pc := 13) X 0 dX6_retry_13 rfl ?_
    refine gd_iconst (pc := 14) X (1) dX6_retry_14 (by decide) ?_
    obtain ⟨hk26, h⟩ := h
    refine gd_callV (pc := 15) (As := [.int 1]) (rest := []) X (ct_X6_fail l G S4 a0 1 _ h) mw_X6_fail tw_1101 ci6 rfl hk26 ⟨(Nat.le_of_ble_eq_true rfl), (Nat.le_of_ble_eq_true rfl)⟩ rfl rfl (Nat.le_of_ble_eq_true rfl) dX6_retry_15 ⟨Nat.le_of_ble_eq_true rfl, Nat.le_of_ble_eq_true rfl⟩ (kI (fun r28 S27 h => ?_))
    refine gd_wide (k2 := 0) (j2 := 0) (Nat.le_of_ble_eq_true rfl) (Nat.le_of_ble_eq_true rfl) ?_
    exact (gd_ret_i (pc := 18) X hr hlk rfl (by decide) (by decide) dX6_retry_18 ⟨_, rfl, h⟩)
abbrev rm_X6_viewed : Room := { frames := 1, cells := 0, slots := 0, locals := 22 }
def b_X6_viewed_32 (post : Int32 → MS → Prop) (S : MS) (l0 : Nat) (l1 : Int32) (l2 : Int32) (l3 : Int32) (s0 : Int32) : Prop := post s0 S
def w_X6_viewed (S : MS) (a0 : Nat) (a1 : Int32) (a2 : Int32) (post : Int32 → MS → Prop) : Prop := kT S a0 = 7 ∧ kT S (sR S a0 10) = 9 ∧ vp_in ((32 * a1) + a2) (kL S (sR S a0 10)) ∧ ∀ v4 : Int32, v4 = sI S (sR S a0 10) (ix ((32 * a1) + a2)) → ((¬ v4 = ((-5000)) → b_X6_viewed_32 post S a0 a1 a2 v4 v4) ∧ (v4 = ((-5000)) → w_X6_stored S a0 (sI S a0 14) a2 (fun r6 S5 => b_X6_viewed_32 post S5 a0 a1 a2 v4 r6)))
set_option maxHeartbeats 4000000 in
set_option maxRecDepth 100000 in
theorem ct_X6_viewed (l : Launch) (G : GP) (S : MS) (a0 : Nat) (a1 : Int32) (a2 : Int32) (post : Int32 → MS → Prop) (h : w_X6_viewed S a0 a1 a2 post) : MetM l yX6_viewed cX6_viewed 4 (some .int) rm_X6_viewed [rf a0, .int a1, .int a2] G S (pI_ post) := by
  refine met_of (by decide) (cat1_r (cat1_i (cat1_i cat1_n))) (Nat.le_of_ble_eq_true rfl) ?_
  intro p e s m args below meth c X hr hlk hin
  revert h
  have g32 : ∀ (S : MS) (l0 : Nat) (l1 : Int32) (l2 : Int32) (l3 : Int32) (s0 : Int32), b_X6_viewed_32 post S l0 l1 l2 l3 s0 → Gd p l e rm_X6_viewed s m args below meth c 4 G (MQ below (QcM G (pI_ post)) args s rm_X6_viewed.cells rm_X6_viewed.slots (Ab G)) 0 0 S 32 [(0, rf l0), (1, .int l1), (2, .int l2), (3, .int l3)] [.int s0] := by
    intro S l0 l1 l2 l3 s0 h
    exact (gd_ret_i (pc := 32) X hr hlk rfl (by decide) (by decide) dX6_viewed_32 ⟨_, rfl, h⟩)
  intro h
  refine gd_aload_n (pc := 0) X 0 dX6_viewed_0 rfl ?_
  obtain ⟨hk1, h⟩ := h
  refine gd_getR (pc := 1) (kf := 10) X ci6 (by decide) rfl tw_993 dX6_viewed_1 hk1 ?_
  refine gd_bipush (pc := 4) X (32) dX6_viewed_4 (by decide) ?_
  refine gd_iload_n (pc := 6) X 1 dX6_viewed_6 rfl ?_
  refine gd_imul (pc := 7) X dX6_viewed_7 ?_
  refine gd_iload_n (pc := 8) X 2 dX6_viewed_8 rfl ?_
  refine gd_iadd (pc := 9) X dX6_viewed_9 ?_
  obtain ⟨hk2, h⟩ := h
  obtain ⟨hi3, h⟩ := h
  refine gd_iald (pc := 10) X dX6_viewed_10 hk2 hi3 ?_
  refine gd_topI (fun v4 hv4 => ?_)
  have h := h v4 hv4
  refine gd_istore_n (pc := 11) X dX6_viewed_11 (by decide) (E2 := [(3, .int v4), (0, rf a0), (1, .int a1), (2, .int a2)]) rfl ?_
  refine gd_iload_n (pc := 12) X 0 dX6_viewed_12 rfl ?_
  refine gd_sipush (pc := 13) X (-5000) dX6_viewed_13 (by decide) ?_
  refine gd_icmp_ne (pc := 16) X 31 dX6_viewed_16 (by decide) (fun hc7 => ?_) (fun hc7 => ?_)
  · have h := h.1 hc7
    refine gd_iload_n (pc := 31) X 0 dX6_viewed_31 rfl ?_
    refine gd_sub [1, 2, 3, 0] rfl ?_
    exact g32 _ _ _ _ _ _ h
  · have h := h.2 hc7
    refine gd_aload_n (pc := 19) X 1 dX6_viewed_19 rfl ?_
    refine gd_aload_n (pc := 20) X 1 dX6_viewed_20 rfl ?_
    refine gd_getI (pc := 21) (kf := 14) X ci6 (by decide) rfl tw_997 dX6_viewed_21 hk1 ?_
    refine gd_iload_n (pc := 24) X 3 dX6_viewed_24 rfl ?_
    refine gd_callV (pc := 25) (As := [.int (sI S a0 14), .int a2]) (rest := []) X (ct_X6_stored l G S a0 (sI S a0 14) a2 _ h) mw_X6_stored tw_1132 ci6 rfl hk1 ⟨(Nat.le_of_ble_eq_true rfl), (Nat.le_of_ble_eq_true rfl)⟩ rfl rfl (Nat.le_of_ble_eq_true rfl) dX6_viewed_25 ⟨Nat.le_of_ble_eq_true rfl, Nat.le_of_ble_eq_true rfl⟩ (kI (fun r6 S5 h => ?_))
    refine gd_wide (k2 := 0) (j2 := 0) (Nat.le_of_ble_eq_true rfl) (Nat.le_of_ble_eq_true rfl) ?_
    refine gd_goto (pc := 28) X 32 dX6_viewed_28 (by decide) ?_
    refine gd_sub [1, 2, 3, 0] rfl ?_
    exact g32 _ _ _ _ _ _ h
abbrev rm_X6_recordKey : Room := { frames := 0, cells := 0, slots := 0, locals := 0 }
def b_X6_recordKey_47 (post : MS → Prop) (S : MS) (l0 : Nat) (l1 : Int32) (l2 : Int32) : Prop := post S
def w_X6_recordKey (S : MS) (a0 : Nat) (a1 : Int32) (a2 : Int32) (post : MS → Prop) : Prop := kT S a0 = 7 ∧ kT S (sR S a0 10) = 9 ∧ vp_in ((32 * a1) + a2) (kL S (sR S a0 10)) ∧ ((¬ (sI S (sR S a0 10) (ix ((32 * a1) + a2))) = ((-5000)) → b_X6_recordKey_47 post S a0 a1 a2) ∧ ((sI S (sR S a0 10) (ix ((32 * a1) + a2))) = ((-5000)) → kT S (sR S a0 9) = 9 ∧ vp_in ((32 * a1) + a2) (kL S (sR S a0 9)) ∧ ((¬ (sI S (sR S a0 9) (ix ((32 * a1) + a2))) = ((-1)) → b_X6_recordKey_47 post S a0 a1 a2) ∧ ((sI S (sR S a0 9) (ix ((32 * a1) + a2))) = ((-1)) → vp_in ((32 * a1) + a2) (kL S (sR S a0 9)) ∧ ∀ S7 : MS, S7 = pI S (sR S a0 9) (ix ((32 * a1) + a2)) (sI S a0 14) → b_X6_recordKey_47 post S7 a0 a1 a2))))
set_option maxHeartbeats 4000000 in
set_option maxRecDepth 100000 in
theorem ct_X6_recordKey (l : Launch) (G : GP) (S : MS) (a0 : Nat) (a1 : Int32) (a2 : Int32) (post : MS → Prop) (h : w_X6_recordKey S a0 a1 a2 post) : MetM l yX6_recordKey cX6_recordKey 3 none rm_X6_recordKey [rf a0, .int a1, .int a2] G S (pV_ post) := by
  refine met_of (by decide) (cat1_r (cat1_i (cat1_i cat1_n))) (Nat.le_of_ble_eq_true rfl) ?_
  intro p e s m args below meth c X hr hlk hin
  revert h
  have g47 : ∀ (S : MS) (l0 : Nat) (l1 : Int32) (l2 : Int32), b_X6_recordKey_47 post S l0 l1 l2 → Gd p l e rm_X6_recordKey s m args below meth c 3 G (MQ below (QcM G (pV_ post)) args s rm_X6_recordKey.cells rm_X6_recordKey.slots (Ab G)) 0 0 S 47 [(0, rf l0), (1, .int l1), (2, .int l2)] [] := by
    intro S l0 l1 l2 h
    exact (gd_ret_v (pc := 47) X hr hlk (by decide) (by decide) dX6_recordKey_47 ⟨rfl, h⟩)
  intro h
  refine gd_aload_n (pc := 0) X 0 dX6_recordKey_0 rfl ?_
  obtain ⟨hk1, h⟩ := h
  refine gd_getR (pc := 1) (kf := 10) X ci6 (by decide) rfl tw_993 dX6_recordKey_1 hk1 ?_
  refine gd_bipush (pc := 4) X (32) dX6_recordKey_4 (by decide) ?_
  refine gd_iload_n (pc := 6) X 1 dX6_recordKey_6 rfl ?_
  refine gd_imul (pc := 7) X dX6_recordKey_7 ?_
  refine gd_iload_n (pc := 8) X 2 dX6_recordKey_8 rfl ?_
  refine gd_iadd (pc := 9) X dX6_recordKey_9 ?_
  obtain ⟨hk2, h⟩ := h
  obtain ⟨hi3, h⟩ := h
  refine gd_iald (pc := 10) X dX6_recordKey_10 hk2 hi3 ?_
  refine gd_sipush (pc := 11) X (-5000) dX6_recordKey_11 (by decide) ?_
  refine gd_icmp_ne (pc := 14) X 47 dX6_recordKey_14 (by decide) (fun hc12 => ?_) (fun hc12 => ?_)
  · have h := h.1 hc12
    exact g47 _ _ _ _ h
  · have h := h.2 hc12
    refine gd_aload_n (pc := 17) X 0 dX6_recordKey_17 rfl ?_
    refine gd_getR (pc := 18) (kf := 9) X ci6 (by decide) rfl tw_992 dX6_recordKey_18 hk1 ?_
    refine gd_bipush (pc := 21) X (32) dX6_recordKey_21 (by decide) ?_
    refine gd_iload_n (pc := 23) X 1 dX6_recordKey_23 rfl ?_
    refine gd_imul (pc := 24) X dX6_recordKey_24 ?_
    refine gd_iload_n (pc := 25) X 2 dX6_recordKey_25 rfl ?_
    refine gd_iadd (pc := 26) X dX6_recordKey_26 ?_
    obtain ⟨hk4, h⟩ := h
    obtain ⟨hi5, h⟩ := h
    refine gd_iald (pc := 27) X dX6_recordKey_27 hk4 hi5 ?_
    refine gd_iconst (pc := 28) X (-1) dX6_recordKey_28 (by decide) ?_
    refine gd_icmp_ne (pc := 29) X 47 dX6_recordKey_29 (by decide) (fun hc11 => ?_) (fun hc11 => ?_)
    · have h := h.1 hc11
      exact g47 _ _ _ _ h
    · have h := h.2 hc11
      refine gd_aload_n (pc := 32) X 0 dX6_recordKey_32 rfl ?_
      refine gd_getR (pc := 33) (kf := 9) X ci6 (by decide) rfl tw_992 dX6_recordKey_33 hk1 ?_
      refine gd_bipush (pc := 36) X (32) dX6_recordKey_36 (by decide) ?_
      refine gd_iload_n (pc := 38) X 1 dX6_recordKey_38 rfl ?_
      refine gd_imul (pc := 39) X dX6_recordKey_39 ?_
      refine gd_iload_n (pc := 40) X 2 dX6_recordKey_40 rfl ?_
      refine gd_iadd (pc := 41) X dX6_recordKey_41 ?_
      refine gd_aload_n (pc := 42) X 0 dX6_recordKey_42 rfl ?_
      refine gd_getI (pc := 43) (kf := 14) X ci6 (by decide) rfl tw_997 dX6_recordKey_43 hk1 ?_
      obtain ⟨hi6, h⟩ := h
      refine gd_iast (pc := 46) X dX6_recordKey_46 hk4 hi6 ?_
      refine gd_topS (fun S7 hS7 => ?_)
      have h := h S7 hS7
      have hk8 : kT S7 a0 = 7 := by rw [hS7]; exact hk1
      have hk9 : kT S7 (sR S a0 10) = 9 := by rw [hS7]; exact hk2
      have hk10 : kT S7 (sR S a0 9) = 9 := by rw [hS7]; exact hk4
      exact g47 _ _ _ _ h
abbrev rm_X6_recordRange : Room := { frames := 0, cells := 0, slots := 0, locals := 0 }
def w_X6_recordRange (S : MS) (a0 : Nat) (a1 : Int32) (a2 : Int32) (a3 : Int32) (a4 : Int32) (post : MS → Prop) : Prop := kT S a0 = 7 ∧ kT S (sR S a0 12) = 9 ∧ vp_in a1 (kL S (sR S a0 12)) ∧ ∀ v4 : Int32, v4 = 4 * ((24 * a1) + (sI S (sR S a0 12) (ix a1))) → kT S (sR S a0 11) = 9 ∧ vp_in v4 (kL S (sR S a0 11)) ∧ ∀ S7 : MS, S7 = pI S (sR S a0 11) (ix v4) a2 → kT S7 (sR S7 a0 11) = 9 ∧ vp_in (v4 + 1) (kL S7 (sR S7 a0 11)) ∧ ∀ S13 : MS, S13 = pI S7 (sR S7 a0 11) (ix (v4 + 1)) a3 → kT S13 (sR S13 a0 11) = 9 ∧ vp_in (v4 + 2) (kL S13 (sR S13 a0 11)) ∧ ∀ S20 : MS, S20 = pI S13 (sR S13 a0 11) (ix (v4 + 2)) a4 → kT S20 (sR S20 a0 11) = 9 ∧ vp_in (v4 + 3) (kL S20 (sR S20 a0 11)) ∧ ∀ S28 : MS, S28 = pI S20 (sR S20 a0 11) (ix (v4 + 3)) (sI S20 a0 14) → kT S28 (sR S28 a0 12) = 9 ∧ vp_in a1 (kL S28 (sR S28 a0 12)) ∧ vp_in a1 (kL S28 (sR S28 a0 12)) ∧ ∀ S38 : MS, S38 = pI S28 (sR S28 a0 12) (ix a1) ((sI S28 (sR S28 a0 12) (ix a1)) + 1) → post S38
set_option maxHeartbeats 4000000 in
set_option maxRecDepth 100000 in
theorem ct_X6_recordRange (l : Launch) (G : GP) (S : MS) (a0 : Nat) (a1 : Int32) (a2 : Int32) (a3 : Int32) (a4 : Int32) (post : MS → Prop) (h : w_X6_recordRange S a0 a1 a2 a3 a4 post) : MetM l yX6_recordRange cX6_recordRange 6 none rm_X6_recordRange [rf a0, .int a1, .int a2, .int a3, .int a4] G S (pV_ post) := by
  refine met_of (by decide) (cat1_r (cat1_i (cat1_i (cat1_i (cat1_i cat1_n))))) (Nat.le_of_ble_eq_true rfl) ?_
  intro p e s m args below meth c X hr hlk hin
  refine gd_iconst (pc := 0) X (4) dX6_recordRange_0 (by decide) ?_
  refine gd_bipush (pc := 1) X (24) dX6_recordRange_1 (by decide) ?_
  refine gd_iload_n (pc := 3) X 1 dX6_recordRange_3 rfl ?_
  refine gd_imul (pc := 4) X dX6_recordRange_4 ?_
  refine gd_aload_n (pc := 5) X 0 dX6_recordRange_5 rfl ?_
  obtain ⟨hk1, h⟩ := h
  refine gd_getR (pc := 6) (kf := 12) X ci6 (by decide) rfl tw_995 dX6_recordRange_6 hk1 ?_
  refine gd_iload_n (pc := 9) X 1 dX6_recordRange_9 rfl ?_
  obtain ⟨hk2, h⟩ := h
  obtain ⟨hi3, h⟩ := h
  refine gd_iald (pc := 10) X dX6_recordRange_10 hk2 hi3 ?_
  refine gd_iadd (pc := 11) X dX6_recordRange_11 ?_
  refine gd_imul (pc := 12) X dX6_recordRange_12 ?_
  refine gd_topI (fun v4 hv4 => ?_)
  have h := h v4 hv4
  refine gd_istore (pc := 13) X dX6_recordRange_13 (by decide) (E2 := [(5, .int v4), (0, rf a0), (1, .int a1), (2, .int a2), (3, .int a3), (4, .int a4)]) rfl ?_
  refine gd_aload_n (pc := 15) X 1 dX6_recordRange_15 rfl ?_
  refine gd_getR (pc := 16) (kf := 11) X ci6 (by decide) rfl tw_994 dX6_recordRange_16 hk1 ?_
  refine gd_iload (pc := 19) X 0 dX6_recordRange_19 rfl ?_
  refine gd_iload_n (pc := 21) X 3 dX6_recordRange_21 rfl ?_
  obtain ⟨hk5, h⟩ := h
  obtain ⟨hi6, h⟩ := h
  refine gd_iast (pc := 22) X dX6_recordRange_22 hk5 hi6 ?_
  refine gd_topS (fun S7 hS7 => ?_)
  have h := h S7 hS7
  have hk8 : kT S7 a0 = 7 := by rw [hS7]; exact hk1
  have hk9 : kT S7 (sR S a0 12) = 9 := by rw [hS7]; exact hk2
  have hk10 : kT S7 (sR S a0 11) = 9 := by rw [hS7]; exact hk5
  refine gd_aload_n (pc := 23) X 1 dX6_recordRange_23 rfl ?_
  refine gd_getR (pc := 24) (kf := 11) X ci6 (by decide) rfl tw_994 dX6_recordRange_24 hk8 ?_
  refine gd_iload (pc := 27) X 0 dX6_recordRange_27 rfl ?_
  refine gd_iconst (pc := 29) X (1) dX6_recordRange_29 (by decide) ?_
  refine gd_iadd (pc := 30) X dX6_recordRange_30 ?_
  refine gd_iload_n (pc := 31) X 4 dX6_recordRange_31 rfl ?_
  obtain ⟨hk11, h⟩ := h
  obtain ⟨hi12, h⟩ := h
  refine gd_iast (pc := 32) X dX6_recordRange_32 hk11 hi12 ?_
  refine gd_topS (fun S13 hS13 => ?_)
  have h := h S13 hS13
  have hk14 : kT S13 a0 = 7 := by rw [hS13]; exact hk8
  have hk15 : kT S13 (sR S a0 12) = 9 := by rw [hS13]; exact hk9
  have hk16 : kT S13 (sR S a0 11) = 9 := by rw [hS13]; exact hk10
  have hk17 : kT S13 (sR S7 a0 11) = 9 := by rw [hS13]; exact hk11
  refine gd_aload_n (pc := 33) X 1 dX6_recordRange_33 rfl ?_
  refine gd_getR (pc := 34) (kf := 11) X ci6 (by decide) rfl tw_994 dX6_recordRange_34 hk14 ?_
  refine gd_iload (pc := 37) X 0 dX6_recordRange_37 rfl ?_
  refine gd_iconst (pc := 39) X (2) dX6_recordRange_39 (by decide) ?_
  refine gd_iadd (pc := 40) X dX6_recordRange_40 ?_
  refine gd_iload (pc := 41) X 5 dX6_recordRange_41 rfl ?_
  obtain ⟨hk18, h⟩ := h
  obtain ⟨hi19, h⟩ := h
  refine gd_iast (pc := 43) X dX6_recordRange_43 hk18 hi19 ?_
  refine gd_topS (fun S20 hS20 => ?_)
  have h := h S20 hS20
  have hk21 : kT S20 a0 = 7 := by rw [hS20]; exact hk14
  have hk22 : kT S20 (sR S a0 12) = 9 := by rw [hS20]; exact hk15
  have hk23 : kT S20 (sR S a0 11) = 9 := by rw [hS20]; exact hk16
  have hk24 : kT S20 (sR S7 a0 11) = 9 := by rw [hS20]; exact hk17
  have hk25 : kT S20 (sR S13 a0 11) = 9 := by rw [hS20]; exact hk18
  refine gd_aload_n (pc := 44) X 1 dX6_recordRange_44 rfl ?_
  refine gd_getR (pc := 45) (kf := 11) X ci6 (by decide) rfl tw_994 dX6_recordRange_45 hk21 ?_
  refine gd_iload (pc := 48) X 0 dX6_recordRange_48 rfl ?_
  refine gd_iconst (pc := 50) X (3) dX6_recordRange_50 (by decide) ?_
  refine gd_iadd (pc := 51) X dX6_recordRange_51 ?_
  refine gd_aload_n (pc := 52) X 1 dX6_recordRange_52 rfl ?_
  refine gd_getI (pc := 53) (kf := 14) X ci6 (by decide) rfl tw_997 dX6_recordRange_53 hk21 ?_
  obtain ⟨hk26, h⟩ := h
  obtain ⟨hi27, h⟩ := h
  refine gd_iast (pc := 56) X dX6_recordRange_56 hk26 hi27 ?_
  refine gd_topS (fun S28 hS28 => ?_)
  have h := h S28 hS28
  have hk29 : kT S28 a0 = 7 := by rw [hS28]; exact hk21
  have hk30 : kT S28 (sR S a0 12) = 9 := by rw [hS28]; exact hk22
  have hk31 : kT S28 (sR S a0 11) = 9 := by rw [hS28]; exact hk23
  have hk32 : kT S28 (sR S7 a0 11) = 9 := by rw [hS28]; exact hk24
  have hk33 : kT S28 (sR S13 a0 11) = 9 := by rw [hS28]; exact hk25
  have hk34 : kT S28 (sR S20 a0 11) = 9 := by rw [hS28]; exact hk26
  refine gd_aload_n (pc := 57) X 1 dX6_recordRange_57 rfl ?_
  refine gd_getR (pc := 58) (kf := 12) X ci6 (by decide) rfl tw_995 dX6_recordRange_58 hk29 ?_
  refine gd_iload_n (pc := 61) X 2 dX6_recordRange_61 rfl ?_
  refine gd_dup2 (pc := 62) X dX6_recordRange_62 ?_
  obtain ⟨hk35, h⟩ := h
  obtain ⟨hi36, h⟩ := h
  refine gd_iald (pc := 63) X dX6_recordRange_63 hk35 hi36 ?_
  refine gd_iconst (pc := 64) X (1) dX6_recordRange_64 (by decide) ?_
  refine gd_iadd (pc := 65) X dX6_recordRange_65 ?_
  obtain ⟨hi37, h⟩ := h
  refine gd_iast (pc := 66) X dX6_recordRange_66 hk35 hi37 ?_
  refine gd_topS (fun S38 hS38 => ?_)
  have h := h S38 hS38
  have hk39 : kT S38 a0 = 7 := by rw [hS38]; exact hk29
  have hk40 : kT S38 (sR S a0 12) = 9 := by rw [hS38]; exact hk30
  have hk41 : kT S38 (sR S a0 11) = 9 := by rw [hS38]; exact hk31
  have hk42 : kT S38 (sR S7 a0 11) = 9 := by rw [hS38]; exact hk32
  have hk43 : kT S38 (sR S13 a0 11) = 9 := by rw [hS38]; exact hk33
  have hk44 : kT S38 (sR S20 a0 11) = 9 := by rw [hS38]; exact hk34
  have hk45 : kT S38 (sR S28 a0 12) = 9 := by rw [hS38]; exact hk35
  exact (gd_ret_v (pc := 67) X hr hlk (by decide) (by decide) dX6_recordRange_67 ⟨rfl, h⟩)
