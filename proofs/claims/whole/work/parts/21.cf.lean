abbrev rm_X5_serialFaults : Room := { frames := 3, cells := 0, slots := 0, locals := 100 }
def b_X5_serialFaults_63 (KH4 : MS → Nat → Int32 → Int32 → Prop) (post : Int32 → MS → Prop) (S : MS) (l0 : Nat) (l1 : Int32) (l2 : Int32) (l3 : Nat) : Prop := ∀ v1 : Int32, v1 = l2 + 1 → KH4 S l0 l1 v1
def b_X5_serialFaults_4 (post : Int32 → MS → Prop) : Nat → MS → Nat → Int32 → Int32 → Prop
  | 0 => fun _ _ _ _ => False
  | f + 1 => fun S l0 l1 l2 => kT S l0 = 6 ∧ kT S (sR S l0 0) = 2 ∧ (((sI S (sR S l0 0) 2) < l2 → post l1 S) ∧ (¬ (sI S (sR S l0 0) 2) < l2 → w_X1_authorOf S (sR S l0 0) l2 (fun r4 S3 => kT S3 l0 = 6 ∧ kT S3 (sR S3 l0 0) = 2 ∧ w_X1_storeAfter S3 (sR S3 l0 0) (l2 - 1) (fun r8 S7 => kT S7 l0 = 6 ∧ kT S7 r8 = 9 ∧ kT S7 (sR S7 l0 4) = 9 ∧ ix 0 + ix 32 ≤ kL S7 r8 ∧ ix 0 + ix 32 ≤ kL S7 (sR S7 l0 4) ∧ ∀ S14 : MS, S14 = cpI S7 r8 (sR S7 l0 4) 32 → ((r4 = 0 → b_X5_serialFaults_63 (b_X5_serialFaults_4 post f) post S14 l0 l1 l2 r4) ∧ (¬ r4 = 0 → kT S14 r4 = 5 ∧ w_X4_repeatsAlikeOn S14 r4 (sR S14 l0 4) (fun r20 S19 => ((¬ r20 = 0 → b_X5_serialFaults_63 (b_X5_serialFaults_4 post f) post S19 l0 l1 l2 r4) ∧ (r20 = 0 → ∀ v21 : Int32, v21 = l1 + 1 → b_X5_serialFaults_63 (b_X5_serialFaults_4 post f) post S19 l0 v21 l2 r4)))))))))
def w_X5_serialFaults (S : MS) (a0 : Nat) (post : Int32 → MS → Prop) : Prop := ∃ f4, b_X5_serialFaults_4 post f4 S a0 0 1
set_option maxHeartbeats 4000000 in
set_option maxRecDepth 100000 in
theorem ct_X5_serialFaults (l : Launch) (G : GP) (S : MS) (a0 : Nat) (post : Int32 → MS → Prop) (h : w_X5_serialFaults S a0 post) : MetM l yX5_serialFaults cX5_serialFaults 4 (some .int) rm_X5_serialFaults [rf a0] G S (pI_ post) := by
  refine met_of (by decide) (cat1_r cat1_n) (Nat.le_of_ble_eq_true rfl) ?_
  intro p e s m args below meth c X hr hlk hin
  revert h
  have g63 : ∀ (KH4 : MS → Nat → Int32 → Int32 → Prop) (hKH4 : ∀ (S : MS) (l0 : Nat) (l1 : Int32) (l2 : Int32), KH4 S l0 l1 l2 → Gd p l e rm_X5_serialFaults s m args below meth c 4 G (MQ below (QcM G (pI_ post)) args s rm_X5_serialFaults.cells rm_X5_serialFaults.slots (Ab G)) 0 0 S 4 [(0, rf l0), (1, .int l1), (2, .int l2)] []) (S : MS) (l0 : Nat) (l1 : Int32) (l2 : Int32) (l3 : Nat), b_X5_serialFaults_63 KH4 post S l0 l1 l2 l3 → Gd p l e rm_X5_serialFaults s m args below meth c 4 G (MQ below (QcM G (pI_ post)) args s rm_X5_serialFaults.cells rm_X5_serialFaults.slots (Ab G)) 0 0 S 63 [(0, rf l0), (1, .int l1), (2, .int l2), (3, rf l3)] [] := by
    intro KH4 hKH4 S l0 l1 l2 l3 h
    obtain ⟨v1, hv1⟩ : ∃ z : Int32, z = l2 + 1 := ⟨_, rfl⟩
    have h := h v1 hv1
    refine gd_iinc (pc := 63) (v := v1) X 2 dX5_serialFaults_63 rfl (by rw [hv1]; rfl) (by decide) (E2 := [(2, .int v1), (0, rf l0), (1, .int l1), (3, rf l3)]) rfl ?_
    refine gd_goto (pc := 66) X 4 dX5_serialFaults_66 (by decide) ?_
    refine gd_sub [1, 2, 0] rfl ?_
    exact hKH4 _ _ _ _ h
  have g4 : ∀ (f : Nat) (S : MS) (l0 : Nat) (l1 : Int32) (l2 : Int32), b_X5_serialFaults_4 post f S l0 l1 l2 → Gd p l e rm_X5_serialFaults s m args below meth c 4 G (MQ below (QcM G (pI_ post)) args s rm_X5_serialFaults.cells rm_X5_serialFaults.slots (Ab G)) 0 0 S 4 [(0, rf l0), (1, .int l1), (2, .int l2)] [] := by
    intro f
    induction f with
    | zero => intro S l0 l1 l2 h; exact h.elim
    | succ f ih =>
      intro S l0 l1 l2 h
      refine gd_iload_n (pc := 4) X 2 dX5_serialFaults_4 rfl ?_
      refine gd_aload_n (pc := 5) X 0 dX5_serialFaults_5 rfl ?_
      obtain ⟨hk1, h⟩ := h
      refine gd_getR (pc := 6) (kf := 0) X ci5 (by decide) rfl tw_88 dX5_serialFaults_6 hk1 ?_
      obtain ⟨hk2, h⟩ := h
      refine gd_getI (pc := 9) (kf := 2) X ci1 (by decide) rfl tw_45 dX5_serialFaults_9 hk2 ?_
      refine gd_icmp_gt (pc := 12) X 69 dX5_serialFaults_12 (by decide) (fun hc24 => ?_) (fun hc24 => ?_)
      · have h := h.1 hc24
        refine gd_iload_n (pc := 69) X 1 dX5_serialFaults_69 rfl ?_
        exact (gd_ret_i (pc := 70) X hr hlk rfl (by decide) (by decide) dX5_serialFaults_70 ⟨_, rfl, h⟩)
      · have h := h.2 hc24
        refine gd_aload_n (pc := 15) X 0 dX5_serialFaults_15 rfl ?_
        refine gd_getR (pc := 16) (kf := 0) X ci5 (by decide) rfl tw_88 dX5_serialFaults_16 hk1 ?_
        refine gd_iload_n (pc := 19) X 2 dX5_serialFaults_19 rfl ?_
        refine gd_callV (pc := 20) (As := [.int l2]) (rest := []) X (ct_X1_authorOf l G S (sR S l0 0) l2 _ h) mw_X1_authorOf tw_185 ci1 rfl hk2 ⟨(Nat.le_of_ble_eq_true rfl), (Nat.le_of_ble_eq_true rfl)⟩ rfl rfl (Nat.le_of_ble_eq_true rfl) dX5_serialFaults_20 ⟨Nat.le_of_ble_eq_true rfl, Nat.le_of_ble_eq_true rfl⟩ (kR (fun r4 S3 h => ?_))
        refine gd_wide (k2 := 0) (j2 := 0) (Nat.le_of_ble_eq_true rfl) (Nat.le_of_ble_eq_true rfl) ?_
        refine gd_astore_n (pc := 23) X dX5_serialFaults_23 (by decide) (E2 := [(3, rf r4), (0, rf l0), (1, .int l1), (2, .int l2)]) rfl ?_
        refine gd_aload_n (pc := 24) X 1 dX5_serialFaults_24 rfl ?_
        obtain ⟨hk5, h⟩ := h
        refine gd_getR (pc := 25) (kf := 0) X ci5 (by decide) rfl tw_88 dX5_serialFaults_25 hk5 ?_
        refine gd_iload_n (pc := 28) X 3 dX5_serialFaults_28 rfl ?_
        refine gd_iconst (pc := 29) X (1) dX5_serialFaults_29 (by decide) ?_
        refine gd_isub (pc := 30) X dX5_serialFaults_30 ?_
        obtain ⟨hk6, h⟩ := h
        refine gd_callV (pc := 31) (As := [.int (l2 - 1)]) (rest := []) X (ct_X1_storeAfter l G S3 (sR S3 l0 0) (l2 - 1) _ h) mw_X1_storeAfter tw_189 ci1 rfl hk6 ⟨(Nat.le_of_ble_eq_true rfl), (Nat.le_of_ble_eq_true rfl)⟩ rfl rfl (Nat.le_of_ble_eq_true rfl) dX5_serialFaults_31 ⟨Nat.le_of_ble_eq_true rfl, Nat.le_of_ble_eq_true rfl⟩ (kR (fun r8 S7 h => ?_))
        refine gd_wide (k2 := 0) (j2 := 0) (Nat.le_of_ble_eq_true rfl) (Nat.le_of_ble_eq_true rfl) ?_
        refine gd_iconst (pc := 34) X (0) dX5_serialFaults_34 (by decide) ?_
        refine gd_aload_n (pc := 35) X 1 dX5_serialFaults_35 rfl ?_
        obtain ⟨hk9, h⟩ := h
        refine gd_getR (pc := 36) (kf := 4) X ci5 (by decide) rfl tw_92 dX5_serialFaults_36 hk9 ?_
        refine gd_iconst (pc := 39) X (0) dX5_serialFaults_39 (by decide) ?_
        refine gd_bipush (pc := 40) X (32) dX5_serialFaults_40 (by decide) ?_
        obtain ⟨hk10, h⟩ := h
        obtain ⟨hk11, h⟩ := h
        obtain ⟨hi12, hi13, h⟩ := h
        refine gd_copy (pc := 42) X tw_193 tw_195 tw_194 tw_16 dX5_serialFaults_42 hk10 hk11 (by decide) (by decide) (by decide) hi12 hi13 ⟨(Nat.le_of_ble_eq_true rfl), (Nat.le_of_ble_eq_true rfl)⟩ (Nat.le_of_ble_eq_true rfl) ?_
        refine gd_topS (fun S14 hS14 => ?_)
        have h := h S14 hS14
        have hk15 : kT S14 l0 = 6 := by rw [hS14]; exact hk9
        have hk16 : kT S14 r8 = 9 := by rw [hS14]; exact hk10
        have hk17 : kT S14 (sR S7 l0 4) = 9 := by rw [hS14]; exact hk11
        refine gd_aload_n (pc := 45) X 0 dX5_serialFaults_45 rfl ?_
        refine gd_ifnull (pc := 46) X 63 dX5_serialFaults_46 (by decide) (fun hc23 => ?_) (fun hc23 => ?_)
        · have h := h.1 hc23
          refine gd_sub [1, 2, 3, 0] rfl ?_
          exact g63 _ ih _ _ _ _ _ h
        · have h := h.2 hc23
          refine gd_aload_n (pc := 49) X 0 dX5_serialFaults_49 rfl ?_
          refine gd_aload_n (pc := 50) X 1 dX5_serialFaults_50 rfl ?_
          refine gd_getR (pc := 51) (kf := 4) X ci5 (by decide) rfl tw_92 dX5_serialFaults_51 hk15 ?_
          obtain ⟨hk18, h⟩ := h
          refine gd_callV (pc := 54) (As := [rf (sR S14 l0 4)]) (rest := []) X (ct_X4_repeatsAlikeOn l G S14 r4 (sR S14 l0 4) _ h) mw_X4_repeatsAlikeOn tw_196 ci4 rfl hk18 ⟨(Nat.le_of_ble_eq_true rfl), (Nat.le_of_ble_eq_true rfl)⟩ rfl rfl (Nat.le_of_ble_eq_true rfl) dX5_serialFaults_54 ⟨Nat.le_of_ble_eq_true rfl, Nat.le_of_ble_eq_true rfl⟩ (kI (fun r20 S19 h => ?_))
          refine gd_wide (k2 := 0) (j2 := 0) (Nat.le_of_ble_eq_true rfl) (Nat.le_of_ble_eq_true rfl) ?_
          refine gd_if_ne (pc := 57) X 63 dX5_serialFaults_57 (by decide) (fun hc22 => ?_) (fun hc22 => ?_)
          · have h := h.1 hc22
            refine gd_sub [1, 2, 3, 0] rfl ?_
            exact g63 _ ih _ _ _ _ _ h
          · have h := h.2 hc22
            obtain ⟨v21, hv21⟩ : ∃ z : Int32, z = l1 + 1 := ⟨_, rfl⟩
            have h := h v21 hv21
            refine gd_iinc (pc := 60) (v := v21) X 2 dX5_serialFaults_60 rfl (by rw [hv21]; rfl) (by decide) (E2 := [(1, .int v21), (3, rf r4), (0, rf l0), (2, .int l2)]) (by simp [rf_cat, lv1, int_cat] <;> decide) ?_
            refine gd_sub [2, 0, 3, 1] rfl ?_
            exact g63 _ ih _ _ _ _ _ h
  intro h
  refine gd_iconst (pc := 0) X (0) dX5_serialFaults_0 (by decide) ?_
  refine gd_istore_n (pc := 1) X dX5_serialFaults_1 (by decide) (E2 := [(1, .int 0), (0, rf a0)]) (by simp [rf_cat, lv1, int_cat] <;> decide) ?_
  refine gd_iconst (pc := 2) X (1) dX5_serialFaults_2 (by decide) ?_
  refine gd_istore_n (pc := 3) X dX5_serialFaults_3 (by decide) (E2 := [(2, .int 1), (1, .int 0), (0, rf a0)]) rfl ?_
  refine gd_sub [2, 1, 0] rfl ?_
  obtain ⟨f4, h⟩ := h
  exact g4 f4 _ _ _ _ h
abbrev rm_X5_rewind : Room := { frames := 7, cells := 2, slots := 12, locals := 122 }
def w_X5_rewind (S : MS) (a0 : Nat) (a1 : Int32) (post : Int32 → MS → Prop) (xp : String → MS → Prop) : Prop := kT S a0 = 6 ∧ w_X5_requireCommit S a0 a1 0 (fun S2 => kT S2 a0 = 6 ∧ w_X5_countInState S2 a0 0 (fun r6 S5 => ((r6 ≤ 0 → kT S5 a0 = 6 ∧ kT S5 (sR S5 a0 0) = 2 ∧ w_X1_takeBackAfter S5 (sR S5 a0 0) a1 (fun r10 S9 => post r10 S9)) ∧ (¬ r6 ≤ 0 → xp "java/lang/IllegalStateException" S5)))) xp
set_option maxHeartbeats 4000000 in
set_option maxRecDepth 100000 in
theorem ct_X5_rewind (l : Launch) (hfl : l.stackTraces = false) (G : GP) (S : MS) (a0 : Nat) (a1 : Int32) (post : Int32 → MS → Prop) (xp : String → MS → Prop) (h : w_X5_rewind S a0 a1 post xp) : MetX l yX5_rewind cX5_rewind 2 (some .int) rm_X5_rewind [rf a0, .int a1] G S (pI_ post) xp := by
  refine metX_of (by decide) (cat1_r (cat1_i cat1_n)) (Nat.le_of_ble_eq_true rfl) ?_
  intro p e s m args below meth c X hr hlk ht
  refine gd_aload_n (pc := 0) X 0 dX5_rewind_0 rfl ?_
  refine gd_iload_n (pc := 1) X 1 dX5_rewind_1 rfl ?_
  refine gd_iconst (pc := 2) X (0) dX5_rewind_2 (by decide) ?_
  obtain ⟨hk1, h⟩ := h
  refine gd_callVX (pc := 3) (As := [.int a1, .int 0]) (rest := []) X (ct_X5_requireCommit l hfl G S a0 a1 0 _ _ h) mw_X5_requireCommit tw_801 ci5 rfl hk1 ⟨(Nat.le_of_ble_eq_true rfl), (Nat.le_of_ble_eq_true rfl)⟩ rfl rfl (Nat.le_of_ble_eq_true rfl) dX5_rewind_3 ⟨Nat.le_of_ble_eq_true rfl, Nat.le_of_ble_eq_true rfl⟩ (kV (fun S2 h => ?_)) (fun Ex S9 hE hx H1 locs1 la q ce h1 h2 h3 h4 h5 h6 => gd_xout hlk ht (Nat.le_of_ble_eq_true rfl) (Nat.le_of_ble_eq_true rfl) hE hx h1 h2 h4 h5 h6)
  refine gd_wide (k2 := 1) (j2 := 6) (Nat.le_of_ble_eq_true rfl) (Nat.le_of_ble_eq_true rfl) ?_
  refine gd_aload_n (pc := 6) X 0 dX5_rewind_6 rfl ?_
  refine gd_iconst (pc := 7) X (0) dX5_rewind_7 (by decide) ?_
  obtain ⟨hk4, h⟩ := h
  refine gd_callV (pc := 8) (As := [.int 0]) (rest := []) X (ct_X5_countInState l G S2 a0 0 _ h) mw_X5_countInState tw_137 ci5 rfl hk4 ⟨(Nat.le_of_ble_eq_true rfl), (Nat.le_of_ble_eq_true rfl)⟩ rfl rfl (Nat.le_of_ble_eq_true rfl) dX5_rewind_8 ⟨Nat.le_of_ble_eq_true rfl, Nat.le_of_ble_eq_true rfl⟩ (kI (fun r6 S5 h => ?_))
  refine gd_wide (k2 := 1) (j2 := 6) (Nat.le_of_ble_eq_true rfl) (Nat.le_of_ble_eq_true rfl) ?_
  refine gd_if_le (pc := 11) X 24 dX5_rewind_11 (by decide) (fun hc11 => ?_) (fun hc11 => ?_)
  · have h := h.1 hc11
    refine gd_aload_n (pc := 24) X 0 dX5_rewind_24 rfl ?_
    obtain ⟨hk7, h⟩ := h
    refine gd_getR (pc := 25) (kf := 0) X ci5 (by decide) rfl tw_88 dX5_rewind_25 hk7 ?_
    refine gd_iload_n (pc := 28) X 1 dX5_rewind_28 rfl ?_
    obtain ⟨hk8, h⟩ := h
    refine gd_callV (pc := 29) (As := [.int a1]) (rest := []) X (ct_X1_takeBackAfter l G S5 (sR S5 a0 0) a1 _ h) mw_X1_takeBackAfter tw_836 ci1 rfl hk8 ⟨(Nat.le_of_ble_eq_true rfl), (Nat.le_of_ble_eq_true rfl)⟩ rfl rfl (Nat.le_of_ble_eq_true rfl) dX5_rewind_29 ⟨Nat.le_of_ble_eq_true rfl, Nat.le_of_ble_eq_true rfl⟩ (kI (fun r10 S9 h => ?_))
    refine gd_wide (k2 := 1) (j2 := 6) (Nat.le_of_ble_eq_true rfl) (Nat.le_of_ble_eq_true rfl) ?_
    exact gd_x (gd_ret_i (pc := 32) X hr hlk rfl (by decide) (by decide) dX5_rewind_32 ⟨_, rfl, h⟩)
  · have h := h.2 hc11
    exact gd_throw (pc := 14) hfl X hlk ht th_0 dX5_rewind_14 dX5_rewind_17 dX5_rewind_18 dX5_rewind_20 dX5_rewind_23 (by decide) (by decide) (by decide) (by decide) h
abbrev rm_X5_addConstraint : Room := { frames := 6, cells := 2, slots := 10, locals := 100 }
def b_X5_addConstraint_64 (post : Int32 → MS → Prop) (xp : String → MS → Prop) (S : MS) (l0 : Nat) (l1 : Int32) (l2 : Int32) (l3 : Int32) (l4 : Int32) (l5 : Nat) : Prop := xp "java/lang/IllegalStateException" S
def b_X5_addConstraint_17 (post : Int32 → MS → Prop) (xp : String → MS → Prop) (S : MS) (l0 : Nat) (l1 : Int32) (l2 : Int32) (l3 : Int32) (l4 : Int32) : Prop := xp "java/lang/IllegalArgumentException" S
def w_X5_addConstraint (S : MS) (a0 : Nat) (a1 : Int32) (a2 : Int32) (a3 : Int32) (a4 : Int32) (post : Int32 → MS → Prop) (xp : String → MS → Prop) : Prop := w_X5_isBetween S a1 0 2 (fun r2 S1 => ((r2 = 0 → b_X5_addConstraint_17 post xp S1 a0 a1 a2 a3 a4) ∧ (¬ r2 = 0 → w_X5_isRange S1 a2 a3 (fun r4 S3 => ((¬ r4 = 0 → ∀ q5 : Nat, kT S3 q5 = 0 → ¬ q5 = 0 → ∀ S6 : MS, S6 = nw S3 q5 1 0 → w_X0_init S6 q5 a1 a2 a3 a4 (fun S8 => kT S8 a0 = 6 ∧ ((3 ≤ (sI S8 a0 7) → b_X5_addConstraint_64 post xp S8 a0 a1 a2 a3 a4 q5) ∧ (¬ 3 ≤ (sI S8 a0 7) → kT S8 (sR S8 a0 0) = 2 ∧ w_X1_newest S8 (sR S8 a0 0) (fun r13 S12 => kT S12 q5 = 1 ∧ w_X0_isViolatedBy S12 q5 r13 (fun r16 S15 => ((r16 = 0 → kT S15 a0 = 6 ∧ kT S15 (sR S15 a0 2) = 11 ∧ kT S15 q5 = 1 ∧ vp_in (sI S15 a0 7) (kL S15 (sR S15 a0 2)) ∧ ∀ S21 : MS, S21 = pR S15 (sR S15 a0 2) (ix (sI S15 a0 7)) q5 → ∀ S25 : MS, S25 = pI S21 a0 7 ((sI S21 a0 7) + 1) → post ((sI S25 a0 7) - 1) S25) ∧ (¬ r16 = 0 → b_X5_addConstraint_64 post xp S15 a0 a1 a2 a3 a4 q5)))))))) ∧ (r4 = 0 → b_X5_addConstraint_17 post xp S3 a0 a1 a2 a3 a4))))))
set_option maxHeartbeats 4000000 in
set_option maxRecDepth 100000 in
theorem ct_X5_addConstraint (l : Launch) (hfl : l.stackTraces = false) (G : GP) (S : MS) (a0 : Nat) (a1 : Int32) (a2 : Int32) (a3 : Int32) (a4 : Int32) (post : Int32 → MS → Prop) (xp : String → MS → Prop) (h : w_X5_addConstraint S a0 a1 a2 a3 a4 post xp) : MetX l yX5_addConstraint cX5_addConstraint 6 (some .int) rm_X5_addConstraint [rf a0, .int a1, .int a2, .int a3, .int a4] G S (pI_ post) xp := by
  refine metX_of (by decide) (cat1_r (cat1_i (cat1_i (cat1_i (cat1_i cat1_n))))) (Nat.le_of_ble_eq_true rfl) ?_
  intro p e s m args below meth c X hr hlk ht
  revert h
  have g64 : ∀ (S : MS) (l0 : Nat) (l1 : Int32) (l2 : Int32) (l3 : Int32) (l4 : Int32) (l5 : Nat), b_X5_addConstraint_64 post xp S l0 l1 l2 l3 l4 l5 → Gd p l e rm_X5_addConstraint s m args below meth c 6 G (vx_MQ below (QcM G (pI_ post)) (XcM G xp) args s rm_X5_addConstraint.cells rm_X5_addConstraint.slots (Ab G)) 1 4 S 64 [(0, rf l0), (1, .int l1), (2, .int l2), (3, .int l3), (4, .int l4), (5, rf l5)] [] := by
    intro S l0 l1 l2 l3 l4 l5 h
    exact gd_throw (pc := 64) hfl X hlk ht th_22 dX5_addConstraint_64 dX5_addConstraint_67 dX5_addConstraint_68 dX5_addConstraint_70 dX5_addConstraint_73 (by decide) (by decide) (by decide) (by decide) h
  have g17 : ∀ (S : MS) (l0 : Nat) (l1 : Int32) (l2 : Int32) (l3 : Int32) (l4 : Int32), b_X5_addConstraint_17 post xp S l0 l1 l2 l3 l4 → Gd p l e rm_X5_addConstraint s m args below meth c 6 G (vx_MQ below (QcM G (pI_ post)) (XcM G xp) args s rm_X5_addConstraint.cells rm_X5_addConstraint.slots (Ab G)) 0 0 S 17 [(0, rf l0), (1, .int l1), (2, .int l2), (3, .int l3), (4, .int l4)] [] := by
    intro S l0 l1 l2 l3 l4 h
    exact gd_throw (pc := 17) hfl X hlk ht th_21 dX5_addConstraint_17 dX5_addConstraint_20 dX5_addConstraint_21 dX5_addConstraint_23 dX5_addConstraint_26 (by decide) (by decide) (by decide) (by decide) h
  intro h
  refine gd_iload_n (pc := 0) X 1 dX5_addConstraint_0 rfl ?_
  refine gd_iconst (pc := 1) X (0) dX5_addConstraint_1 (by decide) ?_
  refine gd_iconst (pc := 2) X (2) dX5_addConstraint_2 (by decide) ?_
  refine gd_callS (pc := 3) (As := [.int a1, .int 0, .int 2]) (rest := []) X (ct_X5_isBetween l G S a1 0 2 _ h) mw_X5_isBetween tw_231 ⟨(Nat.le_of_ble_eq_true rfl), (Nat.le_of_ble_eq_true rfl)⟩ rfl rfl (Nat.le_of_ble_eq_true rfl) dX5_addConstraint_3 ⟨Nat.le_of_ble_eq_true rfl, Nat.le_of_ble_eq_true rfl⟩ (kI (fun r2 S1 h => ?_))
  refine gd_wide (k2 := 0) (j2 := 0) (Nat.le_of_ble_eq_true rfl) (Nat.le_of_ble_eq_true rfl) ?_
  refine gd_if_eq (pc := 6) X 17 dX5_addConstraint_6 (by decide) (fun hc32 => ?_) (fun hc32 => ?_)
  · have h := h.1 hc32
    exact g17 _ _ _ _ _ _ h
  · have h := h.2 hc32
    refine gd_iload_n (pc := 9) X 2 dX5_addConstraint_9 rfl ?_
    refine gd_iload_n (pc := 10) X 3 dX5_addConstraint_10 rfl ?_
    refine gd_callS (pc := 11) (As := [.int a2, .int a3]) (rest := []) X (ct_X5_isRange l G S1 a2 a3 _ h) mw_X5_isRange tw_792 ⟨(Nat.le_of_ble_eq_true rfl), (Nat.le_of_ble_eq_true rfl)⟩ rfl rfl (Nat.le_of_ble_eq_true rfl) dX5_addConstraint_11 ⟨Nat.le_of_ble_eq_true rfl, Nat.le_of_ble_eq_true rfl⟩ (kI (fun r4 S3 h => ?_))
    refine gd_wide (k2 := 0) (j2 := 0) (Nat.le_of_ble_eq_true rfl) (Nat.le_of_ble_eq_true rfl) ?_
    refine gd_if_ne (pc := 14) X 27 dX5_addConstraint_14 (by decide) (fun hc31 => ?_) (fun hc31 => ?_)
    · have h := h.1 hc31
      refine gd_new (pc := 27) X ci0 tw_55 tw_849 tw_20 (by decide +kernel) dX5_addConstraint_27 ⟨Nat.le_of_ble_eq_true rfl, Nat.le_of_ble_eq_true rfl⟩ (fun q5 hzq5 hnq5 => ?_)
      have h := h q5 hzq5 hnq5
      refine gd_wide (k2 := 1) (j2 := 4) (Nat.le_of_ble_eq_true rfl) (Nat.le_of_ble_eq_true rfl) ?_
      refine gd_topS (fun S6 hS6 => ?_)
      have h := h S6 hS6
      have hk7 : kT S6 q5 = 1 := by rw [hS6]; exact kT_nw _ _ _ _
      refine gd_dupR (pc := 30) X dX5_addConstraint_30 ?_
      refine gd_iload_n (pc := 31) X 1 dX5_addConstraint_31 rfl ?_
      refine gd_iload_n (pc := 32) X 2 dX5_addConstraint_32 rfl ?_
      refine gd_iload_n (pc := 33) X 3 dX5_addConstraint_33 rfl ?_
      refine gd_iload (pc := 34) X 4 dX5_addConstraint_34 rfl ?_
      refine gd_callI (pc := 36) (As := [.int a1, .int a2, .int a3, .int a4]) (rest := [rf q5]) X (ct_X0_init l G S6 q5 a1 a2 a3 a4 _ h) mw_X0_init tw_850 (by rw [hk7]; decide) ⟨(Nat.le_of_ble_eq_true rfl), (Nat.le_of_ble_eq_true rfl)⟩ rfl rfl (Nat.le_of_ble_eq_true rfl) dX5_addConstraint_36 ⟨Nat.le_of_ble_eq_true rfl, Nat.le_of_ble_eq_true rfl⟩ (kV (fun S8 h => ?_))
      refine gd_wide (k2 := 1) (j2 := 4) (Nat.le_of_ble_eq_true rfl) (Nat.le_of_ble_eq_true rfl) ?_
      refine gd_astore (pc := 39) X dX5_addConstraint_39 (by decide) (E2 := [(5, rf q5), (0, rf a0), (1, .int a1), (2, .int a2), (3, .int a3), (4, .int a4)]) rfl ?_
      refine gd_aload_n (pc := 41) X 1 dX5_addConstraint_41 rfl ?_
      obtain ⟨hk10, h⟩ := h
      refine gd_getI (pc := 42) (kf := 7) X ci5 (by decide) rfl tw_95 dX5_addConstraint_42 hk10 ?_
      refine gd_iconst (pc := 45) X (3) dX5_addConstraint_45 (by decide) ?_
      refine gd_icmp_ge (pc := 46) X 64 dX5_addConstraint_46 (by decide) (fun hc30 => ?_) (fun hc30 => ?_)
      · have h := h.1 hc30
        refine gd_sub [1, 2, 3, 4, 5, 0] rfl ?_
        exact g64 _ _ _ _ _ _ _ h
      · have h := h.2 hc30
        refine gd_aload (pc := 49) X 0 dX5_addConstraint_49 rfl ?_
        refine gd_aload_n (pc := 51) X 1 dX5_addConstraint_51 rfl ?_
        refine gd_getR (pc := 52) (kf := 0) X ci5 (by decide) rfl tw_88 dX5_addConstraint_52 hk10 ?_
        obtain ⟨hk11, h⟩ := h
        refine gd_callV (pc := 55) (As := []) (rest := [rf q5]) X (ct_X1_newest l G S8 (sR S8 a0 0) _ h) mw_X1_newest tw_499 ci1 rfl hk11 ⟨(Nat.le_of_ble_eq_true rfl), (Nat.le_of_ble_eq_true rfl)⟩ rfl rfl (Nat.le_of_ble_eq_true rfl) dX5_addConstraint_55 ⟨Nat.le_of_ble_eq_true rfl, Nat.le_of_ble_eq_true rfl⟩ (kR (fun r13 S12 h => ?_))
        refine gd_wide (k2 := 1) (j2 := 4) (Nat.le_of_ble_eq_true rfl) (Nat.le_of_ble_eq_true rfl) ?_
        obtain ⟨hk14, h⟩ := h
        refine gd_callV (pc := 58) (As := [rf r13]) (rest := []) X (ct_X0_isViolatedBy l G S12 q5 r13 _ h) mw_X0_isViolatedBy tw_636 ci0 rfl hk14 ⟨(Nat.le_of_ble_eq_true rfl), (Nat.le_of_ble_eq_true rfl)⟩ rfl rfl (Nat.le_of_ble_eq_true rfl) dX5_addConstraint_58 ⟨Nat.le_of_ble_eq_true rfl, Nat.le_of_ble_eq_true rfl⟩ (kI (fun r16 S15 h => ?_))
        refine gd_wide (k2 := 1) (j2 := 4) (Nat.le_of_ble_eq_true rfl) (Nat.le_of_ble_eq_true rfl) ?_
        refine gd_if_eq (pc := 61) X 74 dX5_addConstraint_61 (by decide) (fun hc29 => ?_) (fun hc29 => ?_)
        · have h := h.1 hc29
          refine gd_aload_n (pc := 74) X 1 dX5_addConstraint_74 rfl ?_
          obtain ⟨hk17, h⟩ := h
          refine gd_getR (pc := 75) (kf := 2) X ci5 (by decide) rfl tw_90 dX5_addConstraint_75 hk17 ?_
          refine gd_aload_n (pc := 78) X 1 dX5_addConstraint_78 rfl ?_
          refine gd_getI (pc := 79) (kf := 7) X ci5 (by decide) rfl tw_95 dX5_addConstraint_79 hk17 ?_
          refine gd_aload (pc := 82) X 0 dX5_addConstraint_82 rfl ?_
          obtain ⟨hk18, h⟩ := h
          obtain ⟨hk19, h⟩ := h
          obtain ⟨hi20, h⟩ := h
          refine gd_aast (pc := 84) (t := 3) X ci0 rfl (by decide) (by decide) dX5_addConstraint_84 hk18 hk19 hi20 ?_
          refine gd_topS (fun S21 hS21 => ?_)
          have h := h S21 hS21
          have hk22 : kT S21 a0 = 6 := by rw [hS21]; exact hk17
          have hk23 : kT S21 (sR S15 a0 2) = 11 := by rw [hS21]; exact hk18
          have hk24 : kT S21 q5 = 1 := by rw [hS21]; exact hk19
          refine gd_aload_n (pc := 85) X 1 dX5_addConstraint_85 rfl ?_
          refine gd_dupR (pc := 86) X dX5_addConstraint_86 ?_
          refine gd_getI (pc := 87) (kf := 7) X ci5 (by decide) rfl tw_95 dX5_addConstraint_87 hk22 ?_
          refine gd_iconst (pc := 90) X (1) dX5_addConstraint_90 (by decide) ?_
          refine gd_iadd (pc := 91) X dX5_addConstraint_91 ?_
          refine gd_putI (pc := 92) (kf := 7) X ci5 (by decide) rfl rfl tw_95 rfl rfl dX5_addConstraint_92 hk22 ?_
          refine gd_topS (fun S25 hS25 => ?_)
          have h := h S25 hS25
          have hk26 : kT S25 a0 = 6 := by rw [hS25]; exact hk22
          have hk27 : kT S25 (sR S15 a0 2) = 11 := by rw [hS25]; exact hk23
          have hk28 : kT S25 q5 = 1 := by rw [hS25]; exact hk24
          refine gd_aload_n (pc := 95) X 1 dX5_addConstraint_95 rfl ?_
          refine gd_getI (pc := 96) (kf := 7) X ci5 (by decide) rfl tw_95 dX5_addConstraint_96 hk26 ?_
          refine gd_iconst (pc := 99) X (1) dX5_addConstraint_99 (by decide) ?_
          refine gd_isub (pc := 100) X dX5_addConstraint_100 ?_
          exact gd_x (gd_ret_i (pc := 101) X hr hlk rfl (by decide) (by decide) dX5_addConstraint_101 ⟨_, rfl, h⟩)
        · have h := h.2 hc29
          refine gd_sub [1, 2, 3, 4, 5, 0] rfl ?_
          exact g64 _ _ _ _ _ _ _ h
    · have h := h.2 hc31
      exact g17 _ _ _ _ _ _ h
abbrev rm_X5_clearConstraints : Room := { frames := 0, cells := 0, slots := 0, locals := 0 }
def w_X5_clearConstraints (S : MS) (a0 : Nat) (post : Int32 → MS → Prop) : Prop := kT S a0 = 6 ∧ ∀ v2 : Int32, v2 = sI S a0 7 → ∀ S3 : MS, S3 = pI S a0 7 0 → post v2 S3
set_option maxHeartbeats 4000000 in
set_option maxRecDepth 100000 in
theorem ct_X5_clearConstraints (l : Launch) (G : GP) (S : MS) (a0 : Nat) (post : Int32 → MS → Prop) (h : w_X5_clearConstraints S a0 post) : MetM l yX5_clearConstraints cX5_clearConstraints 2 (some .int) rm_X5_clearConstraints [rf a0] G S (pI_ post) := by
  refine met_of (by decide) (cat1_r cat1_n) (Nat.le_of_ble_eq_true rfl) ?_
  intro p e s m args below meth c X hr hlk hin
  refine gd_aload_n (pc := 0) X 0 dX5_clearConstraints_0 rfl ?_
  obtain ⟨hk1, h⟩ := h
  refine gd_getI (pc := 1) (kf := 7) X ci5 (by decide) rfl tw_95 dX5_clearConstraints_1 hk1 ?_
  refine gd_topI (fun v2 hv2 => ?_)
  have h := h v2 hv2
  refine gd_istore_n (pc := 4) X dX5_clearConstraints_4 (by decide) (E2 := [(1, .int v2), (0, rf a0)]) (by simp [rf_cat, lv1, int_cat] <;> decide) ?_
  refine gd_aload_n (pc := 5) X 1 dX5_clearConstraints_5 rfl ?_
  refine gd_iconst (pc := 6) X (0) dX5_clearConstraints_6 (by decide) ?_
  refine gd_putI (pc := 7) (kf := 7) X ci5 (by decide) rfl rfl tw_95 rfl rfl dX5_clearConstraints_7 hk1 ?_
  refine gd_topS (fun S3 hS3 => ?_)
  have h := h S3 hS3
  have hk4 : kT S3 a0 = 6 := by rw [hS3]; exact hk1
  refine gd_iload_n (pc := 10) X 0 dX5_clearConstraints_10 rfl ?_
  exact (gd_ret_i (pc := 11) X hr hlk rfl (by decide) (by decide) dX5_clearConstraints_11 ⟨_, rfl, h⟩)
abbrev rm_X5_aborts : Room := { frames := 6, cells := 1, slots := 6, locals := 100 }
def b_X5_aborts_66 (KH24 : MS → Nat → Int32 → Int32 → Int32 → Prop) (post : Int32 → MS → Prop) (xp : String → MS → Prop) (S : MS) (l0 : Nat) (l1 : Int32) (l2 : Int32) (l3 : Int32) (l4 : Nat) : Prop := ∀ v1 : Int32, v1 = l3 + 1 → KH24 S l0 l1 l2 v1
def b_X5_aborts_24 (post : Int32 → MS → Prop) (xp : String → MS → Prop) : Nat → MS → Nat → Int32 → Int32 → Int32 → Prop
  | 0 => fun _ _ _ _ _ => False
  | f + 1 => fun S l0 l1 l2 l3 => kT S l0 = 6 ∧ (((sI S l0 6) ≤ l3 → post l2 S) ∧ (¬ (sI S l0 6) ≤ l3 → kT S (sR S l0 1) = 13 ∧ vp_in l3 (kL S (sR S l0 1)) ∧ ∀ r4 : Nat, r4 = sR S (sR S l0 1) (ix l3) → ((r4 = 0 → b_X5_aborts_66 (b_X5_aborts_24 post xp f) post xp S l0 l1 l2 l3 r4) ∧ (¬ r4 = 0 → kT S r4 = 5 ∧ ((¬ (sI S r4 8) = 2 → b_X5_aborts_66 (b_X5_aborts_24 post xp f) post xp S l0 l1 l2 l3 r4) ∧ ((sI S r4 8) = 2 → ((¬ (sI S r4 9) = l1 → b_X5_aborts_66 (b_X5_aborts_24 post xp f) post xp S l0 l1 l2 l3 r4) ∧ ((sI S r4 9) = l1 → ∀ v6 : Int32, v6 = l2 + 1 → b_X5_aborts_66 (b_X5_aborts_24 post xp f) post xp S l0 l1 v6 l3 r4))))))))
def w_X5_aborts (S : MS) (a0 : Nat) (a1 : Int32) (post : Int32 → MS → Prop) (xp : String → MS → Prop) : Prop := w_X5_isBetween S a1 1 6 (fun r2 S1 => ((¬ r2 = 0 → ∃ f24, b_X5_aborts_24 post xp f24 S1 a0 a1 0 0) ∧ (r2 = 0 → xp "java/lang/IllegalArgumentException" S1)))
set_option maxHeartbeats 4000000 in
set_option maxRecDepth 100000 in
theorem ct_X5_aborts (l : Launch) (hfl : l.stackTraces = false) (G : GP) (S : MS) (a0 : Nat) (a1 : Int32) (post : Int32 → MS → Prop) (xp : String → MS → Prop) (h : w_X5_aborts S a0 a1 post xp) : MetX l yX5_aborts cX5_aborts 5 (some .int) rm_X5_aborts [rf a0, .int a1] G S (pI_ post) xp := by
  refine metX_of (by decide) (cat1_r (cat1_i cat1_n)) (Nat.le_of_ble_eq_true rfl) ?_
  intro p e s m args below meth c X hr hlk ht
  revert h
  have g66 : ∀ (KH24 : MS → Nat → Int32 → Int32 → Int32 → Prop) (hKH24 : ∀ (S : MS) (l0 : Nat) (l1 : Int32) (l2 : Int32) (l3 : Int32), KH24 S l0 l1 l2 l3 → Gd p l e rm_X5_aborts s m args below meth c 5 G (vx_MQ below (QcM G (pI_ post)) (XcM G xp) args s rm_X5_aborts.cells rm_X5_aborts.slots (Ab G)) 0 0 S 24 [(0, rf l0), (1, .int l1), (2, .int l2), (3, .int l3)] []) (S : MS) (l0 : Nat) (l1 : Int32) (l2 : Int32) (l3 : Int32) (l4 : Nat), b_X5_aborts_66 KH24 post xp S l0 l1 l2 l3 l4 → Gd p l e rm_X5_aborts s m args below meth c 5 G (vx_MQ below (QcM G (pI_ post)) (XcM G xp) args s rm_X5_aborts.cells rm_X5_aborts.slots (Ab G)) 0 0 S 66 [(0, rf l0), (1, .int l1), (2, .int l2), (3, .int l3), (4, rf l4)] [] := by
    intro KH24 hKH24 S l0 l1 l2 l3 l4 h
    obtain ⟨v1, hv1⟩ : ∃ z : Int32, z = l3 + 1 := ⟨_, rfl⟩
    have h := h v1 hv1
    refine gd_iinc (pc := 66) (v := v1) X 3 dX5_aborts_66 rfl (by rw [hv1]; rfl) (by decide) (E2 := [(3, .int v1), (0, rf l0), (1, .int l1), (2, .int l2), (4, rf l4)]) rfl ?_
    refine gd_goto (pc := 69) X 24 dX5_aborts_69 (by decide) ?_
    refine gd_sub [1, 2, 3, 0] rfl ?_
    exact hKH24 _ _ _ _ _ h
  have g24 : ∀ (f : Nat) (S : MS) (l0 : Nat) (l1 : Int32) (l2 : Int32) (l3 : Int32), b_X5_aborts_24 post xp f S l0 l1 l2 l3 → Gd p l e rm_X5_aborts s m args below meth c 5 G (vx_MQ below (QcM G (pI_ post)) (XcM G xp) args s rm_X5_aborts.cells rm_X5_aborts.slots (Ab G)) 0 0 S 24 [(0, rf l0), (1, .int l1), (2, .int l2), (3, .int l3)] [] := by
    intro f
    induction f with
    | zero => intro S l0 l1 l2 l3 h; exact h.elim
    | succ f ih =>
      intro S l0 l1 l2 l3 h
      refine gd_iload_n (pc := 24) X 3 dX5_aborts_24 rfl ?_
      refine gd_aload_n (pc := 25) X 0 dX5_aborts_25 rfl ?_
      obtain ⟨hk1, h⟩ := h
      refine gd_getI (pc := 26) (kf := 6) X ci5 (by decide) rfl tw_94 dX5_aborts_26 hk1 ?_
      refine gd_icmp_ge (pc := 29) X 72 dX5_aborts_29 (by decide) (fun hc10 => ?_) (fun hc10 => ?_)
      · have h := h.1 hc10
        refine gd_iload_n (pc := 72) X 2 dX5_aborts_72 rfl ?_
        exact gd_x (gd_ret_i (pc := 73) X hr hlk rfl (by decide) (by decide) dX5_aborts_73 ⟨_, rfl, h⟩)
      · have h := h.2 hc10
        refine gd_aload_n (pc := 32) X 0 dX5_aborts_32 rfl ?_
        refine gd_getR (pc := 33) (kf := 1) X ci5 (by decide) rfl tw_89 dX5_aborts_33 hk1 ?_
        refine gd_iload_n (pc := 36) X 3 dX5_aborts_36 rfl ?_
        obtain ⟨hk2, h⟩ := h
        obtain ⟨hi3, h⟩ := h
        refine gd_aald (pc := 37) (t := 5) X rfl rfl (by decide) (by decide) dX5_aborts_37 hk2 hi3 ?_
        refine gd_topR (fun r4 hr4 => ?_)
        have h := h r4 hr4
        refine gd_astore (pc := 38) X dX5_aborts_38 (by decide) (E2 := [(4, rf r4), (0, rf l0), (1, .int l1), (2, .int l2), (3, .int l3)]) rfl ?_
        refine gd_aload (pc := 40) X 0 dX5_aborts_40 rfl ?_
        refine gd_ifnull (pc := 42) X 66 dX5_aborts_42 (by decide) (fun hc9 => ?_) (fun hc9 => ?_)
        · have h := h.1 hc9
          refine gd_sub [1, 2, 3, 4, 0] rfl ?_
          exact g66 _ ih _ _ _ _ _ _ h
        · have h := h.2 hc9
          refine gd_aload (pc := 45) X 0 dX5_aborts_45 rfl ?_
          obtain ⟨hk5, h⟩ := h
          refine gd_getI (pc := 47) (kf := 8) X ci4 (by decide) rfl tw_363 dX5_aborts_47 hk5 ?_
          refine gd_iconst (pc := 50) X (2) dX5_aborts_50 (by decide) ?_
          refine gd_icmp_ne (pc := 51) X 66 dX5_aborts_51 (by decide) (fun hc8 => ?_) (fun hc8 => ?_)
          · have h := h.1 hc8
            refine gd_sub [1, 2, 3, 4, 0] rfl ?_
            exact g66 _ ih _ _ _ _ _ _ h
          · have h := h.2 hc8
            refine gd_aload (pc := 54) X 0 dX5_aborts_54 rfl ?_
            refine gd_getI (pc := 56) (kf := 9) X ci4 (by decide) rfl tw_366 dX5_aborts_56 hk5 ?_
            refine gd_iload_n (pc := 59) X 2 dX5_aborts_59 rfl ?_
            refine gd_icmp_ne (pc := 60) X 66 dX5_aborts_60 (by decide) (fun hc7 => ?_) (fun hc7 => ?_)
            · have h := h.1 hc7
              refine gd_sub [1, 2, 3, 4, 0] rfl ?_
              exact g66 _ ih _ _ _ _ _ _ h
            · have h := h.2 hc7
              obtain ⟨v6, hv6⟩ : ∃ z : Int32, z = l2 + 1 := ⟨_, rfl⟩
              have h := h v6 hv6
              refine gd_iinc (pc := 63) (v := v6) X 3 dX5_aborts_63 rfl (by rw [hv6]; rfl) (by decide) (E2 := [(2, .int v6), (4, rf r4), (0, rf l0), (1, .int l1), (3, .int l3)]) rfl ?_
              refine gd_sub [2, 3, 0, 4, 1] rfl ?_
              exact g66 _ ih _ _ _ _ _ _ h
  intro h
  refine gd_iload_n (pc := 0) X 1 dX5_aborts_0 rfl ?_
  refine gd_iconst (pc := 1) X (1) dX5_aborts_1 (by decide) ?_
  refine gd_bipush (pc := 2) X (6) dX5_aborts_2 (by decide) ?_
  refine gd_callS (pc := 4) (As := [.int a1, .int 1, .int 6]) (rest := []) X (ct_X5_isBetween l G S a1 1 6 _ h) mw_X5_isBetween tw_231 ⟨(Nat.le_of_ble_eq_true rfl), (Nat.le_of_ble_eq_true rfl)⟩ rfl rfl (Nat.le_of_ble_eq_true rfl) dX5_aborts_4 ⟨Nat.le_of_ble_eq_true rfl, Nat.le_of_ble_eq_true rfl⟩ (kI (fun r2 S1 h => ?_))
  refine gd_wide (k2 := 0) (j2 := 0) (Nat.le_of_ble_eq_true rfl) (Nat.le_of_ble_eq_true rfl) ?_
  refine gd_if_ne (pc := 7) X 20 dX5_aborts_7 (by decide) (fun hc3 => ?_) (fun hc3 => ?_)
  · have h := h.1 hc3
    refine gd_iconst (pc := 20) X (0) dX5_aborts_20 (by decide) ?_
    refine gd_istore_n (pc := 21) X dX5_aborts_21 (by decide) (E2 := [(2, .int 0), (0, rf a0), (1, .int a1)]) rfl ?_
    refine gd_iconst (pc := 22) X (0) dX5_aborts_22 (by decide) ?_
    refine gd_istore_n (pc := 23) X dX5_aborts_23 (by decide) (E2 := [(3, .int 0), (2, .int 0), (0, rf a0), (1, .int a1)]) rfl ?_
    refine gd_sub [2, 3, 1, 0] rfl ?_
    obtain ⟨f24, h⟩ := h
    exact g24 f24 _ _ _ _ _ h
  · have h := h.2 hc3
    exact gd_throw (pc := 10) hfl X hlk ht th_23 dX5_aborts_10 dX5_aborts_13 dX5_aborts_14 dX5_aborts_16 dX5_aborts_19 (by decide) (by decide) (by decide) (by decide) h
abbrev rm_X5_averageAttempts : Room := { frames := 6, cells := 1, slots := 6, locals := 100 }
def b_X5_averageAttempts_62 (KH24 : MS → Nat → Int32 → Int32 → Int32 → Prop) (post : UInt64 → MS → Prop) (xp : String → MS → Prop) (S : MS) (l0 : Nat) (l1 : Int32) (l2 : Int32) (l3 : Int32) (l4 : Nat) : Prop := ∀ v1 : Int32, v1 = l3 + 1 → KH24 S l0 l1 l2 v1
def b_X5_averageAttempts_24 (post : UInt64 → MS → Prop) (xp : String → MS → Prop) : Nat → MS → Nat → Int32 → Int32 → Int32 → Prop
  | 0 => fun _ _ _ _ _ => False
  | f + 1 => fun S l0 l1 l2 l3 => kT S l0 = 6 ∧ (((sI S l0 6) ≤ l3 → vf_n64 (FP.ddiv (FP.i2d l2) (FP.i2d l1)) ∧ post (FP.ddiv (FP.i2d l2) (FP.i2d l1)) S) ∧ (¬ (sI S l0 6) ≤ l3 → kT S (sR S l0 1) = 13 ∧ vp_in l3 (kL S (sR S l0 1)) ∧ ∀ r5 : Nat, r5 = sR S (sR S l0 1) (ix l3) → ((r5 = 0 → b_X5_averageAttempts_62 (b_X5_averageAttempts_24 post xp f) post xp S l0 l1 l2 l3 r5) ∧ (¬ r5 = 0 → kT S r5 = 5 ∧ ((¬ (sI S r5 8) = 1 → b_X5_averageAttempts_62 (b_X5_averageAttempts_24 post xp f) post xp S l0 l1 l2 l3 r5) ∧ ((sI S r5 8) = 1 → ∀ v7 : Int32, v7 = l2 + (sI S r5 1) → b_X5_averageAttempts_62 (b_X5_averageAttempts_24 post xp f) post xp S l0 l1 v7 l3 r5))))))
def w_X5_averageAttempts (S : MS) (a0 : Nat) (post : UInt64 → MS → Prop) (xp : String → MS → Prop) : Prop := kT S a0 = 6 ∧ w_X5_countInState S a0 1 (fun r3 S2 => ((¬ r3 = 0 → ∃ f24, b_X5_averageAttempts_24 post xp f24 S2 a0 r3 0 0) ∧ (r3 = 0 → xp "java/lang/ArithmeticException" S2)))
set_option maxHeartbeats 4000000 in
set_option maxRecDepth 100000 in
theorem ct_X5_averageAttempts (l : Launch) (hfl : l.stackTraces = false) (G : GP) (S : MS) (a0 : Nat) (post : UInt64 → MS → Prop) (xp : String → MS → Prop) (h : w_X5_averageAttempts S a0 post xp) : MetX l yX5_averageAttempts cX5_averageAttempts 5 (some .double) rm_X5_averageAttempts [rf a0] G S (pD_ post) xp := by
  refine metX_of (by decide) (cat1_r cat1_n) (Nat.le_of_ble_eq_true rfl) ?_
  intro p e s m args below meth c X hr hlk ht
  revert h
  have g62 : ∀ (KH24 : MS → Nat → Int32 → Int32 → Int32 → Prop) (hKH24 : ∀ (S : MS) (l0 : Nat) (l1 : Int32) (l2 : Int32) (l3 : Int32), KH24 S l0 l1 l2 l3 → Gd p l e rm_X5_averageAttempts s m args below meth c 5 G (vx_MQ below (QcM G (pD_ post)) (XcM G xp) args s rm_X5_averageAttempts.cells rm_X5_averageAttempts.slots (Ab G)) 0 0 S 24 [(0, rf l0), (1, .int l1), (2, .int l2), (3, .int l3)] []) (S : MS) (l0 : Nat) (l1 : Int32) (l2 : Int32) (l3 : Int32) (l4 : Nat), b_X5_averageAttempts_62 KH24 post xp S l0 l1 l2 l3 l4 → Gd p l e rm_X5_averageAttempts s m args below meth c 5 G (vx_MQ below (QcM G (pD_ post)) (XcM G xp) args s rm_X5_averageAttempts.cells rm_X5_averageAttempts.slots (Ab G)) 0 0 S 62 [(0, rf l0), (1, .int l1), (2, .int l2), (3, .int l3), (4, rf l4)] [] := by
    intro KH24 hKH24 S l0 l1 l2 l3 l4 h
    obtain ⟨v1, hv1⟩ : ∃ z : Int32, z = l3 + 1 := ⟨_, rfl⟩
    have h := h v1 hv1
    refine gd_iinc (pc := 62) (v := v1) X 3 dX5_averageAttempts_62 rfl (by rw [hv1]; rfl) (by decide) (E2 := [(3, .int v1), (0, rf l0), (1, .int l1), (2, .int l2), (4, rf l4)]) rfl ?_
    refine gd_goto (pc := 65) X 24 dX5_averageAttempts_65 (by decide) ?_
    refine gd_sub [1, 2, 3, 0] rfl ?_
    exact hKH24 _ _ _ _ _ h
  have g24 : ∀ (f : Nat) (S : MS) (l0 : Nat) (l1 : Int32) (l2 : Int32) (l3 : Int32), b_X5_averageAttempts_24 post xp f S l0 l1 l2 l3 → Gd p l e rm_X5_averageAttempts s m args below meth c 5 G (vx_MQ below (QcM G (pD_ post)) (XcM G xp) args s rm_X5_averageAttempts.cells rm_X5_averageAttempts.slots (Ab G)) 0 0 S 24 [(0, rf l0), (1, .int l1), (2, .int l2), (3, .int l3)] [] := by
    intro f
    induction f with
    | zero => intro S l0 l1 l2 l3 h; exact h.elim
    | succ f ih =>
      intro S l0 l1 l2 l3 h
      refine gd_iload_n (pc := 24) X 3 dX5_averageAttempts_24 rfl ?_
      refine gd_aload_n (pc := 25) X 0 dX5_averageAttempts_25 rfl ?_
      obtain ⟨hk1, h⟩ := h
      refine gd_getI (pc := 26) (kf := 6) X ci5 (by decide) rfl tw_94 dX5_averageAttempts_26 hk1 ?_
      refine gd_icmp_ge (pc := 29) X 68 dX5_averageAttempts_29 (by decide) (fun hc10 => ?_) (fun hc10 => ?_)
      · have h := h.1 hc10
        refine gd_iload_n (pc := 68) X 2 dX5_averageAttempts_68 rfl ?_
        refine gd_i2d (pc := 69) X dX5_averageAttempts_69 ?_
        refine gd_iload_n (pc := 70) X 1 dX5_averageAttempts_70 rfl ?_
        refine gd_i2d (pc := 71) X dX5_averageAttempts_71 ?_
        obtain ⟨hn2, h⟩ := h
        refine gd_ddiv (pc := 72) X dX5_averageAttempts_72 hn2 ?_
        exact gd_x (gd_ret_d (pc := 73) X hr hlk (by decide) (by decide) dX5_averageAttempts_73 ⟨_, rfl, h⟩)
      · have h := h.2 hc10
        refine gd_aload_n (pc := 32) X 0 dX5_averageAttempts_32 rfl ?_
        refine gd_getR (pc := 33) (kf := 1) X ci5 (by decide) rfl tw_89 dX5_averageAttempts_33 hk1 ?_
        refine gd_iload_n (pc := 36) X 3 dX5_averageAttempts_36 rfl ?_
        obtain ⟨hk3, h⟩ := h
        obtain ⟨hi4, h⟩ := h
        refine gd_aald (pc := 37) (t := 5) X rfl rfl (by decide) (by decide) dX5_averageAttempts_37 hk3 hi4 ?_
        refine gd_topR (fun r5 hr5 => ?_)
        have h := h r5 hr5
        refine gd_astore (pc := 38) X dX5_averageAttempts_38 (by decide) (E2 := [(4, rf r5), (0, rf l0), (1, .int l1), (2, .int l2), (3, .int l3)]) rfl ?_
        refine gd_aload (pc := 40) X 0 dX5_averageAttempts_40 rfl ?_
        refine gd_ifnull (pc := 42) X 62 dX5_averageAttempts_42 (by decide) (fun hc9 => ?_) (fun hc9 => ?_)
        · have h := h.1 hc9
          refine gd_sub [1, 2, 3, 4, 0] rfl ?_
          exact g62 _ ih _ _ _ _ _ _ h
        · have h := h.2 hc9
          refine gd_aload (pc := 45) X 0 dX5_averageAttempts_45 rfl ?_
          obtain ⟨hk6, h⟩ := h
          refine gd_getI (pc := 47) (kf := 8) X ci4 (by decide) rfl tw_363 dX5_averageAttempts_47 hk6 ?_
          refine gd_iconst (pc := 50) X (1) dX5_averageAttempts_50 (by decide) ?_
          refine gd_icmp_ne (pc := 51) X 62 dX5_averageAttempts_51 (by decide) (fun hc8 => ?_) (fun hc8 => ?_)
          · have h := h.1 hc8
            refine gd_sub [1, 2, 3, 4, 0] rfl ?_
            exact g62 _ ih _ _ _ _ _ _ h
          · have h := h.2 hc8
            refine gd_iload_n (pc := 54) X 3 dX5_averageAttempts_54 rfl ?_
            refine gd_aload (pc := 55) X 0 dX5_averageAttempts_55 rfl ?_
            refine gd_getI (pc := 57) (kf := 1) X ci4 (by decide) rfl tw_346 dX5_averageAttempts_57 hk6 ?_
            refine gd_iadd (pc := 60) X dX5_averageAttempts_60 ?_
            refine gd_topI (fun v7 hv7 => ?_)
            have h := h v7 hv7
            refine gd_istore_n (pc := 61) X dX5_averageAttempts_61 (by decide) (E2 := [(2, .int v7), (4, rf r5), (0, rf l0), (1, .int l1), (3, .int l3)]) rfl ?_
            refine gd_sub [2, 3, 0, 4, 1] rfl ?_
            exact g62 _ ih _ _ _ _ _ _ h
  intro h
  refine gd_aload_n (pc := 0) X 0 dX5_averageAttempts_0 rfl ?_
  refine gd_iconst (pc := 1) X (1) dX5_averageAttempts_1 (by decide) ?_
  obtain ⟨hk1, h⟩ := h
  refine gd_callV (pc := 2) (As := [.int 1]) (rest := []) X (ct_X5_countInState l G S a0 1 _ h) mw_X5_countInState tw_137 ci5 rfl hk1 ⟨(Nat.le_of_ble_eq_true rfl), (Nat.le_of_ble_eq_true rfl)⟩ rfl rfl (Nat.le_of_ble_eq_true rfl) dX5_averageAttempts_2 ⟨Nat.le_of_ble_eq_true rfl, Nat.le_of_ble_eq_true rfl⟩ (kI (fun r3 S2 h => ?_))
  refine gd_wide (k2 := 0) (j2 := 0) (Nat.le_of_ble_eq_true rfl) (Nat.le_of_ble_eq_true rfl) ?_
  refine gd_istore_n (pc := 5) X dX5_averageAttempts_5 (by decide) (E2 := [(1, .int r3), (0, rf a0)]) (by simp [rf_cat, lv1, int_cat] <;> decide) ?_
  refine gd_iload_n (pc := 6) X 0 dX5_averageAttempts_6 rfl ?_
  refine gd_if_ne (pc := 7) X 20 dX5_averageAttempts_7 (by decide) (fun hc4 => ?_) (fun hc4 => ?_)
  · have h := h.1 hc4
    refine gd_iconst (pc := 20) X (0) dX5_averageAttempts_20 (by decide) ?_
    refine gd_istore_n (pc := 21) X dX5_averageAttempts_21 (by decide) (E2 := [(2, .int 0), (1, .int r3), (0, rf a0)]) rfl ?_
    refine gd_iconst (pc := 22) X (0) dX5_averageAttempts_22 (by decide) ?_
    refine gd_istore_n (pc := 23) X dX5_averageAttempts_23 (by decide) (E2 := [(3, .int 0), (2, .int 0), (1, .int r3), (0, rf a0)]) rfl ?_
    refine gd_sub [3, 2, 1, 0] rfl ?_
    obtain ⟨f24, h⟩ := h
    exact g24 f24 _ _ _ _ _ h
  · have h := h.2 hc4
    exact gd_throw (pc := 10) hfl X hlk ht th_24 dX5_averageAttempts_10 dX5_averageAttempts_13 dX5_averageAttempts_14 dX5_averageAttempts_16 dX5_averageAttempts_19 (by decide) (by decide) (by decide) (by decide) h
abbrev rm_X5_abortRate : Room := { frames := 6, cells := 1, slots := 6, locals := 100 }
def w_X5_abortRate (S : MS) (a0 : Nat) (post : UInt32 → MS → Prop) (xp : String → MS → Prop) : Prop := kT S a0 = 6 ∧ w_X5_countInState S a0 0 (fun r3 S2 => ∀ v4 : Int32, v4 = (sI S a0 6) - r3 → ((¬ v4 = 0 → kT S2 a0 = 6 ∧ w_X5_countInState S2 a0 2 (fun r7 S6 => vf_n32 (FP.fdiv (FP.i2f r7) (FP.i2f v4)) ∧ post (FP.fdiv (FP.i2f r7) (FP.i2f v4)) S6)) ∧ (v4 = 0 → xp "java/lang/ArithmeticException" S2)))
set_option maxHeartbeats 4000000 in
set_option maxRecDepth 100000 in
theorem ct_X5_abortRate (l : Launch) (hfl : l.stackTraces = false) (G : GP) (S : MS) (a0 : Nat) (post : UInt32 → MS → Prop) (xp : String → MS → Prop) (h : w_X5_abortRate S a0 post xp) : MetX l yX5_abortRate cX5_abortRate 2 (some .float) rm_X5_abortRate [rf a0] G S (pF_ post) xp := by
  refine metX_of (by decide) (cat1_r cat1_n) (Nat.le_of_ble_eq_true rfl) ?_
  intro p e s m args below meth c X hr hlk ht
  refine gd_aload_n (pc := 0) X 0 dX5_abortRate_0 rfl ?_
  obtain ⟨hk1, h⟩ := h
  refine gd_getI (pc := 1) (kf := 6) X ci5 (by decide) rfl tw_94 dX5_abortRate_1 hk1 ?_
  refine gd_aload_n (pc := 4) X 0 dX5_abortRate_4 rfl ?_
  refine gd_iconst (pc := 5) X (0) dX5_abortRate_5 (by decide) ?_
  refine gd_callV (pc := 6) (As := [.int 0]) (rest := [.int (sI S a0 6)]) X (ct_X5_countInState l G S a0 0 _ h) mw_X5_countInState tw_137 ci5 rfl hk1 ⟨(Nat.le_of_ble_eq_true rfl), (Nat.le_of_ble_eq_true rfl)⟩ rfl rfl (Nat.le_of_ble_eq_true rfl) dX5_abortRate_6 ⟨Nat.le_of_ble_eq_true rfl, Nat.le_of_ble_eq_true rfl⟩ (kI (fun r3 S2 h => ?_))
  refine gd_wide (k2 := 0) (j2 := 0) (Nat.le_of_ble_eq_true rfl) (Nat.le_of_ble_eq_true rfl) ?_
  refine gd_isub (pc := 9) X dX5_abortRate_9 ?_
  refine gd_topI (fun v4 hv4 => ?_)
  have h := h v4 hv4
  refine gd_istore_n (pc := 10) X dX5_abortRate_10 (by decide) (E2 := [(1, .int v4), (0, rf a0)]) (by simp [rf_cat, lv1, int_cat] <;> decide) ?_
  refine gd_iload_n (pc := 11) X 0 dX5_abortRate_11 rfl ?_
  refine gd_if_ne (pc := 12) X 25 dX5_abortRate_12 (by decide) (fun hc9 => ?_) (fun hc9 => ?_)
  · have h := h.1 hc9
    refine gd_aload_n (pc := 25) X 1 dX5_abortRate_25 rfl ?_
    refine gd_iconst (pc := 26) X (2) dX5_abortRate_26 (by decide) ?_
    obtain ⟨hk5, h⟩ := h
    refine gd_callV (pc := 27) (As := [.int 2]) (rest := []) X (ct_X5_countInState l G S2 a0 2 _ h) mw_X5_countInState tw_137 ci5 rfl hk5 ⟨(Nat.le_of_ble_eq_true rfl), (Nat.le_of_ble_eq_true rfl)⟩ rfl rfl (Nat.le_of_ble_eq_true rfl) dX5_abortRate_27 ⟨Nat.le_of_ble_eq_true rfl, Nat.le_of_ble_eq_true rfl⟩ (kI (fun r7 S6 h => ?_))
    refine gd_wide (k2 := 0) (j2 := 0) (Nat.le_of_ble_eq_true rfl) (Nat.le_of_ble_eq_true rfl) ?_
    refine gd_i2f (pc := 30) X dX5_abortRate_30 ?_
    refine gd_iload_n (pc := 31) X 0 dX5_abortRate_31 rfl ?_
    refine gd_i2f (pc := 32) X dX5_abortRate_32 ?_
    obtain ⟨hn8, h⟩ := h
    refine gd_fdiv (pc := 33) X dX5_abortRate_33 hn8 ?_
    exact gd_x (gd_ret_f (pc := 34) X hr hlk (by decide) (by decide) dX5_abortRate_34 ⟨_, rfl, h⟩)
  · have h := h.2 hc9
    exact gd_throw (pc := 15) hfl X hlk ht th_25 dX5_abortRate_15 dX5_abortRate_18 dX5_abortRate_19 dX5_abortRate_21 dX5_abortRate_24 (by decide) (by decide) (by decide) (by decide) h
abbrev rm_X5_appendCharacter : Room := { frames := 6, cells := 1, slots := 6, locals := 100 }
def w_X5_appendCharacter (S : MS) (a0 : Nat) (a1 : Int32) (post : Int32 → MS → Prop) (xp : String → MS → Prop) : Prop := w_X5_isBetween S a1 33 126 (fun r2 S1 => ((¬ r2 = 0 → kT S1 a0 = 6 ∧ kT S1 (sR S1 a0 3) = 4 ∧ (((sI S1 (sR S1 a0 3) 3) < 60 → w_X3_extend S1 (sR S1 a0 3) ((a1.toUInt32 % 65536).toInt32) (fun r6 S5 => post r6 S5)) ∧ (¬ (sI S1 (sR S1 a0 3) 3) < 60 → xp "java/lang/IllegalStateException" S1))) ∧ (r2 = 0 → xp "java/lang/IllegalArgumentException" S1)))
set_option maxHeartbeats 4000000 in
set_option maxRecDepth 100000 in
theorem ct_X5_appendCharacter (l : Launch) (hfl : l.stackTraces = false) (G : GP) (S : MS) (a0 : Nat) (a1 : Int32) (post : Int32 → MS → Prop) (xp : String → MS → Prop) (h : w_X5_appendCharacter S a0 a1 post xp) : MetX l yX5_appendCharacter cX5_appendCharacter 2 (some .int) rm_X5_appendCharacter [rf a0, .int a1] G S (pI_ post) xp := by
  refine metX_of (by decide) (cat1_r (cat1_i cat1_n)) (Nat.le_of_ble_eq_true rfl) ?_
  intro p e s m args below meth c X hr hlk ht
  refine gd_iload_n (pc := 0) X 1 dX5_appendCharacter_0 rfl ?_
  refine gd_bipush (pc := 1) X (33) dX5_appendCharacter_1 (by decide) ?_
  refine gd_bipush (pc := 3) X (126) dX5_appendCharacter_3 (by decide) ?_
  refine gd_callS (pc := 5) (As := [.int a1, .int 33, .int 126]) (rest := []) X (ct_X5_isBetween l G S a1 33 126 _ h) mw_X5_isBetween tw_231 ⟨(Nat.le_of_ble_eq_true rfl), (Nat.le_of_ble_eq_true rfl)⟩ rfl rfl (Nat.le_of_ble_eq_true rfl) dX5_appendCharacter_5 ⟨Nat.le_of_ble_eq_true rfl, Nat.le_of_ble_eq_true rfl⟩ (kI (fun r2 S1 h => ?_))
  refine gd_wide (k2 := 0) (j2 := 0) (Nat.le_of_ble_eq_true rfl) (Nat.le_of_ble_eq_true rfl) ?_
  refine gd_if_ne (pc := 8) X 21 dX5_appendCharacter_8 (by decide) (fun hc8 => ?_) (fun hc8 => ?_)
  · have h := h.1 hc8
    refine gd_aload_n (pc := 21) X 0 dX5_appendCharacter_21 rfl ?_
    obtain ⟨hk3, h⟩ := h
    refine gd_getR (pc := 22) (kf := 3) X ci5 (by decide) rfl tw_91 dX5_appendCharacter_22 hk3 ?_
    obtain ⟨hk4, h⟩ := h
    refine gd_getI (pc := 25) (kf := 3) X ci3 (by decide) rfl tw_69 dX5_appendCharacter_25 hk4 ?_
    refine gd_bipush (pc := 28) X (60) dX5_appendCharacter_28 (by decide) ?_
    refine gd_icmp_lt (pc := 30) X 43 dX5_appendCharacter_30 (by decide) (fun hc7 => ?_) (fun hc7 => ?_)
    · have h := h.1 hc7
      refine gd_aload_n (pc := 43) X 0 dX5_appendCharacter_43 rfl ?_
      refine gd_getR (pc := 44) (kf := 3) X ci5 (by decide) rfl tw_91 dX5_appendCharacter_44 hk3 ?_
      refine gd_iload_n (pc := 47) X 1 dX5_appendCharacter_47 rfl ?_
      refine gd_i2c (pc := 48) X dX5_appendCharacter_48 ?_
      refine gd_callV (pc := 49) (As := [.int ((a1.toUInt32 % 65536).toInt32)]) (rest := []) X (ct_X3_extend l G S1 (sR S1 a0 3) ((a1.toUInt32 % 65536).toInt32) _ h) mw_X3_extend tw_901 ci3 rfl hk4 ⟨(Nat.le_of_ble_eq_true rfl), (Nat.le_of_ble_eq_true rfl)⟩ rfl rfl (Nat.le_of_ble_eq_true rfl) dX5_appendCharacter_49 ⟨Nat.le_of_ble_eq_true rfl, Nat.le_of_ble_eq_true rfl⟩ (kI (fun r6 S5 h => ?_))
      refine gd_wide (k2 := 0) (j2 := 0) (Nat.le_of_ble_eq_true rfl) (Nat.le_of_ble_eq_true rfl) ?_
      exact gd_x (gd_ret_i (pc := 52) X hr hlk rfl (by decide) (by decide) dX5_appendCharacter_52 ⟨_, rfl, h⟩)
    · have h := h.2 hc7
      exact gd_throw (pc := 33) hfl X hlk ht th_26 dX5_appendCharacter_33 dX5_appendCharacter_36 dX5_appendCharacter_37 dX5_appendCharacter_39 dX5_appendCharacter_42 (by decide) (by decide) (by decide) (by decide) h
  · have h := h.2 hc8
    exact gd_throw (pc := 11) hfl X hlk ht th_27 dX5_appendCharacter_11 dX5_appendCharacter_14 dX5_appendCharacter_15 dX5_appendCharacter_17 dX5_appendCharacter_20 (by decide) (by decide) (by decide) (by decide) h
abbrev rm_X5_isAllowed : Room := { frames := 3, cells := 0, slots := 0, locals := 121 }
def b_X5_isAllowed_31 (post : Int32 → MS → Prop) (S : MS) (l0 : Nat) (l1 : Nat) (l2 : Nat) (s0 : Int32) : Prop := narrow .boolean (.int s0) = .int s0 ∧ post s0 S
def b_X5_isAllowed_30 (post : Int32 → MS → Prop) (S : MS) (l0 : Nat) (l1 : Nat) (l2 : Nat) : Prop := b_X5_isAllowed_31 post S l0 l1 l2 0
def w_X5_isAllowed (S : MS) (a0 : Nat) (a1 : Nat) (a2 : Nat) (post : Int32 → MS → Prop) : Prop := kT S a2 = 3 ∧ w_X2_isWellFormed S a2 (fun r3 S2 => ((r3 = 0 → b_X5_isAllowed_30 post S2 a0 a1 a2) ∧ (¬ r3 = 0 → kT S2 a1 = 5 ∧ w_X4_canOperate S2 a1 (fun r6 S5 => ((r6 = 0 → b_X5_isAllowed_30 post S5 a0 a1 a2) ∧ (¬ r6 = 0 → kT S5 a0 = 6 ∧ w_X5_viewOf S5 a0 a1 (fun r9 S8 => kT S8 a2 = 3 ∧ w_X2_staysInRange S8 a2 r9 (fun r12 S11 => ((r12 = 0 → b_X5_isAllowed_30 post S11 a0 a1 a2) ∧ (¬ r12 = 0 → b_X5_isAllowed_31 post S11 a0 a1 a2 1))))))))))
set_option maxHeartbeats 4000000 in
set_option maxRecDepth 100000 in
theorem ct_X5_isAllowed (l : Launch) (G : GP) (S : MS) (a0 : Nat) (a1 : Nat) (a2 : Nat) (post : Int32 → MS → Prop) (h : w_X5_isAllowed S a0 a1 a2 post) : MetM l yX5_isAllowed cX5_isAllowed 3 (some .boolean) rm_X5_isAllowed [rf a0, rf a1, rf a2] G S (pI_ post) := by
  refine met_of (by decide) (cat1_r (cat1_r (cat1_r cat1_n))) (Nat.le_of_ble_eq_true rfl) ?_
  intro p e s m args below meth c X hr hlk hin
  revert h
  have g31 : ∀ (S : MS) (l0 : Nat) (l1 : Nat) (l2 : Nat) (s0 : Int32), b_X5_isAllowed_31 post S l0 l1 l2 s0 → Gd p l e rm_X5_isAllowed s m args below meth c 3 G (MQ below (QcM G (pI_ post)) args s rm_X5_isAllowed.cells rm_X5_isAllowed.slots (Ab G)) 0 0 S 31 [(0, rf l0), (1, rf l1), (2, rf l2)] [.int s0] := by
    intro S l0 l1 l2 s0 h
    obtain ⟨hnz, h⟩ := h
    exact (gd_ret_i (pc := 31) X hr hlk hnz (by decide) (by decide) dX5_isAllowed_31 ⟨_, rfl, h⟩)
  have g30 : ∀ (S : MS) (l0 : Nat) (l1 : Nat) (l2 : Nat), b_X5_isAllowed_30 post S l0 l1 l2 → Gd p l e rm_X5_isAllowed s m args below meth c 3 G (MQ below (QcM G (pI_ post)) args s rm_X5_isAllowed.cells rm_X5_isAllowed.slots (Ab G)) 0 0 S 30 [(0, rf l0), (1, rf l1), (2, rf l2)] [] := by
    intro S l0 l1 l2 h
    refine gd_iconst (pc := 30) X (0) dX5_isAllowed_30 (by decide) ?_
    exact g31 _ _ _ _ _ h
  intro h
  refine gd_aload_n (pc := 0) X 2 dX5_isAllowed_0 rfl ?_
  obtain ⟨hk1, h⟩ := h
  refine gd_callV (pc := 1) (As := []) (rest := []) X (ct_X2_isWellFormed l G S a2 _ h) mw_X2_isWellFormed tw_481 ci2 rfl hk1 ⟨(Nat.le_of_ble_eq_true rfl), (Nat.le_of_ble_eq_true rfl)⟩ rfl rfl (Nat.le_of_ble_eq_true rfl) dX5_isAllowed_1 ⟨Nat.le_of_ble_eq_true rfl, Nat.le_of_ble_eq_true rfl⟩ (kI (fun r3 S2 h => ?_))
  refine gd_wide (k2 := 0) (j2 := 0) (Nat.le_of_ble_eq_true rfl) (Nat.le_of_ble_eq_true rfl) ?_
  refine gd_if_eq (pc := 4) X 30 dX5_isAllowed_4 (by decide) (fun hc15 => ?_) (fun hc15 => ?_)
  · have h := h.1 hc15
    exact g30 _ _ _ _ h
  · have h := h.2 hc15
    refine gd_aload_n (pc := 7) X 1 dX5_isAllowed_7 rfl ?_
    obtain ⟨hk4, h⟩ := h
    refine gd_callV (pc := 8) (As := []) (rest := []) X (ct_X4_canOperate l G S2 a1 _ h) mw_X4_canOperate tw_490 ci4 rfl hk4 ⟨(Nat.le_of_ble_eq_true rfl), (Nat.le_of_ble_eq_true rfl)⟩ rfl rfl (Nat.le_of_ble_eq_true rfl) dX5_isAllowed_8 ⟨Nat.le_of_ble_eq_true rfl, Nat.le_of_ble_eq_true rfl⟩ (kI (fun r6 S5 h => ?_))
    refine gd_wide (k2 := 0) (j2 := 0) (Nat.le_of_ble_eq_true rfl) (Nat.le_of_ble_eq_true rfl) ?_
    refine gd_if_eq (pc := 11) X 30 dX5_isAllowed_11 (by decide) (fun hc14 => ?_) (fun hc14 => ?_)
    · have h := h.1 hc14
      exact g30 _ _ _ _ h
    · have h := h.2 hc14
      refine gd_aload_n (pc := 14) X 2 dX5_isAllowed_14 rfl ?_
      refine gd_aload_n (pc := 15) X 0 dX5_isAllowed_15 rfl ?_
      refine gd_aload_n (pc := 16) X 1 dX5_isAllowed_16 rfl ?_
      obtain ⟨hk7, h⟩ := h
      refine gd_callV (pc := 17) (As := [rf a1]) (rest := [rf a2]) X (ct_X5_viewOf l G S5 a0 a1 _ h) mw_X5_viewOf tw_495 ci5 rfl hk7 ⟨(Nat.le_of_ble_eq_true rfl), (Nat.le_of_ble_eq_true rfl)⟩ rfl rfl (Nat.le_of_ble_eq_true rfl) dX5_isAllowed_17 ⟨Nat.le_of_ble_eq_true rfl, Nat.le_of_ble_eq_true rfl⟩ (kR (fun r9 S8 h => ?_))
      refine gd_wide (k2 := 0) (j2 := 0) (Nat.le_of_ble_eq_true rfl) (Nat.le_of_ble_eq_true rfl) ?_
      obtain ⟨hk10, h⟩ := h
      refine gd_callV (pc := 20) (As := [rf r9]) (rest := []) X (ct_X2_staysInRange l G S8 a2 r9 _ h) mw_X2_staysInRange tw_508 ci2 rfl hk10 ⟨(Nat.le_of_ble_eq_true rfl), (Nat.le_of_ble_eq_true rfl)⟩ rfl rfl (Nat.le_of_ble_eq_true rfl) dX5_isAllowed_20 ⟨Nat.le_of_ble_eq_true rfl, Nat.le_of_ble_eq_true rfl⟩ (kI (fun r12 S11 h => ?_))
      refine gd_wide (k2 := 0) (j2 := 0) (Nat.le_of_ble_eq_true rfl) (Nat.le_of_ble_eq_true rfl) ?_
      refine gd_if_eq (pc := 23) X 30 dX5_isAllowed_23 (by decide) (fun hc13 => ?_) (fun hc13 => ?_)
      · have h := h.1 hc13
        exact g30 _ _ _ _ h
      · have h := h.2 hc13
        refine gd_iconst (pc := 26) X (1) dX5_isAllowed_26 (by decide) ?_
        refine gd_goto (pc := 27) X 31 dX5_isAllowed_27 (by decide) ?_
        exact g31 _ _ _ _ _ h
abbrev rm_X5_performSteps : Room := { frames := 4, cells := 0, slots := 0, locals := 144 }
def b_X5_performSteps_35 (post : Int32 → MS → Prop) (S : MS) (l0 : Nat) (l1 : Nat) (l2 : Int32) (l3 : Nat) : Prop := kT S l0 = 6 ∧ w_X5_endInAbort S l0 l1 5 (fun S2 => post 0 S2)
def b_X5_performSteps_2 (post : Int32 → MS → Prop) : Nat → MS → Nat → Nat → Int32 → Prop
  | 0 => fun _ _ _ _ => False
  | f + 1 => fun S l0 l1 l2 => kT S l0 = 6 ∧ kT S (sR S l0 3) = 4 ∧ (((sI S (sR S l0 3) 4) ≤ l2 → post 1 S) ∧ (¬ (sI S (sR S l0 3) 4) ≤ l2 → w_X3_stepAt S (sR S l0 3) l2 (fun r4 S3 => ((r4 = 0 → b_X5_performSteps_35 post S3 l0 l1 l2 r4) ∧ (¬ r4 = 0 → kT S3 l0 = 6 ∧ w_X5_isAllowed S3 l0 l1 r4 (fun r7 S6 => ((¬ r7 = 0 → kT S6 l0 = 6 ∧ w_X5_perform S6 l0 l1 r4 (fun r10 S9 => ∀ v11 : Int32, v11 = l2 + 1 → b_X5_performSteps_2 post f S9 l0 l1 v11)) ∧ (r7 = 0 → b_X5_performSteps_35 post S6 l0 l1 l2 r4))))))))
def w_X5_performSteps (S : MS) (a0 : Nat) (a1 : Nat) (post : Int32 → MS → Prop) : Prop := ∃ f2, b_X5_performSteps_2 post f2 S a0 a1 0
set_option maxHeartbeats 4000000 in
set_option maxRecDepth 100000 in
theorem ct_X5_performSteps (l : Launch) (G : GP) (S : MS) (a0 : Nat) (a1 : Nat) (post : Int32 → MS → Prop) (h : w_X5_performSteps S a0 a1 post) : MetM l yX5_performSteps cX5_performSteps 4 (some .boolean) rm_X5_performSteps [rf a0, rf a1] G S (pI_ post) := by
  refine met_of (by decide) (cat1_r (cat1_r cat1_n)) (Nat.le_of_ble_eq_true rfl) ?_
  intro p e s m args below meth c X hr hlk hin
  revert h
  have g35 : ∀ (S : MS) (l0 : Nat) (l1 : Nat) (l2 : Int32) (l3 : Nat), b_X5_performSteps_35 post S l0 l1 l2 l3 → Gd p l e rm_X5_performSteps s m args below meth c 4 G (MQ below (QcM G (pI_ post)) args s rm_X5_performSteps.cells rm_X5_performSteps.slots (Ab G)) 0 0 S 35 [(0, rf l0), (1, rf l1), (2, .int l2), (3, rf l3)] [] := by
    intro S l0 l1 l2 l3 h
    refine gd_aload_n (pc := 35) X 0 dX5_performSteps_35 rfl ?_
    refine gd_aload_n (pc := 36) X 1 dX5_performSteps_36 rfl ?_
    refine gd_iconst (pc := 37) X (5) dX5_performSteps_37 (by decide) ?_
    obtain ⟨hk1, h⟩ := h
    refine gd_callV (pc := 38) (As := [rf l1, .int 5]) (rest := []) X (ct_X5_endInAbort l G S l0 l1 5 _ h) mw_X5_endInAbort tw_642 ci5 rfl hk1 ⟨(Nat.le_of_ble_eq_true rfl), (Nat.le_of_ble_eq_true rfl)⟩ rfl rfl (Nat.le_of_ble_eq_true rfl) dX5_performSteps_38 ⟨Nat.le_of_ble_eq_true rfl, Nat.le_of_ble_eq_true rfl⟩ (kV (fun S2 h => ?_))
    refine gd_wide (k2 := 0) (j2 := 0) (Nat.le_of_ble_eq_true rfl) (Nat.le_of_ble_eq_true rfl) ?_
    refine gd_iconst (pc := 41) X (0) dX5_performSteps_41 (by decide) ?_
    exact (gd_ret_i (pc := 42) X hr hlk rfl (by decide) (by decide) dX5_performSteps_42 ⟨_, rfl, h⟩)
  have g2 : ∀ (f : Nat) (S : MS) (l0 : Nat) (l1 : Nat) (l2 : Int32), b_X5_performSteps_2 post f S l0 l1 l2 → Gd p l e rm_X5_performSteps s m args below meth c 4 G (MQ below (QcM G (pI_ post)) args s rm_X5_performSteps.cells rm_X5_performSteps.slots (Ab G)) 0 0 S 2 [(0, rf l0), (1, rf l1), (2, .int l2)] [] := by
    intro f
    induction f with
    | zero => intro S l0 l1 l2 h; exact h.elim
    | succ f ih =>
      intro S l0 l1 l2 h
      refine gd_iload_n (pc := 2) X 2 dX5_performSteps_2 rfl ?_
      refine gd_aload_n (pc := 3) X 0 dX5_performSteps_3 rfl ?_
      obtain ⟨hk1, h⟩ := h
      refine gd_getR (pc := 4) (kf := 3) X ci5 (by decide) rfl tw_91 dX5_performSteps_4 hk1 ?_
      obtain ⟨hk2, h⟩ := h
      refine gd_getI (pc := 7) (kf := 4) X ci3 (by decide) rfl tw_71 dX5_performSteps_7 hk2 ?_
      refine gd_icmp_ge (pc := 10) X 56 dX5_performSteps_10 (by decide) (fun hc14 => ?_) (fun hc14 => ?_)
      · have h := h.1 hc14
        refine gd_iconst (pc := 56) X (1) dX5_performSteps_56 (by decide) ?_
        exact (gd_ret_i (pc := 57) X hr hlk rfl (by decide) (by decide) dX5_performSteps_57 ⟨_, rfl, h⟩)
      · have h := h.2 hc14
        refine gd_aload_n (pc := 13) X 0 dX5_performSteps_13 rfl ?_
        refine gd_getR (pc := 14) (kf := 3) X ci5 (by decide) rfl tw_91 dX5_performSteps_14 hk1 ?_
        refine gd_iload_n (pc := 17) X 2 dX5_performSteps_17 rfl ?_
        refine gd_callV (pc := 18) (As := [.int l2]) (rest := []) X (ct_X3_stepAt l G S (sR S l0 3) l2 _ h) mw_X3_stepAt tw_965 ci3 rfl hk2 ⟨(Nat.le_of_ble_eq_true rfl), (Nat.le_of_ble_eq_true rfl)⟩ rfl rfl (Nat.le_of_ble_eq_true rfl) dX5_performSteps_18 ⟨Nat.le_of_ble_eq_true rfl, Nat.le_of_ble_eq_true rfl⟩ (kR (fun r4 S3 h => ?_))
        refine gd_wide (k2 := 0) (j2 := 0) (Nat.le_of_ble_eq_true rfl) (Nat.le_of_ble_eq_true rfl) ?_
        refine gd_astore_n (pc := 21) X dX5_performSteps_21 (by decide) (E2 := [(3, rf r4), (0, rf l0), (1, rf l1), (2, .int l2)]) rfl ?_
        refine gd_aload_n (pc := 22) X 0 dX5_performSteps_22 rfl ?_
        refine gd_ifnull (pc := 23) X 35 dX5_performSteps_23 (by decide) (fun hc13 => ?_) (fun hc13 => ?_)
        · have h := h.1 hc13
          refine gd_sub [1, 2, 3, 0] rfl ?_
          exact g35 _ _ _ _ _ h
        · have h := h.2 hc13
          refine gd_aload_n (pc := 26) X 1 dX5_performSteps_26 rfl ?_
          refine gd_aload_n (pc := 27) X 2 dX5_performSteps_27 rfl ?_
          refine gd_aload_n (pc := 28) X 0 dX5_performSteps_28 rfl ?_
          obtain ⟨hk5, h⟩ := h
          refine gd_callV (pc := 29) (As := [rf l1, rf r4]) (rest := []) X (ct_X5_isAllowed l G S3 l0 l1 r4 _ h) mw_X5_isAllowed tw_969 ci5 rfl hk5 ⟨(Nat.le_of_ble_eq_true rfl), (Nat.le_of_ble_eq_true rfl)⟩ rfl rfl (Nat.le_of_ble_eq_true rfl) dX5_performSteps_29 ⟨Nat.le_of_ble_eq_true rfl, Nat.le_of_ble_eq_true rfl⟩ (kI (fun r7 S6 h => ?_))
          refine gd_wide (k2 := 0) (j2 := 0) (Nat.le_of_ble_eq_true rfl) (Nat.le_of_ble_eq_true rfl) ?_
          refine gd_if_ne (pc := 32) X 43 dX5_performSteps_32 (by decide) (fun hc12 => ?_) (fun hc12 => ?_)
          · have h := h.1 hc12
            refine gd_aload_n (pc := 43) X 1 dX5_performSteps_43 rfl ?_
            refine gd_aload_n (pc := 44) X 2 dX5_performSteps_44 rfl ?_
            refine gd_aload_n (pc := 45) X 0 dX5_performSteps_45 rfl ?_
            obtain ⟨hk8, h⟩ := h
            refine gd_callV (pc := 46) (As := [rf l1, rf r4]) (rest := []) X (ct_X5_perform l G S6 l0 l1 r4 _ h) mw_X5_perform tw_528 ci5 rfl hk8 ⟨(Nat.le_of_ble_eq_true rfl), (Nat.le_of_ble_eq_true rfl)⟩ rfl rfl (Nat.le_of_ble_eq_true rfl) dX5_performSteps_46 ⟨Nat.le_of_ble_eq_true rfl, Nat.le_of_ble_eq_true rfl⟩ (kI (fun r10 S9 h => ?_))
            refine gd_wide (k2 := 0) (j2 := 0) (Nat.le_of_ble_eq_true rfl) (Nat.le_of_ble_eq_true rfl) ?_
            refine gd_popI (pc := 49) X dX5_performSteps_49 ?_
            obtain ⟨v11, hv11⟩ : ∃ z : Int32, z = l2 + 1 := ⟨_, rfl⟩
            have h := h v11 hv11
            refine gd_iinc (pc := 50) (v := v11) X 3 dX5_performSteps_50 rfl (by rw [hv11]; rfl) (by decide) (E2 := [(2, .int v11), (3, rf r4), (0, rf l0), (1, rf l1)]) (by simp [rf_cat, lv1, int_cat] <;> decide) ?_
            refine gd_goto (pc := 53) X 2 dX5_performSteps_53 (by decide) ?_
            refine gd_sub [2, 3, 0] rfl ?_
            exact ih _ _ _ _ h
          · have h := h.2 hc12
            refine gd_sub [1, 2, 3, 0] rfl ?_
            exact g35 _ _ _ _ _ h
  intro h
  refine gd_iconst (pc := 0) X (0) dX5_performSteps_0 (by decide) ?_
  refine gd_istore_n (pc := 1) X dX5_performSteps_1 (by decide) (E2 := [(2, .int 0), (0, rf a0), (1, rf a1)]) (by simp [rf_cat, lv1, int_cat] <;> decide) ?_
  refine gd_sub [1, 2, 0] rfl ?_
  obtain ⟨f2, h⟩ := h
  exact g2 f2 _ _ _ _ h
abbrev rm_X5_runScript : Room := { frames := 7, cells := 36, slots := 292, locals := 167 }
def b_X5_runScript_71 (post : Int32 → MS → Prop) (xp : String → MS → Prop) (S : MS) (l0 : Nat) (l1 : Nat) (s0 : Int32) : Prop := post s0 S
def b_X5_runScript_37 (post : Int32 → MS → Prop) (xp : String → MS → Prop) (S : MS) (l0 : Nat) : Prop := xp "java/lang/IllegalStateException" S
def w_X5_runScript (S : MS) (a0 : Nat) (post : Int32 → MS → Prop) (xp : String → MS → Prop) : Prop := kT S a0 = 6 ∧ kT S (sR S a0 3) = 4 ∧ w_X3_parseAndEmpty S (sR S a0 3) (fun r4 S3 => ((¬ r4 = 0 → kT S3 a0 = 6 ∧ w_X5_canStart S3 a0 (fun r7 S6 => ((r7 = 0 → b_X5_runScript_37 post xp S6 a0) ∧ (¬ r7 = 0 → kT S6 a0 = 6 ∧ kT S6 (sR S6 a0 0) = 2 ∧ w_X1_isFull S6 (sR S6 a0 0) (fun r11 S10 => ((r11 = 0 → kT S10 a0 = 6 ∧ w_X5_start S10 a0 1 (fun r14 S13 => kT S13 a0 = 6 ∧ w_X5_performSteps S13 a0 r14 (fun r17 S16 => ((r17 = 0 → b_X5_runScript_71 post xp S16 a0 r14 ((-2))) ∧ (¬ r17 = 0 → kT S16 a0 = 6 ∧ w_X5_tryToCommit S16 a0 r14 (fun r20 S19 => b_X5_runScript_71 post xp S19 a0 r14 r20)))))) ∧ (¬ r11 = 0 → b_X5_runScript_37 post xp S10 a0))))))) ∧ (r4 = 0 → xp "java/lang/IllegalArgumentException" S3)))
set_option maxHeartbeats 4000000 in
set_option maxRecDepth 100000 in
theorem ct_X5_runScript (l : Launch) (hfl : l.stackTraces = false) (G : GP) (S : MS) (a0 : Nat) (post : Int32 → MS → Prop) (xp : String → MS → Prop) (h : w_X5_runScript S a0 post xp) : MetX l yX5_runScript cX5_runScript 2 (some .int) rm_X5_runScript [rf a0] G S (pI_ post) xp := by
  refine metX_of (by decide) (cat1_r cat1_n) (Nat.le_of_ble_eq_true rfl) ?_
  intro p e s m args below meth c X hr hlk ht
  revert h
  have g71 : ∀ (S : MS) (l0 : Nat) (l1 : Nat) (s0 : Int32), b_X5_runScript_71 post xp S l0 l1 s0 → Gd p l e rm_X5_runScript s m args below meth c 2 G (vx_MQ below (QcM G (pI_ post)) (XcM G xp) args s rm_X5_runScript.cells rm_X5_runScript.slots (Ab G)) 36 292 S 71 [(0, rf l0), (1, rf l1)] [.int s0] := by
    intro S l0 l1 s0 h
    exact gd_x (gd_ret_i (pc := 71) X hr hlk rfl (by decide) (by decide) dX5_runScript_71 ⟨_, rfl, h⟩)
  have g37 : ∀ (S : MS) (l0 : Nat), b_X5_runScript_37 post xp S l0 → Gd p l e rm_X5_runScript s m args below meth c 2 G (vx_MQ below (QcM G (pI_ post)) (XcM G xp) args s rm_X5_runScript.cells rm_X5_runScript.slots (Ab G)) 32 192 S 37 [(0, rf l0)] [] := by
    intro S l0 h
    exact gd_throw (pc := 37) hfl X hlk ht th_29 dX5_runScript_37 dX5_runScript_40 dX5_runScript_41 dX5_runScript_43 dX5_runScript_46 (by decide) (by decide) (by decide) (by decide) h
  intro h
  refine gd_aload_n (pc := 0) X 0 dX5_runScript_0 rfl ?_
  obtain ⟨hk1, h⟩ := h
  refine gd_getR (pc := 1) (kf := 3) X ci5 (by decide) rfl tw_91 dX5_runScript_1 hk1 ?_
  obtain ⟨hk2, h⟩ := h
  refine gd_callV (pc := 4) (As := []) (rest := []) X (ct_X3_parseAndEmpty l G S (sR S a0 3) _ h) mw_X3_parseAndEmpty tw_912 ci3 rfl hk2 ⟨(Nat.le_of_ble_eq_true rfl), (Nat.le_of_ble_eq_true rfl)⟩ rfl rfl (Nat.le_of_ble_eq_true rfl) dX5_runScript_4 ⟨Nat.le_of_ble_eq_true rfl, Nat.le_of_ble_eq_true rfl⟩ (kI (fun r4 S3 h => ?_))
  refine gd_wide (k2 := 32) (j2 := 192) (Nat.le_of_ble_eq_true rfl) (Nat.le_of_ble_eq_true rfl) ?_
  refine gd_if_ne (pc := 7) X 20 dX5_runScript_7 (by decide) (fun hc24 => ?_) (fun hc24 => ?_)
  · have h := h.1 hc24
    refine gd_aload_n (pc := 20) X 0 dX5_runScript_20 rfl ?_
    obtain ⟨hk5, h⟩ := h
    refine gd_callV (pc := 21) (As := []) (rest := []) X (ct_X5_canStart l G S3 a0 _ h) mw_X5_canStart tw_328 ci5 rfl hk5 ⟨(Nat.le_of_ble_eq_true rfl), (Nat.le_of_ble_eq_true rfl)⟩ rfl rfl (Nat.le_of_ble_eq_true rfl) dX5_runScript_21 ⟨Nat.le_of_ble_eq_true rfl, Nat.le_of_ble_eq_true rfl⟩ (kI (fun r7 S6 h => ?_))
    refine gd_wide (k2 := 32) (j2 := 192) (Nat.le_of_ble_eq_true rfl) (Nat.le_of_ble_eq_true rfl) ?_
    refine gd_if_eq (pc := 24) X 37 dX5_runScript_24 (by decide) (fun hc23 => ?_) (fun hc23 => ?_)
    · have h := h.1 hc23
      exact g37 _ _ h
    · have h := h.2 hc23
      refine gd_aload_n (pc := 27) X 0 dX5_runScript_27 rfl ?_
      obtain ⟨hk8, h⟩ := h
      refine gd_getR (pc := 28) (kf := 0) X ci5 (by decide) rfl tw_88 dX5_runScript_28 hk8 ?_
      obtain ⟨hk9, h⟩ := h
      refine gd_callV (pc := 31) (As := []) (rest := []) X (ct_X1_isFull l G S6 (sR S6 a0 0) _ h) mw_X1_isFull tw_592 ci1 rfl hk9 ⟨(Nat.le_of_ble_eq_true rfl), (Nat.le_of_ble_eq_true rfl)⟩ rfl rfl (Nat.le_of_ble_eq_true rfl) dX5_runScript_31 ⟨Nat.le_of_ble_eq_true rfl, Nat.le_of_ble_eq_true rfl⟩ (kI (fun r11 S10 h => ?_))
      refine gd_wide (k2 := 32) (j2 := 192) (Nat.le_of_ble_eq_true rfl) (Nat.le_of_ble_eq_true rfl) ?_
      refine gd_if_eq (pc := 34) X 47 dX5_runScript_34 (by decide) (fun hc22 => ?_) (fun hc22 => ?_)
      · have h := h.1 hc22
        refine gd_aload_n (pc := 47) X 0 dX5_runScript_47 rfl ?_
        refine gd_iconst (pc := 48) X (1) dX5_runScript_48 (by decide) ?_
        obtain ⟨hk12, h⟩ := h
        refine gd_callV (pc := 49) (As := [.int 1]) (rest := []) X (ct_X5_start l G S10 a0 1 _ h) mw_X5_start tw_333 ci5 rfl hk12 ⟨(Nat.le_of_ble_eq_true rfl), (Nat.le_of_ble_eq_true rfl)⟩ rfl rfl (Nat.le_of_ble_eq_true rfl) dX5_runScript_49 ⟨Nat.le_of_ble_eq_true rfl, Nat.le_of_ble_eq_true rfl⟩ (kR (fun r14 S13 h => ?_))
        refine gd_wide (k2 := 36) (j2 := 292) (Nat.le_of_ble_eq_true rfl) (Nat.le_of_ble_eq_true rfl) ?_
        refine gd_astore_n (pc := 52) X dX5_runScript_52 (by decide) (E2 := [(1, rf r14), (0, rf a0)]) (by simp [rf_cat, lv1, int_cat] <;> decide) ?_
        refine gd_aload_n (pc := 53) X 1 dX5_runScript_53 rfl ?_
        refine gd_aload_n (pc := 54) X 0 dX5_runScript_54 rfl ?_
        obtain ⟨hk15, h⟩ := h
        refine gd_callV (pc := 55) (As := [rf r14]) (rest := []) X (ct_X5_performSteps l G S13 a0 r14 _ h) mw_X5_performSteps tw_961 ci5 rfl hk15 ⟨(Nat.le_of_ble_eq_true rfl), (Nat.le_of_ble_eq_true rfl)⟩ rfl rfl (Nat.le_of_ble_eq_true rfl) dX5_runScript_55 ⟨Nat.le_of_ble_eq_true rfl, Nat.le_of_ble_eq_true rfl⟩ (kI (fun r17 S16 h => ?_))
        refine gd_wide (k2 := 36) (j2 := 292) (Nat.le_of_ble_eq_true rfl) (Nat.le_of_ble_eq_true rfl) ?_
        refine gd_if_eq (pc := 58) X 69 dX5_runScript_58 (by decide) (fun hc21 => ?_) (fun hc21 => ?_)
        · have h := h.1 hc21
          refine gd_bipush (pc := 69) X (-2) dX5_runScript_69 (by decide) ?_
          refine gd_sub [1, 0] rfl ?_
          exact g71 _ _ _ _ h
        · have h := h.2 hc21
          refine gd_aload_n (pc := 61) X 1 dX5_runScript_61 rfl ?_
          refine gd_aload_n (pc := 62) X 0 dX5_runScript_62 rfl ?_
          obtain ⟨hk18, h⟩ := h
          refine gd_callV (pc := 63) (As := [rf r14]) (rest := []) X (ct_X5_tryToCommit l G S16 a0 r14 _ h) mw_X5_tryToCommit tw_597 ci5 rfl hk18 ⟨(Nat.le_of_ble_eq_true rfl), (Nat.le_of_ble_eq_true rfl)⟩ rfl rfl (Nat.le_of_ble_eq_true rfl) dX5_runScript_63 ⟨Nat.le_of_ble_eq_true rfl, Nat.le_of_ble_eq_true rfl⟩ (kI (fun r20 S19 h => ?_))
          refine gd_wide (k2 := 36) (j2 := 292) (Nat.le_of_ble_eq_true rfl) (Nat.le_of_ble_eq_true rfl) ?_
          refine gd_goto (pc := 66) X 71 dX5_runScript_66 (by decide) ?_
          refine gd_sub [1, 0] rfl ?_
          exact g71 _ _ _ _ h
      · have h := h.2 hc22
        exact g37 _ _ h
  · have h := h.2 hc24
    exact gd_throw (pc := 10) hfl X hlk ht th_28 dX5_runScript_10 dX5_runScript_13 dX5_runScript_14 dX5_runScript_16 dX5_runScript_19 (by decide) (by decide) (by decide) (by decide) h
abbrev rm_X5_faultPosition : Room := { frames := 0, cells := 0, slots := 0, locals := 0 }
def w_X5_faultPosition (S : MS) (a0 : Nat) (post : Int32 → MS → Prop) : Prop := kT S a0 = 6 ∧ kT S (sR S a0 3) = 4 ∧ post (sI S (sR S a0 3) 5) S
set_option maxHeartbeats 4000000 in
set_option maxRecDepth 100000 in
theorem ct_X5_faultPosition (l : Launch) (G : GP) (S : MS) (a0 : Nat) (post : Int32 → MS → Prop) (h : w_X5_faultPosition S a0 post) : MetM l yX5_faultPosition cX5_faultPosition 1 (some .int) rm_X5_faultPosition [rf a0] G S (pI_ post) := by
  refine met_of (by decide) (cat1_r cat1_n) (Nat.le_of_ble_eq_true rfl) ?_
  intro p e s m args below meth c X hr hlk hin
  refine gd_aload_n (pc := 0) X 0 dX5_faultPosition_0 rfl ?_
  obtain ⟨hk1, h⟩ := h
  refine gd_getR (pc := 1) (kf := 3) X ci5 (by decide) rfl tw_91 dX5_faultPosition_1 hk1 ?_
  obtain ⟨hk2, h⟩ := h
  refine gd_getI (pc := 4) (kf := 5) X ci3 (by decide) rfl tw_73 dX5_faultPosition_4 hk2 ?_
  exact (gd_ret_i (pc := 7) X hr hlk rfl (by decide) (by decide) dX5_faultPosition_7 ⟨_, rfl, h⟩)
