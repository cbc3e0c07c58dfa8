abbrev rm_L_addConstraint : Room := { frames := 7, cells := 2, slots := 10, locals := 125 }
def w_L_addConstraint (S : MS) (a0 : Nat) (a1 : Int32) (a2 : Int32) (a3 : Int32) (a4 : Int32) (a5 : Nat) (post : Int32 → MS → Prop) : Prop := kT S a0 = 6 ∧ w_X5_addConstraint S a0 a1 a2 a3 a4 (fun r3 S2 => kT S2 a5 = 15 ∧ vp_in 0 (kL S2 a5) ∧ ∀ S6 : MS, S6 = pL S2 a5 (ix 0) r3.toInt64 → post 0 S6) (fun Ex S9 => (Ex = "java/lang/IllegalArgumentException" ∧ post 1 S9) ∨ (Ex = "java/lang/IllegalStateException" ∧ post 2 S9))
set_option maxHeartbeats 4000000 in
set_option maxRecDepth 100000 in
theorem ct_L_addConstraint (l : Launch) (hfl : l.stackTraces = false) (G : GP) (S : MS) (a0 : Nat) (a1 : Int32) (a2 : Int32) (a3 : Int32) (a4 : Int32) (a5 : Nat) (post : Int32 → MS → Prop) (h : w_L_addConstraint S a0 a1 a2 a3 a4 a5 post) : MetW l yL_addConstraint cL_addConstraint 7 (some .int) [(0, 14, 17, 13), (0, 14, 21, 15)] rm_L_addConstraint [rf a0, .int a1, .int a2, .int a3, .int a4, rf a5] G S (pI_ post) := by
  refine metW_of (by decide) (cat1_r (cat1_i (cat1_i (cat1_i (cat1_i (cat1_r cat1_n)))))) (Nat.le_of_ble_eq_true rfl) ?_
  intro p e s m args below meth c X hr hlk ht
  refine gd_aload (pc := 0) X 5 dL_addConstraint_0 rfl ?_
  refine gd_iconst (pc := 2) X (0) dL_addConstraint_2 (by decide) ?_
  refine gd_aload_n (pc := 3) X 0 dL_addConstraint_3 rfl ?_
  refine gd_iload_n (pc := 4) X 1 dL_addConstraint_4 rfl ?_
  refine gd_iload_n (pc := 5) X 2 dL_addConstraint_5 rfl ?_
  refine gd_iload_n (pc := 6) X 3 dL_addConstraint_6 rfl ?_
  refine gd_iload (pc := 7) X 4 dL_addConstraint_7 rfl ?_
  obtain ⟨hk1, h⟩ := h
  refine gd_callVX (pc := 9) (As := [.int a1, .int a2, .int a3, .int a4]) (rest := [.int 0, rf a5]) X (ct_X5_addConstraint l hfl G S a0 a1 a2 a3 a4 _ _ h) mw_X5_addConstraint tw_844 ci5 rfl hk1 ⟨(Nat.le_of_ble_eq_true rfl), (Nat.le_of_ble_eq_true rfl)⟩ rfl rfl (Nat.le_of_ble_eq_true rfl) dL_addConstraint_9 ⟨Nat.le_of_ble_eq_true rfl, Nat.le_of_ble_eq_true rfl⟩ (kI (fun r3 S2 h => ?_)) (fun Ex S9 hE hx H1 locs1 la q ce h1 h2 h3 h4 h5 h6 => ?_)
  · refine gd_wide (k2 := 2) (j2 := 10) (Nat.le_of_ble_eq_true rfl) (Nat.le_of_ble_eq_true rfl) ?_
    refine gd_i2l (pc := 12) X dL_addConstraint_12 ?_
    obtain ⟨hk4, h⟩ := h
    obtain ⟨hi5, h⟩ := h
    refine gd_last (pc := 13) X dL_addConstraint_13 hk4 hi5 ?_
    refine gd_topS (fun S6 hS6 => ?_)
    have h := h S6 hS6
    have hk7 : kT S6 a5 = 15 := by rw [hS6]; exact hk4
    refine gd_goto (pc := 14) X 25 dL_addConstraint_14 (by decide) ?_
    refine gd_iconst (pc := 25) X (0) dL_addConstraint_25 (by decide) ?_
    exact gd_x (gd_ret_i (pc := 26) X hr hlk rfl (by decide) (by decide) dL_addConstraint_26 ⟨_, rfl, h⟩)
  · rcases hx with ⟨rfl, hx⟩ | ⟨rfl, hx⟩
    · refine gd_catch (i := 6) (hp := 17) (len := 2) X [] ⟨0, 14, 17, 13⟩ [⟨0, 14, 21, 15⟩] ht (fun z hz => by cases hz) rfl (by decide) tw_225 (by decide) (by decide) rfl (@fun H locs _ _ _ hE9 hk9 => lv_astore X.1 X.2.1 dL_addConstraint_17 h3 (by decide) hE9 hk9) h1 h2 h4 h5 h6 ?_
      refine gd_wide (k2 := 2) (j2 := 10) (Nat.le_of_ble_eq_true rfl) (Nat.le_of_ble_eq_true rfl) ?_
      refine gd_iconst (pc := 19) X 1 dL_addConstraint_19 (by decide) ?_
      exact gd_x (gd_ret_i (pc := 20) X hr hlk rfl (by decide) (by decide) dL_addConstraint_20 ⟨_, rfl, hx⟩)
    · refine gd_catch (i := 6) (hp := 21) (len := 2) X [⟨0, 14, 17, 13⟩] ⟨0, 14, 21, 15⟩ [] ht (fun z hz => by simp only [List.mem_cons, List.not_mem_nil, or_false] at hz; rcases hz with rfl <;> first | exact ⟨by decide, "java/lang/IllegalArgumentException", by decide, tw_225, by decide⟩) rfl (by decide) tw_226 (by decide) (by decide) rfl (@fun H locs _ _ _ hE9 hk9 => lv_astore X.1 X.2.1 dL_addConstraint_21 h3 (by decide) hE9 hk9) h1 h2 h4 h5 h6 ?_
      refine gd_wide (k2 := 2) (j2 := 10) (Nat.le_of_ble_eq_true rfl) (Nat.le_of_ble_eq_true rfl) ?_
      refine gd_iconst (pc := 23) X 2 dL_addConstraint_23 (by decide) ?_
      exact gd_x (gd_ret_i (pc := 24) X hr hlk rfl (by decide) (by decide) dL_addConstraint_24 ⟨_, rfl, hx⟩)
abbrev rm_L_aborts : Room := { frames := 7, cells := 1, slots := 6, locals := 124 }
def w_L_aborts (S : MS) (a0 : Nat) (a1 : Int32) (a2 : Nat) (post : Int32 → MS → Prop) : Prop := kT S a0 = 6 ∧ w_X5_aborts S a0 a1 (fun r3 S2 => kT S2 a2 = 15 ∧ vp_in 0 (kL S2 a2) ∧ ∀ S6 : MS, S6 = pL S2 a2 (ix 0) r3.toInt64 → post 0 S6) (fun Ex S9 => (Ex = "java/lang/IllegalArgumentException" ∧ post 1 S9))
set_option maxHeartbeats 4000000 in
set_option maxRecDepth 100000 in
theorem ct_L_aborts (l : Launch) (hfl : l.stackTraces = false) (G : GP) (S : MS) (a0 : Nat) (a1 : Int32) (a2 : Nat) (post : Int32 → MS → Prop) (h : w_L_aborts S a0 a1 a2 post) : MetW l yL_aborts cL_aborts 4 (some .int) [(0, 9, 12, 13)] rm_L_aborts [rf a0, .int a1, rf a2] G S (pI_ post) := by
  refine metW_of (by decide) (cat1_r (cat1_i (cat1_r cat1_n))) (Nat.le_of_ble_eq_true rfl) ?_
  intro p e s m args below meth c X hr hlk ht
  refine gd_aload_n (pc := 0) X 2 dL_aborts_0 rfl ?_
  refine gd_iconst (pc := 1) X (0) dL_aborts_1 (by decide) ?_
  refine gd_aload_n (pc := 2) X 0 dL_aborts_2 rfl ?_
  refine gd_iload_n (pc := 3) X 1 dL_aborts_3 rfl ?_
  obtain ⟨hk1, h⟩ := h
  refine gd_callVX (pc := 4) (As := [.int a1]) (rest := [.int 0, rf a2]) X (ct_X5_aborts l hfl G S a0 a1 _ _ h) mw_X5_aborts tw_871 ci5 rfl hk1 ⟨(Nat.le_of_ble_eq_true rfl), (Nat.le_of_ble_eq_true rfl)⟩ rfl rfl (Nat.le_of_ble_eq_true rfl) dL_aborts_4 ⟨Nat.le_of_ble_eq_true rfl, Nat.le_of_ble_eq_true rfl⟩ (kI (fun r3 S2 h => ?_)) (fun Ex S9 hE hx H1 locs1 la q ce h1 h2 h3 h4 h5 h6 => ?_)
  · refine gd_wide (k2 := 1) (j2 := 6) (Nat.le_of_ble_eq_true rfl) (Nat.le_of_ble_eq_true rfl) ?_
    refine gd_i2l (pc := 7) X dL_aborts_7 ?_
    obtain ⟨hk4, h⟩ := h
    obtain ⟨hi5, h⟩ := h
    refine gd_last (pc := 8) X dL_aborts_8 hk4 hi5 ?_
    refine gd_topS (fun S6 hS6 => ?_)
    have h := h S6 hS6
    have hk7 : kT S6 a2 = 15 := by rw [hS6]; exact hk4
    refine gd_goto (pc := 9) X 15 dL_aborts_9 (by decide) ?_
    refine gd_iconst (pc := 15) X (0) dL_aborts_15 (by decide) ?_
    exact gd_x (gd_ret_i (pc := 16) X hr hlk rfl (by decide) (by decide) dL_aborts_16 ⟨_, rfl, h⟩)
  · rcases hx with ⟨rfl, hx⟩
    · refine gd_catch (i := 3) (hp := 12) (len := 1) X [] ⟨0, 9, 12, 13⟩ [] ht (fun z hz => by cases hz) rfl (by decide) tw_225 (by decide) (by decide) rfl (@fun H locs _ _ _ hE9 hk9 => lv_astore_n X.1 X.2.1 dL_aborts_12 rfl h3 (by decide) hE9 hk9) h1 h2 h4 h5 h6 ?_
      refine gd_wide (k2 := 1) (j2 := 6) (Nat.le_of_ble_eq_true rfl) (Nat.le_of_ble_eq_true rfl) ?_
      refine gd_iconst (pc := 13) X 1 dL_aborts_13 (by decide) ?_
      exact gd_x (gd_ret_i (pc := 14) X hr hlk rfl (by decide) (by decide) dL_aborts_14 ⟨_, rfl, hx⟩)
abbrev rm_L_averageAttempts : Room := { frames := 7, cells := 1, slots := 6, locals := 124 }
def w_L_averageAttempts (S : MS) (a0 : Nat) (a1 : Nat) (post : Int32 → MS → Prop) : Prop := kT S a0 = 6 ∧ w_X5_averageAttempts S a0 (fun r3 S2 => kT S2 a1 = 16 ∧ vp_in 0 (kL S2 a1) ∧ ∀ S6 : MS, S6 = pD S2 a1 (ix 0) r3 → post 0 S6) (fun Ex S9 => (Ex = "java/lang/ArithmeticException" ∧ post 1 S9))
set_option maxHeartbeats 4000000 in
set_option maxRecDepth 100000 in
theorem ct_L_averageAttempts (l : Launch) (hfl : l.stackTraces = false) (G : GP) (S : MS) (a0 : Nat) (a1 : Nat) (post : Int32 → MS → Prop) (h : w_L_averageAttempts S a0 a1 post) : MetW l yL_averageAttempts cL_averageAttempts 3 (some .int) [(0, 7, 10, 49)] rm_L_averageAttempts [rf a0, rf a1] G S (pI_ post) := by
  refine metW_of (by decide) (cat1_r (cat1_r cat1_n)) (Nat.le_of_ble_eq_true rfl) ?_
  intro p e s m args below meth c X hr hlk ht
  refine gd_aload_n (pc := 0) X 1 dL_averageAttempts_0 rfl ?_
  refine gd_iconst (pc := 1) X (0) dL_averageAttempts_1 (by decide) ?_
  refine gd_aload_n (pc := 2) X 0 dL_averageAttempts_2 rfl ?_
  obtain ⟨hk1, h⟩ := h
  refine gd_callVX (pc := 3) (As := []) (rest := [.int 0, rf a1]) X (ct_X5_averageAttempts l hfl G S a0 _ _ h) mw_X5_averageAttempts tw_879 ci5 rfl hk1 ⟨(Nat.le_of_ble_eq_true rfl), (Nat.le_of_ble_eq_true rfl)⟩ rfl rfl (Nat.le_of_ble_eq_true rfl) dL_averageAttempts_3 ⟨Nat.le_of_ble_eq_true rfl, Nat.le_of_ble_eq_true rfl⟩ (kD (fun r3 S2 h => ?_)) (fun Ex S9 hE hx H1 locs1 la q ce h1 h2 h3 h4 h5 h6 => ?_)
  · refine gd_wide (k2 := 1) (j2 := 6) (Nat.le_of_ble_eq_true rfl) (Nat.le_of_ble_eq_true rfl) ?_
    obtain ⟨hk4, h⟩ := h
    obtain ⟨hi5, h⟩ := h
    refine gd_dast (pc := 6) X dL_averageAttempts_6 hk4 hi5 ?_
    refine gd_topS (fun S6 hS6 => ?_)
    have h := h S6 hS6
    have hk7 : kT S6 a1 = 16 := by rw [hS6]; exact hk4
    refine gd_goto (pc := 7) X 13 dL_averageAttempts_7 (by decide) ?_
    refine gd_iconst (pc := 13) X (0) dL_averageAttempts_13 (by decide) ?_
    exact gd_x (gd_ret_i (pc := 14) X hr hlk rfl (by decide) (by decide) dL_averageAttempts_14 ⟨_, rfl, h⟩)
  · rcases hx with ⟨rfl, hx⟩
    · refine gd_catch (i := 2) (hp := 10) (len := 1) X [] ⟨0, 7, 10, 49⟩ [] ht (fun z hz => by cases hz) rfl (by decide) tw_580 (by decide) (by decide) rfl (@fun H locs _ _ _ hE9 hk9 => lv_astore_n X.1 X.2.1 dL_averageAttempts_10 rfl h3 (by decide) hE9 hk9) h1 h2 h4 h5 h6 ?_
      refine gd_wide (k2 := 1) (j2 := 6) (Nat.le_of_ble_eq_true rfl) (Nat.le_of_ble_eq_true rfl) ?_
      refine gd_iconst (pc := 11) X 1 dL_averageAttempts_11 (by decide) ?_
      exact gd_x (gd_ret_i (pc := 12) X hr hlk rfl (by decide) (by decide) dL_averageAttempts_12 ⟨_, rfl, hx⟩)
abbrev rm_L_abortRate : Room := { frames := 7, cells := 1, slots := 6, locals := 121 }
def w_L_abortRate (S : MS) (a0 : Nat) (a1 : Nat) (post : Int32 → MS → Prop) : Prop := kT S a0 = 6 ∧ w_X5_abortRate S a0 (fun r3 S2 => vf_n64 (FP.f2d r3) ∧ kT S2 a1 = 16 ∧ vp_in 0 (kL S2 a1) ∧ ∀ S7 : MS, S7 = pD S2 a1 (ix 0) (FP.f2d r3) → post 0 S7) (fun Ex S9 => (Ex = "java/lang/ArithmeticException" ∧ post 1 S9))
set_option maxHeartbeats 4000000 in
set_option maxRecDepth 100000 in
theorem ct_L_abortRate (l : Launch) (hfl : l.stackTraces = false) (G : GP) (S : MS) (a0 : Nat) (a1 : Nat) (post : Int32 → MS → Prop) (h : w_L_abortRate S a0 a1 post) : MetW l yL_abortRate cL_abortRate 3 (some .int) [(0, 8, 11, 49)] rm_L_abortRate [rf a0, rf a1] G S (pI_ post) := by
  refine metW_of (by decide) (cat1_r (cat1_r cat1_n)) (Nat.le_of_ble_eq_true rfl) ?_
  intro p e s m args below meth c X hr hlk ht
  refine gd_aload_n (pc := 0) X 1 dL_abortRate_0 rfl ?_
  refine gd_iconst (pc := 1) X (0) dL_abortRate_1 (by decide) ?_
  refine gd_aload_n (pc := 2) X 0 dL_abortRate_2 rfl ?_
  obtain ⟨hk1, h⟩ := h
  refine gd_callVX (pc := 3) (As := []) (rest := [.int 0, rf a1]) X (ct_X5_abortRate l hfl G S a0 _ _ h) mw_X5_abortRate tw_887 ci5 rfl hk1 ⟨(Nat.le_of_ble_eq_true rfl), (Nat.le_of_ble_eq_true rfl)⟩ rfl rfl (Nat.le_of_ble_eq_true rfl) dL_abortRate_3 ⟨Nat.le_of_ble_eq_true rfl, Nat.le_of_ble_eq_true rfl⟩ (kF (fun r3 S2 h => ?_)) (fun Ex S9 hE hx H1 locs1 la q ce h1 h2 h3 h4 h5 h6 => ?_)
  · refine gd_wide (k2 := 1) (j2 := 6) (Nat.le_of_ble_eq_true rfl) (Nat.le_of_ble_eq_true rfl) ?_
    obtain ⟨hn4, h⟩ := h
    refine gd_f2d (pc := 6) X dL_abortRate_6 hn4 ?_
    obtain ⟨hk5, h⟩ := h
    obtain ⟨hi6, h⟩ := h
    refine gd_dast (pc := 7) X dL_abortRate_7 hk5 hi6 ?_
    refine gd_topS (fun S7 hS7 => ?_)
    have h := h S7 hS7
    have hk8 : kT S7 a1 = 16 := by rw [hS7]; exact hk5
    refine gd_goto (pc := 8) X 14 dL_abortRate_8 (by decide) ?_
    refine gd_iconst (pc := 14) X (0) dL_abortRate_14 (by decide) ?_
    exact gd_x (gd_ret_i (pc := 15) X hr hlk rfl (by decide) (by decide) dL_abortRate_15 ⟨_, rfl, h⟩)
  · rcases hx with ⟨rfl, hx⟩
    · refine gd_catch (i := 2) (hp := 11) (len := 1) X [] ⟨0, 8, 11, 49⟩ [] ht (fun z hz => by cases hz) rfl (by decide) tw_580 (by decide) (by decide) rfl (@fun H locs _ _ _ hE9 hk9 => lv_astore_n X.1 X.2.1 dL_abortRate_11 rfl h3 (by decide) hE9 hk9) h1 h2 h4 h5 h6 ?_
      refine gd_wide (k2 := 1) (j2 := 6) (Nat.le_of_ble_eq_true rfl) (Nat.le_of_ble_eq_true rfl) ?_
      refine gd_iconst (pc := 12) X 1 dL_abortRate_12 (by decide) ?_
      exact gd_x (gd_ret_i (pc := 13) X hr hlk rfl (by decide) (by decide) dL_abortRate_13 ⟨_, rfl, hx⟩)
abbrev rm_L_appendCharacter : Room := { frames := 7, cells := 1, slots := 6, locals := 121 }
def w_L_appendCharacter (S : MS) (a0 : Nat) (a1 : Int32) (a2 : Nat) (post : Int32 → MS → Prop) : Prop := kT S a0 = 6 ∧ w_X5_appendCharacter S a0 a1 (fun r3 S2 => kT S2 a2 = 15 ∧ vp_in 0 (kL S2 a2) ∧ ∀ S6 : MS, S6 = pL S2 a2 (ix 0) r3.toInt64 → post 0 S6) (fun Ex S9 => (Ex = "java/lang/IllegalArgumentException" ∧ post 1 S9) ∨ (Ex = "java/lang/IllegalStateException" ∧ post 2 S9))
set_option maxHeartbeats 4000000 in
set_option maxRecDepth 100000 in
theorem ct_L_appendCharacter (l : Launch) (hfl : l.stackTraces = false) (G : GP) (S : MS) (a0 : Nat) (a1 : Int32) (a2 : Nat) (post : Int32 → MS → Prop) (h : w_L_appendCharacter S a0 a1 a2 post) : MetW l yL_appendCharacter cL_appendCharacter 4 (some .int) [(0, 9, 12, 13), (0, 9, 15, 15)] rm_L_appendCharacter [rf a0, .int a1, rf a2] G S (pI_ post) := by
  refine metW_of (by decide) (cat1_r (cat1_i (cat1_r cat1_n))) (Nat.le_of_ble_eq_true rfl) ?_
  intro p e s m args below meth c X hr hlk ht
  refine gd_aload_n (pc := 0) X 2 dL_appendCharacter_0 rfl ?_
  refine gd_iconst (pc := 1) X (0) dL_appendCharacter_1 (by decide) ?_
  refine gd_aload_n (pc := 2) X 0 dL_appendCharacter_2 rfl ?_
  refine gd_iload_n (pc := 3) X 1 dL_appendCharacter_3 rfl ?_
  obtain ⟨hk1, h⟩ := h
  refine gd_callVX (pc := 4) (As := [.int a1]) (rest := [.int 0, rf a2]) X (ct_X5_appendCharacter l hfl G S a0 a1 _ _ h) mw_X5_appendCharacter tw_895 ci5 rfl hk1 ⟨(Nat.le_of_ble_eq_true rfl), (Nat.le_of_ble_eq_true rfl)⟩ rfl rfl (Nat.le_of_ble_eq_true rfl) dL_appendCharacter_4 ⟨Nat.le_of_ble_eq_true rfl, Nat.le_of_ble_eq_true rfl⟩ (kI (fun r3 S2 h => ?_)) (fun Ex S9 hE hx H1 locs1 la q ce h1 h2 h3 h4 h5 h6 => ?_)
  · refine gd_wide (k2 := 1) (j2 := 6) (Nat.le_of_ble_eq_true rfl) (Nat.le_of_ble_eq_true rfl) ?_
    refine gd_i2l (pc := 7) X dL_appendCharacter_7 ?_
    obtain ⟨hk4, h⟩ := h
    obtain ⟨hi5, h⟩ := h
    refine gd_last (pc := 8) X dL_appendCharacter_8 hk4 hi5 ?_
    refine gd_topS (fun S6 hS6 => ?_)
    have h := h S6 hS6
    have hk7 : kT S6 a2 = 15 := by rw [hS6]; exact hk4
    refine gd_goto (pc := 9) X 18 dL_appendCharacter_9 (by decide) ?_
    refine gd_iconst (pc := 18) X (0) dL_appendCharacter_18 (by decide) ?_
    exact gd_x (gd_ret_i (pc := 19) X hr hlk rfl (by decide) (by decide) dL_appendCharacter_19 ⟨_, rfl, h⟩)
  · rcases hx with ⟨rfl, hx⟩ | ⟨rfl, hx⟩
    · refine gd_catch (i := 3) (hp := 12) (len := 1) X [] ⟨0, 9, 12, 13⟩ [⟨0, 9, 15, 15⟩] ht (fun z hz => by cases hz) rfl (by decide) tw_225 (by decide) (by decide) rfl (@fun H locs _ _ _ hE9 hk9 => lv_astore_n X.1 X.2.1 dL_appendCharacter_12 rfl h3 (by decide) hE9 hk9) h1 h2 h4 h5 h6 ?_
      refine gd_wide (k2 := 1) (j2 := 6) (Nat.le_of_ble_eq_true rfl) (Nat.le_of_ble_eq_true rfl) ?_
      refine gd_iconst (pc := 13) X 1 dL_appendCharacter_13 (by decide) ?_
      exact gd_x (gd_ret_i (pc := 14) X hr hlk rfl (by decide) (by decide) dL_appendCharacter_14 ⟨_, rfl, hx⟩)
    · refine gd_catch (i := 3) (hp := 15) (len := 1) X [⟨0, 9, 12, 13⟩] ⟨0, 9, 15, 15⟩ [] ht (fun z hz => by simp only [List.mem_cons, List.not_mem_nil, or_false] at hz; rcases hz with rfl <;> first | exact ⟨by decide, "java/lang/IllegalArgumentException", by decide, tw_225, by decide⟩) rfl (by decide) tw_226 (by decide) (by decide) rfl (@fun H locs _ _ _ hE9 hk9 => lv_astore_n X.1 X.2.1 dL_appendCharacter_15 rfl h3 (by decide) hE9 hk9) h1 h2 h4 h5 h6 ?_
      refine gd_wide (k2 := 1) (j2 := 6) (Nat.le_of_ble_eq_true rfl) (Nat.le_of_ble_eq_true rfl) ?_
      refine gd_iconst (pc := 16) X 2 dL_appendCharacter_16 (by decide) ?_
      exact gd_x (gd_ret_i (pc := 17) X hr hlk rfl (by decide) (by decide) dL_appendCharacter_17 ⟨_, rfl, hx⟩)
abbrev rm_L_runScript : Room := { frames := 8, cells := 36, slots := 292, locals := 188 }
def w_L_runScript (S : MS) (a0 : Nat) (a1 : Nat) (post : Int32 → MS → Prop) : Prop := kT S a0 = 6 ∧ w_X5_runScript S a0 (fun r3 S2 => kT S2 a1 = 15 ∧ vp_in 0 (kL S2 a1) ∧ ∀ S6 : MS, S6 = pL S2 a1 (ix 0) r3.toInt64 → post 0 S6) (fun Ex S9 => (Ex = "java/lang/IllegalArgumentException" ∧ post 1 S9) ∨ (Ex = "java/lang/IllegalStateException" ∧ post 2 S9))
set_option maxHeartbeats 4000000 in
set_option maxRecDepth 100000 in
theorem ct_L_runScript (l : Launch) (hfl : l.stackTraces = false) (G : GP) (S : MS) (a0 : Nat) (a1 : Nat) (post : Int32 → MS → Prop) (h : w_L_runScript S a0 a1 post) : MetW l yL_runScript cL_runScript 3 (some .int) [(0, 8, 11, 13), (0, 8, 14, 15)] rm_L_runScript [rf a0, rf a1] G S (pI_ post) := by
  refine metW_of (by decide) (cat1_r (cat1_r cat1_n)) (Nat.le_of_ble_eq_true rfl) ?_
  intro p e s m args below meth c X hr hlk ht
  refine gd_aload_n (pc := 0) X 1 dL_runScript_0 rfl ?_
  refine gd_iconst (pc := 1) X (0) dL_runScript_1 (by decide) ?_
  refine gd_aload_n (pc := 2) X 0 dL_runScript_2 rfl ?_
  obtain ⟨hk1, h⟩ := h
  refine gd_callVX (pc := 3) (As := []) (rest := [.int 0, rf a1]) X (ct_X5_runScript l hfl G S a0 _ _ h) mw_X5_runScript tw_908 ci5 rfl hk1 ⟨(Nat.le_of_ble_eq_true rfl), (Nat.le_of_ble_eq_true rfl)⟩ rfl rfl (Nat.le_of_ble_eq_true rfl) dL_runScript_3 ⟨Nat.le_of_ble_eq_true rfl, Nat.le_of_ble_eq_true rfl⟩ (kI (fun r3 S2 h => ?_)) (fun Ex S9 hE hx H1 locs1 la q ce h1 h2 h3 h4 h5 h6 => ?_)
  · refine gd_wide (k2 := 36) (j2 := 292) (Nat.le_of_ble_eq_true rfl) (Nat.le_of_ble_eq_true rfl) ?_
    refine gd_i2l (pc := 6) X dL_runScript_6 ?_
    obtain ⟨hk4, h⟩ := h
    obtain ⟨hi5, h⟩ := h
    refine gd_last (pc := 7) X dL_runScript_7 hk4 hi5 ?_
    refine gd_topS (fun S6 hS6 => ?_)
    have h := h S6 hS6
    have hk7 : kT S6 a1 = 15 := by rw [hS6]; exact hk4
    refine gd_goto (pc := 8) X 17 dL_runScript_8 (by decide) ?_
    refine gd_iconst (pc := 17) X (0) dL_runScript_17 (by decide) ?_
    exact gd_x (gd_ret_i (pc := 18) X hr hlk rfl (by decide) (by decide) dL_runScript_18 ⟨_, rfl, h⟩)
  · rcases hx with ⟨rfl, hx⟩ | ⟨rfl, hx⟩
    · refine gd_catch (i := 2) (hp := 11) (len := 1) X [] ⟨0, 8, 11, 13⟩ [⟨0, 8, 14, 15⟩] ht (fun z hz => by cases hz) rfl (by decide) tw_225 (by decide) (by decide) rfl (@fun H locs _ _ _ hE9 hk9 => lv_astore_n X.1 X.2.1 dL_runScript_11 rfl h3 (by decide) hE9 hk9) h1 h2 h4 h5 h6 ?_
      refine gd_wide (k2 := 36) (j2 := 292) (Nat.le_of_ble_eq_true rfl) (Nat.le_of_ble_eq_true rfl) ?_
      refine gd_iconst (pc := 12) X 1 dL_runScript_12 (by decide) ?_
      exact gd_x (gd_ret_i (pc := 13) X hr hlk rfl (by decide) (by decide) dL_runScript_13 ⟨_, rfl, hx⟩)
    · refine gd_catch (i := 2) (hp := 14) (len := 1) X [⟨0, 8, 11, 13⟩] ⟨0, 8, 14, 15⟩ [] ht (fun z hz => by simp only [List.mem_cons, List.not_mem_nil, or_false] at hz; rcases hz with rfl <;> first | exact ⟨by decide, "java/lang/IllegalArgumentException", by decide, tw_225, by decide⟩) rfl (by decide) tw_226 (by decide) (by decide) rfl (@fun H locs _ _ _ hE9 hk9 => lv_astore_n X.1 X.2.1 dL_runScript_14 rfl h3 (by decide) hE9 hk9) h1 h2 h4 h5 h6 ?_
      refine gd_wide (k2 := 36) (j2 := 292) (Nat.le_of_ble_eq_true rfl) (Nat.le_of_ble_eq_true rfl) ?_
      refine gd_iconst (pc := 15) X 2 dL_runScript_15 (by decide) ?_
      exact gd_x (gd_ret_i (pc := 16) X hr hlk rfl (by decide) (by decide) dL_runScript_16 ⟨_, rfl, hx⟩)
