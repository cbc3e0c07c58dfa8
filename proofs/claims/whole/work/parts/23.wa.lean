abbrev rm_L_configure : Room := { frames := 7, cells := 1, slots := 6, locals := 123 }
def w_L_configure (S : MS) (a0 : Nat) (a1 : Int32) (a2 : Int32) (a3 : Int32) (post : Int32 → MS → Prop) : Prop := kT S a0 = 6 ∧ w_X5_configure S a0 a1 a2 a3 (fun S2 => post 0 S2) (fun Ex S9 => (Ex = "java/lang/IllegalArgumentException" ∧ post 1 S9) ∨ (Ex = "java/lang/IllegalStateException" ∧ post 2 S9))
set_option maxHeartbeats 4000000 in
set_option maxRecDepth 100000 in
theorem ct_L_configure (l : Launch) (hfl : l.stackTraces = false) (G : GP) (S : MS) (a0 : Nat) (a1 : Int32) (a2 : Int32) (a3 : Int32) (post : Int32 → MS → Prop) (h : w_L_configure S a0 a1 a2 a3 post) : MetW l yL_configure cL_configure 5 (some .int) [(0, 7, 10, 13), (0, 7, 14, 15)] rm_L_configure [rf a0, .int a1, .int a2, .int a3] G S (pI_ post) := by
  refine metW_of (by decide) (cat1_r (cat1_i (cat1_i (cat1_i cat1_n)))) (Nat.le_of_ble_eq_true rfl) ?_
  intro p e s m args below meth c X hr hlk ht
  refine gd_aload_n (pc := 0) X 0 dL_configure_0 rfl ?_
  refine gd_iload_n (pc := 1) X 1 dL_configure_1 rfl ?_
  refine gd_iload_n (pc := 2) X 2 dL_configure_2 rfl ?_
  refine gd_iload_n (pc := 3) X 3 dL_configure_3 rfl ?_
  obtain ⟨hk1, h⟩ := h
  refine gd_callVX (pc := 4) (As := [.int a1, .int a2, .int a3]) (rest := []) X (ct_X5_configure l hfl G S a0 a1 a2 a3 _ _ h) mw_X5_configure tw_227 ci5 rfl hk1 ⟨(Nat.le_of_ble_eq_true rfl), (Nat.le_of_ble_eq_true rfl)⟩ rfl rfl (Nat.le_of_ble_eq_true rfl) dL_configure_4 ⟨Nat.le_of_ble_eq_true rfl, Nat.le_of_ble_eq_true rfl⟩ (kV (fun S2 h => ?_)) (fun Ex S9 hE hx H1 locs1 la q ce h1 h2 h3 h4 h5 h6 => ?_)
  · refine gd_wide (k2 := 1) (j2 := 6) (Nat.le_of_ble_eq_true rfl) (Nat.le_of_ble_eq_true rfl) ?_
    refine gd_goto (pc := 7) X 18 dL_configure_7 (by decide) ?_
    refine gd_iconst (pc := 18) X (0) dL_configure_18 (by decide) ?_
    exact gd_x (gd_ret_i (pc := 19) X hr hlk rfl (by decide) (by decide) dL_configure_19 ⟨_, rfl, h⟩)
  · rcases hx with ⟨rfl, hx⟩ | ⟨rfl, hx⟩
    · refine gd_catch (i := 4) (hp := 10) (len := 2) X [] ⟨0, 7, 10, 13⟩ [⟨0, 7, 14, 15⟩] ht (fun z hz => by cases hz) rfl (by decide) tw_225 (by decide) (by decide) rfl (@fun H locs _ _ _ hE9 hk9 => lv_astore X.1 X.2.1 dL_configure_10 h3 (by decide) hE9 hk9) h1 h2 h4 h5 h6 ?_
      refine gd_wide (k2 := 1) (j2 := 6) (Nat.le_of_ble_eq_true rfl) (Nat.le_of_ble_eq_true rfl) ?_
      refine gd_iconst (pc := 12) X 1 dL_configure_12 (by decide) ?_
      exact gd_x (gd_ret_i (pc := 13) X hr hlk rfl (by decide) (by decide) dL_configure_13 ⟨_, rfl, hx⟩)
    · refine gd_catch (i := 4) (hp := 14) (len := 2) X [⟨0, 7, 10, 13⟩] ⟨0, 7, 14, 15⟩ [] ht (fun z hz => by simp only [List.mem_cons, List.not_mem_nil, or_false] at hz; rcases hz with rfl <;> first | exact ⟨by decide, "java/lang/IllegalArgumentException", by decide, tw_225, by decide⟩) rfl (by decide) tw_226 (by decide) (by decide) rfl (@fun H locs _ _ _ hE9 hk9 => lv_astore X.1 X.2.1 dL_configure_14 h3 (by decide) hE9 hk9) h1 h2 h4 h5 h6 ?_
      refine gd_wide (k2 := 1) (j2 := 6) (Nat.le_of_ble_eq_true rfl) (Nat.le_of_ble_eq_true rfl) ?_
      refine gd_iconst (pc := 16) X 2 dL_configure_16 (by decide) ?_
      exact gd_x (gd_ret_i (pc := 17) X hr hlk rfl (by decide) (by decide) dL_configure_17 ⟨_, rfl, hx⟩)
abbrev rm_L_begin : Room := { frames := 7, cells := 4, slots := 100, locals := 120 }
def w_L_begin (S : MS) (a0 : Nat) (a1 : Nat) (post : Int32 → MS → Prop) : Prop := kT S a0 = 6 ∧ w_X5_begin S a0 (fun r3 S2 => kT S2 a1 = 15 ∧ vp_in 0 (kL S2 a1) ∧ ∀ S6 : MS, S6 = pL S2 a1 (ix 0) r3.toInt64 → post 0 S6) (fun Ex S9 => (Ex = "java/lang/IllegalStateException" ∧ post 1 S9))
set_option maxHeartbeats 4000000 in
set_option maxRecDepth 100000 in
theorem ct_L_begin (l : Launch) (hfl : l.stackTraces = false) (G : GP) (S : MS) (a0 : Nat) (a1 : Nat) (post : Int32 → MS → Prop) (h : w_L_begin S a0 a1 post) : MetW l yL_begin cL_begin 3 (some .int) [(0, 8, 11, 15)] rm_L_begin [rf a0, rf a1] G S (pI_ post) := by
  refine metW_of (by decide) (cat1_r (cat1_r cat1_n)) (Nat.le_of_ble_eq_true rfl) ?_
  intro p e s m args below meth c X hr hlk ht
  refine gd_aload_n (pc := 0) X 1 dL_begin_0 rfl ?_
  refine gd_iconst (pc := 1) X (0) dL_begin_1 (by decide) ?_
  refine gd_aload_n (pc := 2) X 0 dL_begin_2 rfl ?_
  obtain ⟨hk1, h⟩ := h
  refine gd_callVX (pc := 3) (As := []) (rest := [.int 0, rf a1]) X (ct_X5_begin l hfl G S a0 _ _ h) mw_X5_begin tw_324 ci5 rfl hk1 ⟨(Nat.le_of_ble_eq_true rfl), (Nat.le_of_ble_eq_true rfl)⟩ rfl rfl (Nat.le_of_ble_eq_true rfl) dL_begin_3 ⟨Nat.le_of_ble_eq_true rfl, Nat.le_of_ble_eq_true rfl⟩ (kI (fun r3 S2 h => ?_)) (fun Ex S9 hE hx H1 locs1 la q ce h1 h2 h3 h4 h5 h6 => ?_)
  · refine gd_wide (k2 := 4) (j2 := 100) (Nat.le_of_ble_eq_true rfl) (Nat.le_of_ble_eq_true rfl) ?_
    refine gd_i2l (pc := 6) X dL_begin_6 ?_
    obtain ⟨hk4, h⟩ := h
    obtain ⟨hi5, h⟩ := h
    refine gd_last (pc := 7) X dL_begin_7 hk4 hi5 ?_
    refine gd_topS (fun S6 hS6 => ?_)
    have h := h S6 hS6
    have hk7 : kT S6 a1 = 15 := by rw [hS6]; exact hk4
    refine gd_goto (pc := 8) X 14 dL_begin_8 (by decide) ?_
    refine gd_iconst (pc := 14) X (0) dL_begin_14 (by decide) ?_
    exact gd_x (gd_ret_i (pc := 15) X hr hlk rfl (by decide) (by decide) dL_begin_15 ⟨_, rfl, h⟩)
  · rcases hx with ⟨rfl, hx⟩
    · refine gd_catch (i := 2) (hp := 11) (len := 1) X [] ⟨0, 8, 11, 15⟩ [] ht (fun z hz => by cases hz) rfl (by decide) tw_226 (by decide) (by decide) rfl (@fun H locs _ _ _ hE9 hk9 => lv_astore_n X.1 X.2.1 dL_begin_11 rfl h3 (by decide) hE9 hk9) h1 h2 h4 h5 h6 ?_
      refine gd_wide (k2 := 4) (j2 := 100) (Nat.le_of_ble_eq_true rfl) (Nat.le_of_ble_eq_true rfl) ?_
      refine gd_iconst (pc := 12) X 1 dL_begin_12 (by decide) ?_
      exact gd_x (gd_ret_i (pc := 13) X hr hlk rfl (by decide) (by decide) dL_begin_13 ⟨_, rfl, hx⟩)
abbrev rm_L_retry : Room := { frames := 8, cells := 5, slots := 106, locals := 144 }
def w_L_retry (S : MS) (a0 : Nat) (a1 : Int32) (a2 : Nat) (post : Int32 → MS → Prop) : Prop := kT S a0 = 6 ∧ w_X5_retry S a0 a1 (fun r3 S2 => kT S2 a2 = 15 ∧ vp_in 0 (kL S2 a2) ∧ ∀ S6 : MS, S6 = pL S2 a2 (ix 0) r3.toInt64 → post 0 S6) (fun Ex S9 => (Ex = "java/lang/IndexOutOfBoundsException" ∧ post 1 S9) ∨ (Ex = "java/lang/IllegalStateException" ∧ post 2 S9))
set_option maxHeartbeats 4000000 in
set_option maxRecDepth 100000 in
theorem ct_L_retry (l : Launch) (hfl : l.stackTraces = false) (G : GP) (S : MS) (a0 : Nat) (a1 : Int32) (a2 : Nat) (post : Int32 → MS → Prop) (h : w_L_retry S a0 a1 a2 post) : MetW l yL_retry cL_retry 4 (some .int) [(0, 9, 12, 25), (0, 9, 15, 15)] rm_L_retry [rf a0, .int a1, rf a2] G S (pI_ post) := by
  refine metW_of (by decide) (cat1_r (cat1_i (cat1_r cat1_n))) (Nat.le_of_ble_eq_true rfl) ?_
  intro p e s m args below meth c X hr hlk ht
  refine gd_aload_n (pc := 0) X 2 dL_retry_0 rfl ?_
  refine gd_iconst (pc := 1) X (0) dL_retry_1 (by decide) ?_
  refine gd_aload_n (pc := 2) X 0 dL_retry_2 rfl ?_
  refine gd_iload_n (pc := 3) X 1 dL_retry_3 rfl ?_
  obtain ⟨hk1, h⟩ := h
  refine gd_callVX (pc := 4) (As := [.int a1]) (rest := [.int 0, rf a2]) X (ct_X5_retry l hfl G S a0 a1 _ _ h) mw_X5_retry tw_422 ci5 rfl hk1 ⟨(Nat.le_of_ble_eq_true rfl), (Nat.le_of_ble_eq_true rfl)⟩ rfl rfl (Nat.le_of_ble_eq_true rfl) dL_retry_4 ⟨Nat.le_of_ble_eq_true rfl, Nat.le_of_ble_eq_true rfl⟩ (kI (fun r3 S2 h => ?_)) (fun Ex S9 hE hx H1 locs1 la q ce h1 h2 h3 h4 h5 h6 => ?_)
  · refine gd_wide (k2 := 5) (j2 := 106) (Nat.le_of_ble_eq_true rfl) (Nat.le_of_ble_eq_true rfl) ?_
    refine gd_i2l (pc := 7) X dL_retry_7 ?_
    obtain ⟨hk4, h⟩ := h
    obtain ⟨hi5, h⟩ := h
    refine gd_last (pc := 8) X dL_retry_8 hk4 hi5 ?_
    refine gd_topS (fun S6 hS6 => ?_)
    have h := h S6 hS6
    have hk7 : kT S6 a2 = 15 := by rw [hS6]; exact hk4
    refine gd_goto (pc := 9) X 18 dL_retry_9 (by decide) ?_
    refine gd_iconst (pc := 18) X (0) dL_retry_18 (by decide) ?_
    exact gd_x (gd_ret_i (pc := 19) X hr hlk rfl (by decide) (by decide) dL_retry_19 ⟨_, rfl, h⟩)
  · rcases hx with ⟨rfl, hx⟩ | ⟨rfl, hx⟩
    · refine gd_catch (i := 3) (hp := 12) (len := 1) X [] ⟨0, 9, 12, 25⟩ [⟨0, 9, 15, 15⟩] ht (fun z hz => by cases hz) rfl (by decide) tw_398 (by decide) (by decide) rfl (@fun H locs _ _ _ hE9 hk9 => lv_astore_n X.1 X.2.1 dL_retry_12 rfl h3 (by decide) hE9 hk9) h1 h2 h4 h5 h6 ?_
      refine gd_wide (k2 := 5) (j2 := 106) (Nat.le_of_ble_eq_true rfl) (Nat.le_of_ble_eq_true rfl) ?_
      refine gd_iconst (pc := 13) X 1 dL_retry_13 (by decide) ?_
      exact gd_x (gd_ret_i (pc := 14) X hr hlk rfl (by decide) (by decide) dL_retry_14 ⟨_, rfl, hx⟩)
    · refine gd_catch (i := 3) (hp := 15) (len := 1) X [⟨0, 9, 12, 25⟩] ⟨0, 9, 15, 15⟩ [] ht (fun z hz => by simp only [List.mem_cons, List.not_mem_nil, or_false] at hz; rcases hz with rfl <;> first | exact ⟨by decide, "java/lang/IndexOutOfBoundsException", by decide, tw_398, by decide⟩) rfl (by decide) tw_226 (by decide) (by decide) rfl (@fun H locs _ _ _ hE9 hk9 => lv_astore_n X.1 X.2.1 dL_retry_15 rfl h3 (by decide) hE9 hk9) h1 h2 h4 h5 h6 ?_
      refine gd_wide (k2 := 5) (j2 := 106) (Nat.le_of_ble_eq_true rfl) (Nat.le_of_ble_eq_true rfl) ?_
      refine gd_iconst (pc := 16) X 2 dL_retry_16 (by decide) ?_
      exact gd_x (gd_ret_i (pc := 17) X hr hlk rfl (by decide) (by decide) dL_retry_17 ⟨_, rfl, hx⟩)
abbrev rm_L_read : Room := { frames := 9, cells := 3, slots := 18, locals := 189 }
def w_L_read (S : MS) (a0 : Nat) (a1 : Int32) (a2 : Int32) (a3 : Nat) (post : Int32 → MS → Prop) : Prop := kT S a0 = 6 ∧ w_X5_read S a0 a1 a2 (fun r3 S2 => kT S2 a3 = 15 ∧ vp_in 0 (kL S2 a3) ∧ ∀ S6 : MS, S6 = pL S2 a3 (ix 0) r3.toInt64 → post 0 S6) (fun Ex S9 => (Ex = "java/lang/IndexOutOfBoundsException" ∧ post 1 S9) ∨ (Ex = "java/lang/IllegalArgumentException" ∧ post 2 S9) ∨ (Ex = "java/lang/IllegalStateException" ∧ post 3 S9))
set_option maxHeartbeats 4000000 in
set_option maxRecDepth 100000 in
theorem ct_L_read (l : Launch) (hfl : l.stackTraces = false) (G : GP) (S : MS) (a0 : Nat) (a1 : Int32) (a2 : Int32) (a3 : Nat) (post : Int32 → MS → Prop) (h : w_L_read S a0 a1 a2 a3 post) : MetW l yL_read cL_read 5 (some .int) [(0, 10, 13, 25), (0, 10, 17, 13), (0, 10, 21, 15)] rm_L_read [rf a0, .int a1, .int a2, rf a3] G S (pI_ post) := by
  refine metW_of (by decide) (cat1_r (cat1_i (cat1_i (cat1_r cat1_n)))) (Nat.le_of_ble_eq_true rfl) ?_
  intro p e s m args below meth c X hr hlk ht
  refine gd_aload_n (pc := 0) X 3 dL_read_0 rfl ?_
  refine gd_iconst (pc := 1) X (0) dL_read_1 (by decide) ?_
  refine gd_aload_n (pc := 2) X 0 dL_read_2 rfl ?_
  refine gd_iload_n (pc := 3) X 1 dL_read_3 rfl ?_
  refine gd_iload_n (pc := 4) X 2 dL_read_4 rfl ?_
  obtain ⟨hk1, h⟩ := h
  refine gd_callVX (pc := 5) (As := [.int a1, .int a2]) (rest := [.int 0, rf a3]) X (ct_X5_read l hfl G S a0 a1 a2 _ _ h) mw_X5_read tw_447 ci5 rfl hk1 ⟨(Nat.le_of_ble_eq_true rfl), (Nat.le_of_ble_eq_true rfl)⟩ rfl rfl (Nat.le_of_ble_eq_true rfl) dL_read_5 ⟨Nat.le_of_ble_eq_true rfl, Nat.le_of_ble_eq_true rfl⟩ (kI (fun r3 S2 h => ?_)) (fun Ex S9 hE hx H1 locs1 la q ce h1 h2 h3 h4 h5 h6 => ?_)
  · refine gd_wide (k2 := 3) (j2 := 18) (Nat.le_of_ble_eq_true rfl) (Nat.le_of_ble_eq_true rfl) ?_
    refine gd_i2l (pc := 8) X dL_read_8 ?_
    obtain ⟨hk4, h⟩ := h
    obtain ⟨hi5, h⟩ := h
    refine gd_last (pc := 9) X dL_read_9 hk4 hi5 ?_
    refine gd_topS (fun S6 hS6 => ?_)
    have h := h S6 hS6
    have hk7 : kT S6 a3 = 15 := by rw [hS6]; exact hk4
    refine gd_goto (pc := 10) X 25 dL_read_10 (by decide) ?_
    refine gd_iconst (pc := 25) X (0) dL_read_25 (by decide) ?_
    exact gd_x (gd_ret_i (pc := 26) X hr hlk rfl (by decide) (by decide) dL_read_26 ⟨_, rfl, h⟩)
  · rcases hx with ⟨rfl, hx⟩ | ⟨rfl, hx⟩ | ⟨rfl, hx⟩
    · refine gd_catch (i := 4) (hp := 13) (len := 2) X [] ⟨0, 10, 13, 25⟩ [⟨0, 10, 17, 13⟩, ⟨0, 10, 21, 15⟩] ht (fun z hz => by cases hz) rfl (by decide) tw_398 (by decide) (by decide) rfl (@fun H locs _ _ _ hE9 hk9 => lv_astore X.1 X.2.1 dL_read_13 h3 (by decide) hE9 hk9) h1 h2 h4 h5 h6 ?_
      refine gd_wide (k2 := 3) (j2 := 18) (Nat.le_of_ble_eq_true rfl) (Nat.le_of_ble_eq_true rfl) ?_
      refine gd_iconst (pc := 15) X 1 dL_read_15 (by decide) ?_
      exact gd_x (gd_ret_i (pc := 16) X hr hlk rfl (by decide) (by decide) dL_read_16 ⟨_, rfl, hx⟩)
    · refine gd_catch (i := 4) (hp := 17) (len := 2) X [⟨0, 10, 13, 25⟩] ⟨0, 10, 17, 13⟩ [⟨0, 10, 21, 15⟩] ht (fun z hz => by simp only [List.mem_cons, List.not_mem_nil, or_false] at hz; rcases hz with rfl <;> first | exact ⟨by decide, "java/lang/IndexOutOfBoundsException", by decide, tw_398, by decide⟩) rfl (by decide) tw_225 (by decide) (by decide) rfl (@fun H locs _ _ _ hE9 hk9 => lv_astore X.1 X.2.1 dL_read_17 h3 (by decide) hE9 hk9) h1 h2 h4 h5 h6 ?_
      refine gd_wide (k2 := 3) (j2 := 18) (Nat.le_of_ble_eq_true rfl) (Nat.le_of_ble_eq_true rfl) ?_
      refine gd_iconst (pc := 19) X 2 dL_read_19 (by decide) ?_
      exact gd_x (gd_ret_i (pc := 20) X hr hlk rfl (by decide) (by decide) dL_read_20 ⟨_, rfl, hx⟩)
    · refine gd_catch (i := 4) (hp := 21) (len := 2) X [⟨0, 10, 13, 25⟩, ⟨0, 10, 17, 13⟩] ⟨0, 10, 21, 15⟩ [] ht (fun z hz => by simp only [List.mem_cons, List.not_mem_nil, or_false] at hz; rcases hz with rfl | rfl <;> first | exact ⟨by decide, "java/lang/IndexOutOfBoundsException", by decide, tw_398, by decide⟩ | exact ⟨by decide, "java/lang/IllegalArgumentException", by decide, tw_225, by decide⟩) rfl (by decide) tw_226 (by decide) (by decide) rfl (@fun H locs _ _ _ hE9 hk9 => lv_astore X.1 X.2.1 dL_read_21 h3 (by decide) hE9 hk9) h1 h2 h4 h5 h6 ?_
      refine gd_wide (k2 := 3) (j2 := 18) (Nat.le_of_ble_eq_true rfl) (Nat.le_of_ble_eq_true rfl) ?_
      refine gd_iconst (pc := 23) X 3 dL_read_23 (by decide) ?_
      exact gd_x (gd_ret_i (pc := 24) X hr hlk rfl (by decide) (by decide) dL_read_24 ⟨_, rfl, hx⟩)
abbrev rm_L_scan : Room := { frames := 9, cells := 3, slots := 18, locals := 191 }
def w_L_scan (S : MS) (a0 : Nat) (a1 : Int32) (a2 : Int32) (a3 : Int32) (a4 : Int32) (a5 : Nat) (post : Int32 → MS → Prop) : Prop := kT S a0 = 6 ∧ w_X5_scan S a0 a1 a2 a3 a4 (fun r3 S2 => kT S2 a5 = 15 ∧ vp_in 0 (kL S2 a5) ∧ ∀ S6 : MS, S6 = pL S2 a5 (ix 0) r3.toInt64 → post 0 S6) (fun Ex S9 => (Ex = "java/lang/IndexOutOfBoundsException" ∧ post 1 S9) ∨ (Ex = "java/lang/IllegalArgumentException" ∧ post 2 S9) ∨ (Ex = "java/lang/IllegalStateException" ∧ post 3 S9))
set_option maxHeartbeats 4000000 in
set_option maxRecDepth 100000 in
theorem ct_L_scan (l : Launch) (hfl : l.stackTraces = false) (G : GP) (S : MS) (a0 : Nat) (a1 : Int32) (a2 : Int32) (a3 : Int32) (a4 : Int32) (a5 : Nat) (post : Int32 → MS → Prop) (h : w_L_scan S a0 a1 a2 a3 a4 a5 post) : MetW l yL_scan cL_scan 7 (some .int) [(0, 14, 17, 25), (0, 14, 21, 13), (0, 14, 25, 15)] rm_L_scan [rf a0, .int a1, .int a2, .int a3, .int a4, rf a5] G S (pI_ post) := by
  refine metW_of (by decide) (cat1_r (cat1_i (cat1_i (cat1_i (cat1_i (cat1_r cat1_n)))))) (Nat.le_of_ble_eq_true rfl) ?_
  intro p e s m args below meth c X hr hlk ht
  refine gd_aload (pc := 0) X 5 dL_scan_0 rfl ?_
  refine gd_iconst (pc := 2) X (0) dL_scan_2 (by decide) ?_
  refine gd_aload_n (pc := 3) X 0 dL_scan_3 rfl ?_
  refine gd_iload_n (pc := 4) X 1 dL_scan_4 rfl ?_
  refine gd_iload_n (pc := 5) X 2 dL_scan_5 rfl ?_
  refine gd_iload_n (pc := 6) X 3 dL_scan_6 rfl ?_
  refine gd_iload (pc := 7) X 4 dL_scan_7 rfl ?_
  obtain ⟨hk1, h⟩ := h
  refine gd_callVX (pc := 9) (As := [.int a1, .int a2, .int a3, .int a4]) (rest := [.int 0, rf a5]) X (ct_X5_scan l hfl G S a0 a1 a2 a3 a4 _ _ h) mw_X5_scan tw_552 ci5 rfl hk1 ⟨(Nat.le_of_ble_eq_true rfl), (Nat.le_of_ble_eq_true rfl)⟩ rfl rfl (Nat.le_of_ble_eq_true rfl) dL_scan_9 ⟨Nat.le_of_ble_eq_true rfl, Nat.le_of_ble_eq_true rfl⟩ (kI (fun r3 S2 h => ?_)) (fun Ex S9 hE hx H1 locs1 la q ce h1 h2 h3 h4 h5 h6 => ?_)
  · refine gd_wide (k2 := 3) (j2 := 18) (Nat.le_of_ble_eq_true rfl) (Nat.le_of_ble_eq_true rfl) ?_
    refine gd_i2l (pc := 12) X dL_scan_12 ?_
    obtain ⟨hk4, h⟩ := h
    obtain ⟨hi5, h⟩ := h
    refine gd_last (pc := 13) X dL_scan_13 hk4 hi5 ?_
    refine gd_topS (fun S6 hS6 => ?_)
    have h := h S6 hS6
    have hk7 : kT S6 a5 = 15 := by rw [hS6]; exact hk4
    refine gd_goto (pc := 14) X 29 dL_scan_14 (by decide) ?_
    refine gd_iconst (pc := 29) X (0) dL_scan_29 (by decide) ?_
    exact gd_x (gd_ret_i (pc := 30) X hr hlk rfl (by decide) (by decide) dL_scan_30 ⟨_, rfl, h⟩)
  · rcases hx with ⟨rfl, hx⟩ | ⟨rfl, hx⟩ | ⟨rfl, hx⟩
    · refine gd_catch (i := 6) (hp := 17) (len := 2) X [] ⟨0, 14, 17, 25⟩ [⟨0, 14, 21, 13⟩, ⟨0, 14, 25, 15⟩] ht (fun z hz => by cases hz) rfl (by decide) tw_398 (by decide) (by decide) rfl (@fun H locs _ _ _ hE9 hk9 => lv_astore X.1 X.2.1 dL_scan_17 h3 (by decide) hE9 hk9) h1 h2 h4 h5 h6 ?_
      refine gd_wide (k2 := 3) (j2 := 18) (Nat.le_of_ble_eq_true rfl) (Nat.le_of_ble_eq_true rfl) ?_
      refine gd_iconst (pc := 19) X 1 dL_scan_19 (by decide) ?_
      exact gd_x (gd_ret_i (pc := 20) X hr hlk rfl (by decide) (by decide) dL_scan_20 ⟨_, rfl, hx⟩)
    · refine gd_catch (i := 6) (hp := 21) (len := 2) X [⟨0, 14, 17, 25⟩] ⟨0, 14, 21, 13⟩ [⟨0, 14, 25, 15⟩] ht (fun z hz => by simp only [List.mem_cons, List.not_mem_nil, or_false] at hz; rcases hz with rfl <;> first | exact ⟨by decide, "java/lang/IndexOutOfBoundsException", by decide, tw_398, by decide⟩) rfl (by decide) tw_225 (by decide) (by decide) rfl (@fun H locs _ _ _ hE9 hk9 => lv_astore X.1 X.2.1 dL_scan_21 h3 (by decide) hE9 hk9) h1 h2 h4 h5 h6 ?_
      refine gd_wide (k2 := 3) (j2 := 18) (Nat.le_of_ble_eq_true rfl) (Nat.le_of_ble_eq_true rfl) ?_
      refine gd_iconst (pc := 23) X 2 dL_scan_23 (by decide) ?_
      exact gd_x (gd_ret_i (pc := 24) X hr hlk rfl (by decide) (by decide) dL_scan_24 ⟨_, rfl, hx⟩)
    · refine gd_catch (i := 6) (hp := 25) (len := 2) X [⟨0, 14, 17, 25⟩, ⟨0, 14, 21, 13⟩] ⟨0, 14, 25, 15⟩ [] ht (fun z hz => by simp only [List.mem_cons, List.not_mem_nil, or_false] at hz; rcases hz with rfl | rfl <;> first | exact ⟨by decide, "java/lang/IndexOutOfBoundsException", by decide, tw_398, by decide⟩ | exact ⟨by decide, "java/lang/IllegalArgumentException", by decide, tw_225, by decide⟩) rfl (by decide) tw_226 (by decide) (by decide) rfl (@fun H locs _ _ _ hE9 hk9 => lv_astore X.1 X.2.1 dL_scan_25 h3 (by decide) hE9 hk9) h1 h2 h4 h5 h6 ?_
      refine gd_wide (k2 := 3) (j2 := 18) (Nat.le_of_ble_eq_true rfl) (Nat.le_of_ble_eq_true rfl) ?_
      refine gd_iconst (pc := 27) X 3 dL_scan_27 (by decide) ?_
      exact gd_x (gd_ret_i (pc := 28) X hr hlk rfl (by decide) (by decide) dL_scan_28 ⟨_, rfl, hx⟩)
abbrev rm_L_sum : Room := { frames := 9, cells := 3, slots := 18, locals := 190 }
def w_L_sum (S : MS) (a0 : Nat) (a1 : Int32) (a2 : Int32) (a3 : Int32) (a4 : Nat) (post : Int32 → MS → Prop) : Prop := kT S a0 = 6 ∧ w_X5_sum S a0 a1 a2 a3 (fun r3 S2 => kT S2 a4 = 15 ∧ vp_in 0 (kL S2 a4) ∧ ∀ S6 : MS, S6 = pL S2 a4 (ix 0) r3.toInt64 → post 0 S6) (fun Ex S9 => (Ex = "java/lang/IndexOutOfBoundsException" ∧ post 1 S9) ∨ (Ex = "java/lang/IllegalArgumentException" ∧ post 2 S9) ∨ (Ex = "java/lang/IllegalStateException" ∧ post 3 S9))
set_option maxHeartbeats 4000000 in
set_option maxRecDepth 100000 in
theorem ct_L_sum (l : Launch) (hfl : l.stackTraces = false) (G : GP) (S : MS) (a0 : Nat) (a1 : Int32) (a2 : Int32) (a3 : Int32) (a4 : Nat) (post : Int32 → MS → Prop) (h : w_L_sum S a0 a1 a2 a3 a4 post) : MetW l yL_sum cL_sum 6 (some .int) [(0, 12, 15, 25), (0, 12, 19, 13), (0, 12, 23, 15)] rm_L_sum [rf a0, .int a1, .int a2, .int a3, rf a4] G S (pI_ post) := by
  refine metW_of (by decide) (cat1_r (cat1_i (cat1_i (cat1_i (cat1_r cat1_n))))) (Nat.le_of_ble_eq_true rfl) ?_
  intro p e s m args below meth c X hr hlk ht
  refine gd_aload (pc := 0) X 4 dL_sum_0 rfl ?_
  refine gd_iconst (pc := 2) X (0) dL_sum_2 (by decide) ?_
  refine gd_aload_n (pc := 3) X 0 dL_sum_3 rfl ?_
  refine gd_iload_n (pc := 4) X 1 dL_sum_4 rfl ?_
  refine gd_iload_n (pc := 5) X 2 dL_sum_5 rfl ?_
  refine gd_iload_n (pc := 6) X 3 dL_sum_6 rfl ?_
  obtain ⟨hk1, h⟩ := h
  refine gd_callVX (pc := 7) (As := [.int a1, .int a2, .int a3]) (rest := [.int 0, rf a4]) X (ct_X5_sum l hfl G S a0 a1 a2 a3 _ _ h) mw_X5_sum tw_559 ci5 rfl hk1 ⟨(Nat.le_of_ble_eq_true rfl), (Nat.le_of_ble_eq_true rfl)⟩ rfl rfl (Nat.le_of_ble_eq_true rfl) dL_sum_7 ⟨Nat.le_of_ble_eq_true rfl, Nat.le_of_ble_eq_true rfl⟩ (kI (fun r3 S2 h => ?_)) (fun Ex S9 hE hx H1 locs1 la q ce h1 h2 h3 h4 h5 h6 => ?_)
  · refine gd_wide (k2 := 3) (j2 := 18) (Nat.le_of_ble_eq_true rfl) (Nat.le_of_ble_eq_true rfl) ?_
    refine gd_i2l (pc := 10) X dL_sum_10 ?_
    obtain ⟨hk4, h⟩ := h
    obtain ⟨hi5, h⟩ := h
    refine gd_last (pc := 11) X dL_sum_11 hk4 hi5 ?_
    refine gd_topS (fun S6 hS6 => ?_)
    have h := h S6 hS6
    have hk7 : kT S6 a4 = 15 := by rw [hS6]; exact hk4
    refine gd_goto (pc := 12) X 27 dL_sum_12 (by decide) ?_
    refine gd_iconst (pc := 27) X (0) dL_sum_27 (by decide) ?_
    exact gd_x (gd_ret_i (pc := 28) X hr hlk rfl (by decide) (by decide) dL_sum_28 ⟨_, rfl, h⟩)
  · rcases hx with ⟨rfl, hx⟩ | ⟨rfl, hx⟩ | ⟨rfl, hx⟩
    · refine gd_catch (i := 5) (hp := 15) (len := 2) X [] ⟨0, 12, 15, 25⟩ [⟨0, 12, 19, 13⟩, ⟨0, 12, 23, 15⟩] ht (fun z hz => by cases hz) rfl (by decide) tw_398 (by decide) (by decide) rfl (@fun H locs _ _ _ hE9 hk9 => lv_astore X.1 X.2.1 dL_sum_15 h3 (by decide) hE9 hk9) h1 h2 h4 h5 h6 ?_
      refine gd_wide (k2 := 3) (j2 := 18) (Nat.le_of_ble_eq_true rfl) (Nat.le_of_ble_eq_true rfl) ?_
      refine gd_iconst (pc := 17) X 1 dL_sum_17 (by decide) ?_
      exact gd_x (gd_ret_i (pc := 18) X hr hlk rfl (by decide) (by decide) dL_sum_18 ⟨_, rfl, hx⟩)
    · refine gd_catch (i := 5) (hp := 19) (len := 2) X [⟨0, 12, 15, 25⟩] ⟨0, 12, 19, 13⟩ [⟨0, 12, 23, 15⟩] ht (fun z hz => by simp only [List.mem_cons, List.not_mem_nil, or_false] at hz; rcases hz with rfl <;> first | exact ⟨by decide, "java/lang/IndexOutOfBoundsException", by decide, tw_398, by decide⟩) rfl (by decide) tw_225 (by decide) (by decide) rfl (@fun H locs _ _ _ hE9 hk9 => lv_astore X.1 X.2.1 dL_sum_19 h3 (by decide) hE9 hk9) h1 h2 h4 h5 h6 ?_
      refine gd_wide (k2 := 3) (j2 := 18) (Nat.le_of_ble_eq_true rfl) (Nat.le_of_ble_eq_true rfl) ?_
      refine gd_iconst (pc := 21) X 2 dL_sum_21 (by decide) ?_
      exact gd_x (gd_ret_i (pc := 22) X hr hlk rfl (by decide) (by decide) dL_sum_22 ⟨_, rfl, hx⟩)
    · refine gd_catch (i := 5) (hp := 23) (len := 2) X [⟨0, 12, 15, 25⟩, ⟨0, 12, 19, 13⟩] ⟨0, 12, 23, 15⟩ [] ht (fun z hz => by simp only [List.mem_cons, List.not_mem_nil, or_false] at hz; rcases hz with rfl | rfl <;> first | exact ⟨by decide, "java/lang/IndexOutOfBoundsException", by decide, tw_398, by decide⟩ | exact ⟨by decide, "java/lang/IllegalArgumentException", by decide, tw_225, by decide⟩) rfl (by decide) tw_226 (by decide) (by decide) rfl (@fun H locs _ _ _ hE9 hk9 => lv_astore X.1 X.2.1 dL_sum_23 h3 (by decide) hE9 hk9) h1 h2 h4 h5 h6 ?_
      refine gd_wide (k2 := 3) (j2 := 18) (Nat.le_of_ble_eq_true rfl) (Nat.le_of_ble_eq_true rfl) ?_
      refine gd_iconst (pc := 25) X 3 dL_sum_25 (by decide) ?_
      exact gd_x (gd_ret_i (pc := 26) X hr hlk rfl (by decide) (by decide) dL_sum_26 ⟨_, rfl, hx⟩)
abbrev rm_L_write : Room := { frames := 9, cells := 3, slots := 18, locals := 190 }
def w_L_write (S : MS) (a0 : Nat) (a1 : Int32) (a2 : Int32) (a3 : Int32) (post : Int32 → MS → Prop) : Prop := kT S a0 = 6 ∧ w_X5_write S a0 a1 a2 a3 (fun S2 => post 0 S2) (fun Ex S9 => (Ex = "java/lang/IndexOutOfBoundsException" ∧ post 1 S9) ∨ (Ex = "java/lang/IllegalArgumentException" ∧ post 2 S9) ∨ (Ex = "java/lang/IllegalStateException" ∧ post 3 S9))
set_option maxHeartbeats 4000000 in
set_option maxRecDepth 100000 in
theorem ct_L_write (l : Launch) (hfl : l.stackTraces = false) (G : GP) (S : MS) (a0 : Nat) (a1 : Int32) (a2 : Int32) (a3 : Int32) (post : Int32 → MS → Prop) (h : w_L_write S a0 a1 a2 a3 post) : MetW l yL_write cL_write 5 (some .int) [(0, 7, 10, 25), (0, 7, 14, 13), (0, 7, 18, 15)] rm_L_write [rf a0, .int a1, .int a2, .int a3] G S (pI_ post) := by
  refine metW_of (by decide) (cat1_r (cat1_i (cat1_i (cat1_i cat1_n)))) (Nat.le_of_ble_eq_true rfl) ?_
  intro p e s m args below meth c X hr hlk ht
  refine gd_aload_n (pc := 0) X 0 dL_write_0 rfl ?_
  refine gd_iload_n (pc := 1) X 1 dL_write_1 rfl ?_
  refine gd_iload_n (pc := 2) X 2 dL_write_2 rfl ?_
  refine gd_iload_n (pc := 3) X 3 dL_write_3 rfl ?_
  obtain ⟨hk1, h⟩ := h
  refine gd_callVX (pc := 4) (As := [.int a1, .int a2, .int a3]) (rest := []) X (ct_X5_write l hfl G S a0 a1 a2 a3 _ _ h) mw_X5_write tw_566 ci5 rfl hk1 ⟨(Nat.le_of_ble_eq_true rfl), (Nat.le_of_ble_eq_true rfl)⟩ rfl rfl (Nat.le_of_ble_eq_true rfl) dL_write_4 ⟨Nat.le_of_ble_eq_true rfl, Nat.le_of_ble_eq_true rfl⟩ (kV (fun S2 h => ?_)) (fun Ex S9 hE hx H1 locs1 la q ce h1 h2 h3 h4 h5 h6 => ?_)
  · refine gd_wide (k2 := 3) (j2 := 18) (Nat.le_of_ble_eq_true rfl) (Nat.le_of_ble_eq_true rfl) ?_
    refine gd_goto (pc := 7) X 22 dL_write_7 (by decide) ?_
    refine gd_iconst (pc := 22) X (0) dL_write_22 (by decide) ?_
    exact gd_x (gd_ret_i (pc := 23) X hr hlk rfl (by decide) (by decide) dL_write_23 ⟨_, rfl, h⟩)
  · rcases hx with ⟨rfl, hx⟩ | ⟨rfl, hx⟩ | ⟨rfl, hx⟩
    · refine gd_catch (i := 4) (hp := 10) (len := 2) X [] ⟨0, 7, 10, 25⟩ [⟨0, 7, 14, 13⟩, ⟨0, 7, 18, 15⟩] ht (fun z hz => by cases hz) rfl (by decide) tw_398 (by decide) (by decide) rfl (@fun H locs _ _ _ hE9 hk9 => lv_astore X.1 X.2.1 dL_write_10 h3 (by decide) hE9 hk9) h1 h2 h4 h5 h6 ?_
      refine gd_wide (k2 := 3) (j2 := 18) (Nat.le_of_ble_eq_true rfl) (Nat.le_of_ble_eq_true rfl) ?_
      refine gd_iconst (pc := 12) X 1 dL_write_12 (by decide) ?_
      exact gd_x (gd_ret_i (pc := 13) X hr hlk rfl (by decide) (by decide) dL_write_13 ⟨_, rfl, hx⟩)
    · refine gd_catch (i := 4) (hp := 14) (len := 2) X [⟨0, 7, 10, 25⟩] ⟨0, 7, 14, 13⟩ [⟨0, 7, 18, 15⟩] ht (fun z hz => by simp only [List.mem_cons, List.not_mem_nil, or_false] at hz; rcases hz with rfl <;> first | exact ⟨by decide, "java/lang/IndexOutOfBoundsException", by decide, tw_398, by decide⟩) rfl (by decide) tw_225 (by decide) (by decide) rfl (@fun H locs _ _ _ hE9 hk9 => lv_astore X.1 X.2.1 dL_write_14 h3 (by decide) hE9 hk9) h1 h2 h4 h5 h6 ?_
      refine gd_wide (k2 := 3) (j2 := 18) (Nat.le_of_ble_eq_true rfl) (Nat.le_of_ble_eq_true rfl) ?_
      refine gd_iconst (pc := 16) X 2 dL_write_16 (by decide) ?_
      exact gd_x (gd_ret_i (pc := 17) X hr hlk rfl (by decide) (by decide) dL_write_17 ⟨_, rfl, hx⟩)
    · refine gd_catch (i := 4) (hp := 18) (len := 2) X [⟨0, 7, 10, 25⟩, ⟨0, 7, 14, 13⟩] ⟨0, 7, 18, 15⟩ [] ht (fun z hz => by simp only [List.mem_cons, List.not_mem_nil, or_false] at hz; rcases hz with rfl | rfl <;> first | exact ⟨by decide, "java/lang/IndexOutOfBoundsException", by decide, tw_398, by decide⟩ | exact ⟨by decide, "java/lang/IllegalArgumentException", by decide, tw_225, by decide⟩) rfl (by decide) tw_226 (by decide) (by decide) rfl (@fun H locs _ _ _ hE9 hk9 => lv_astore X.1 X.2.1 dL_write_18 h3 (by decide) hE9 hk9) h1 h2 h4 h5 h6 ?_
      refine gd_wide (k2 := 3) (j2 := 18) (Nat.le_of_ble_eq_true rfl) (Nat.le_of_ble_eq_true rfl) ?_
      refine gd_iconst (pc := 20) X 3 dL_write_20 (by decide) ?_
      exact gd_x (gd_ret_i (pc := 21) X hr hlk rfl (by decide) (by decide) dL_write_21 ⟨_, rfl, hx⟩)
abbrev rm_L_remove : Room := { frames := 9, cells := 3, slots := 18, locals := 189 }
def w_L_remove (S : MS) (a0 : Nat) (a1 : Int32) (a2 : Int32) (post : Int32 → MS → Prop) : Prop := kT S a0 = 6 ∧ w_X5_remove S a0 a1 a2 (fun S2 => post 0 S2) (fun Ex S9 => (Ex = "java/lang/IndexOutOfBoundsException" ∧ post 1 S9) ∨ (Ex = "java/lang/IllegalArgumentException" ∧ post 2 S9) ∨ (Ex = "java/lang/IllegalStateException" ∧ post 3 S9))
set_option maxHeartbeats 4000000 in
set_option maxRecDepth 100000 in
theorem ct_L_remove (l : Launch) (hfl : l.stackTraces = false) (G : GP) (S : MS) (a0 : Nat) (a1 : Int32) (a2 : Int32) (post : Int32 → MS → Prop) (h : w_L_remove S a0 a1 a2 post) : MetW l yL_remove cL_remove 4 (some .int) [(0, 6, 9, 25), (0, 6, 12, 13), (0, 6, 15, 15)] rm_L_remove [rf a0, .int a1, .int a2] G S (pI_ post) := by
  refine metW_of (by decide) (cat1_r (cat1_i (cat1_i cat1_n))) (Nat.le_of_ble_eq_true rfl) ?_
  intro p e s m args below meth c X hr hlk ht
  refine gd_aload_n (pc := 0) X 0 dL_remove_0 rfl ?_
  refine gd_iload_n (pc := 1) X 1 dL_remove_1 rfl ?_
  refine gd_iload_n (pc := 2) X 2 dL_remove_2 rfl ?_
  obtain ⟨hk1, h⟩ := h
  refine gd_callVX (pc := 3) (As := [.int a1, .int a2]) (rest := []) X (ct_X5_remove l hfl G S a0 a1 a2 _ _ h) mw_X5_remove tw_573 ci5 rfl hk1 ⟨(Nat.le_of_ble_eq_true rfl), (Nat.le_of_ble_eq_true rfl)⟩ rfl rfl (Nat.le_of_ble_eq_true rfl) dL_remove_3 ⟨Nat.le_of_ble_eq_true rfl, Nat.le_of_ble_eq_true rfl⟩ (kV (fun S2 h => ?_)) (fun Ex S9 hE hx H1 locs1 la q ce h1 h2 h3 h4 h5 h6 => ?_)
  · refine gd_wide (k2 := 3) (j2 := 18) (Nat.le_of_ble_eq_true rfl) (Nat.le_of_ble_eq_true rfl) ?_
    refine gd_goto (pc := 6) X 18 dL_remove_6 (by decide) ?_
    refine gd_iconst (pc := 18) X (0) dL_remove_18 (by decide) ?_
    exact gd_x (gd_ret_i (pc := 19) X hr hlk rfl (by decide) (by decide) dL_remove_19 ⟨_, rfl, h⟩)
  · rcases hx with ⟨rfl, hx⟩ | ⟨rfl, hx⟩ | ⟨rfl, hx⟩
    · refine gd_catch (i := 3) (hp := 9) (len := 1) X [] ⟨0, 6, 9, 25⟩ [⟨0, 6, 12, 13⟩, ⟨0, 6, 15, 15⟩] ht (fun z hz => by cases hz) rfl (by decide) tw_398 (by decide) (by decide) rfl (@fun H locs _ _ _ hE9 hk9 => lv_astore_n X.1 X.2.1 dL_remove_9 rfl h3 (by decide) hE9 hk9) h1 h2 h4 h5 h6 ?_
      refine gd_wide (k2 := 3) (j2 := 18) (Nat.le_of_ble_eq_true rfl) (Nat.le_of_ble_eq_true rfl) ?_
      refine gd_iconst (pc := 10) X 1 dL_remove_10 (by decide) ?_
      exact gd_x (gd_ret_i (pc := 11) X hr hlk rfl (by decide) (by decide) dL_remove_11 ⟨_, rfl, hx⟩)
    · refine gd_catch (i := 3) (hp := 12) (len := 1) X [⟨0, 6, 9, 25⟩] ⟨0, 6, 12, 13⟩ [⟨0, 6, 15, 15⟩] ht (fun z hz => by simp only [List.mem_cons, List.not_mem_nil, or_false] at hz; rcases hz with rfl <;> first | exact ⟨by decide, "java/lang/IndexOutOfBoundsException", by decide, tw_398, by decide⟩) rfl (by decide) tw_225 (by decide) (by decide) rfl (@fun H locs _ _ _ hE9 hk9 => lv_astore_n X.1 X.2.1 dL_remove_12 rfl h3 (by decide) hE9 hk9) h1 h2 h4 h5 h6 ?_
      refine gd_wide (k2 := 3) (j2 := 18) (Nat.le_of_ble_eq_true rfl) (Nat.le_of_ble_eq_true rfl) ?_
      refine gd_iconst (pc := 13) X 2 dL_remove_13 (by decide) ?_
      exact gd_x (gd_ret_i (pc := 14) X hr hlk rfl (by decide) (by decide) dL_remove_14 ⟨_, rfl, hx⟩)
    · refine gd_catch (i := 3) (hp := 15) (len := 1) X [⟨0, 6, 9, 25⟩, ⟨0, 6, 12, 13⟩] ⟨0, 6, 15, 15⟩ [] ht (fun z hz => by simp only [List.mem_cons, List.not_mem_nil, or_false] at hz; rcases hz with rfl | rfl <;> first | exact ⟨by decide, "java/lang/IndexOutOfBoundsException", by decide, tw_398, by decide⟩ | exact ⟨by decide, "java/lang/IllegalArgumentException", by decide, tw_225, by decide⟩) rfl (by decide) tw_226 (by decide) (by decide) rfl (@fun H locs _ _ _ hE9 hk9 => lv_astore_n X.1 X.2.1 dL_remove_15 rfl h3 (by decide) hE9 hk9) h1 h2 h4 h5 h6 ?_
      refine gd_wide (k2 := 3) (j2 := 18) (Nat.le_of_ble_eq_true rfl) (Nat.le_of_ble_eq_true rfl) ?_
      refine gd_iconst (pc := 16) X 3 dL_remove_16 (by decide) ?_
      exact gd_x (gd_ret_i (pc := 17) X hr hlk rfl (by decide) (by decide) dL_remove_17 ⟨_, rfl, hx⟩)
abbrev rm_L_add : Room := { frames := 9, cells := 3, slots := 18, locals := 190 }
def w_L_add (S : MS) (a0 : Nat) (a1 : Int32) (a2 : Int32) (a3 : Int32) (a4 : Nat) (post : Int32 → MS → Prop) : Prop := kT S a0 = 6 ∧ w_X5_add S a0 a1 a2 a3 (fun r3 S2 => kT S2 a4 = 15 ∧ vp_in 0 (kL S2 a4) ∧ ∀ S6 : MS, S6 = pL S2 a4 (ix 0) r3.toInt64 → post 0 S6) (fun Ex S9 => (Ex = "java/lang/IndexOutOfBoundsException" ∧ post 1 S9) ∨ (Ex = "java/lang/IllegalArgumentException" ∧ post 2 S9) ∨ (Ex = "java/lang/IllegalStateException" ∧ post 3 S9) ∨ (Ex = "java/lang/ArithmeticException" ∧ post 4 S9))
set_option maxHeartbeats 4000000 in
set_option maxRecDepth 100000 in
theorem ct_L_add (l : Launch) (hfl : l.stackTraces = false) (G : GP) (S : MS) (a0 : Nat) (a1 : Int32) (a2 : Int32) (a3 : Int32) (a4 : Nat) (post : Int32 → MS → Prop) (h : w_L_add S a0 a1 a2 a3 a4 post) : MetW l yL_add cL_add 6 (some .int) [(0, 12, 15, 25), (0, 12, 19, 13), (0, 12, 23, 15), (0, 12, 27, 49)] rm_L_add [rf a0, .int a1, .int a2, .int a3, rf a4] G S (pI_ post) := by
  refine metW_of (by decide) (cat1_r (cat1_i (cat1_i (cat1_i (cat1_r cat1_n))))) (Nat.le_of_ble_eq_true rfl) ?_
  intro p e s m args below meth c X hr hlk ht
  refine gd_aload (pc := 0) X 4 dL_add_0 rfl ?_
  refine gd_iconst (pc := 2) X (0) dL_add_2 (by decide) ?_
  refine gd_aload_n (pc := 3) X 0 dL_add_3 rfl ?_
  refine gd_iload_n (pc := 4) X 1 dL_add_4 rfl ?_
  refine gd_iload_n (pc := 5) X 2 dL_add_5 rfl ?_
  refine gd_iload_n (pc := 6) X 3 dL_add_6 rfl ?_
  obtain ⟨hk1, h⟩ := h
  refine gd_callVX (pc := 7) (As := [.int a1, .int a2, .int a3]) (rest := [.int 0, rf a4]) X (ct_X5_add l hfl G S a0 a1 a2 a3 _ _ h) mw_X5_add tw_581 ci5 rfl hk1 ⟨(Nat.le_of_ble_eq_true rfl), (Nat.le_of_ble_eq_true rfl)⟩ rfl rfl (Nat.le_of_ble_eq_true rfl) dL_add_7 ⟨Nat.le_of_ble_eq_true rfl, Nat.le_of_ble_eq_true rfl⟩ (kI (fun r3 S2 h => ?_)) (fun Ex S9 hE hx H1 locs1 la q ce h1 h2 h3 h4 h5 h6 => ?_)
  · refine gd_wide (k2 := 3) (j2 := 18) (Nat.le_of_ble_eq_true rfl) (Nat.le_of_ble_eq_true rfl) ?_
    refine gd_i2l (pc := 10) X dL_add_10 ?_
    obtain ⟨hk4, h⟩ := h
    obtain ⟨hi5, h⟩ := h
    refine gd_last (pc := 11) X dL_add_11 hk4 hi5 ?_
    refine gd_topS (fun S6 hS6 => ?_)
    have h := h S6 hS6
    have hk7 : kT S6 a4 = 15 := by rw [hS6]; exact hk4
    refine gd_goto (pc := 12) X 31 dL_add_12 (by decide) ?_
    refine gd_iconst (pc := 31) X (0) dL_add_31 (by decide) ?_
    exact gd_x (gd_ret_i (pc := 32) X hr hlk rfl (by decide) (by decide) dL_add_32 ⟨_, rfl, h⟩)
  · rcases hx with ⟨rfl, hx⟩ | ⟨rfl, hx⟩ | ⟨rfl, hx⟩ | ⟨rfl, hx⟩
    · refine gd_catch (i := 5) (hp := 15) (len := 2) X [] ⟨0, 12, 15, 25⟩ [⟨0, 12, 19, 13⟩, ⟨0, 12, 23, 15⟩, ⟨0, 12, 27, 49⟩] ht (fun z hz => by cases hz) rfl (by decide) tw_398 (by decide) (by decide) rfl (@fun H locs _ _ _ hE9 hk9 => lv_astore X.1 X.2.1 dL_add_15 h3 (by decide) hE9 hk9) h1 h2 h4 h5 h6 ?_
      refine gd_wide (k2 := 3) (j2 := 18) (Nat.le_of_ble_eq_true rfl) (Nat.le_of_ble_eq_true rfl) ?_
      refine gd_iconst (pc := 17) X 1 dL_add_17 (by decide) ?_
      exact gd_x (gd_ret_i (pc := 18) X hr hlk rfl (by decide) (by decide) dL_add_18 ⟨_, rfl, hx⟩)
    · refine gd_catch (i := 5) (hp := 19) (len := 2) X [⟨0, 12, 15, 25⟩] ⟨0, 12, 19, 13⟩ [⟨0, 12, 23, 15⟩, ⟨0, 12, 27, 49⟩] ht (fun z hz => by simp only [List.mem_cons, List.not_mem_nil, or_false] at hz; rcases hz with rfl <;> first | exact ⟨by decide, "java/lang/IndexOutOfBoundsException", by decide, tw_398, by decide⟩) rfl (by decide) tw_225 (by decide) (by decide) rfl (@fun H locs _ _ _ hE9 hk9 => lv_astore X.1 X.2.1 dL_add_19 h3 (by decide) hE9 hk9) h1 h2 h4 h5 h6 ?_
      refine gd_wide (k2 := 3) (j2 := 18) (Nat.le_of_ble_eq_true rfl) (Nat.le_of_ble_eq_true rfl) ?_
      refine gd_iconst (pc := 21) X 2 dL_add_21 (by decide) ?_
      exact gd_x (gd_ret_i (pc := 22) X hr hlk rfl (by decide) (by decide) dL_add_22 ⟨_, rfl, hx⟩)
    · refine gd_catch (i := 5) (hp := 23) (len := 2) X [⟨0, 12, 15, 25⟩, ⟨0, 12, 19, 13⟩] ⟨0, 12, 23, 15⟩ [⟨0, 12, 27, 49⟩] ht (fun z hz => by simp only [List.mem_cons, List.not_mem_nil, or_false] at hz; rcases hz with rfl | rfl <;> first | exact ⟨by decide, "java/lang/IndexOutOfBoundsException", by decide, tw_398, by decide⟩ | exact ⟨by decide, "java/lang/IllegalArgumentException", by decide, tw_225, by decide⟩) rfl (by decide) tw_226 (by decide) (by decide) rfl (@fun H locs _ _ _ hE9 hk9 => lv_astore X.1 X.2.1 dL_add_23 h3 (by decide) hE9 hk9) h1 h2 h4 h5 h6 ?_
      refine gd_wide (k2 := 3) (j2 := 18) (Nat.le_of_ble_eq_true rfl) (Nat.le_of_ble_eq_true rfl) ?_
      refine gd_iconst (pc := 25) X 3 dL_add_25 (by decide) ?_
      exact gd_x (gd_ret_i (pc := 26) X hr hlk rfl (by decide) (by decide) dL_add_26 ⟨_, rfl, hx⟩)
    · refine gd_catch (i := 5) (hp := 27) (len := 2) X [⟨0, 12, 15, 25⟩, ⟨0, 12, 19, 13⟩, ⟨0, 12, 23, 15⟩] ⟨0, 12, 27, 49⟩ [] ht (fun z hz => by simp only [List.mem_cons, List.not_mem_nil, or_false] at hz; rcases hz with rfl | rfl | rfl <;> first | exact ⟨by decide, "java/lang/IndexOutOfBoundsException", by decide, tw_398, by decide⟩ | exact ⟨by decide, "java/lang/IllegalArgumentException", by decide, tw_225, by decide⟩ | exact ⟨by decide, "java/lang/IllegalStateException", by decide, tw_226, by decide⟩) rfl (by decide) tw_580 (by decide) (by decide) rfl (@fun H locs _ _ _ hE9 hk9 => lv_astore X.1 X.2.1 dL_add_27 h3 (by decide) hE9 hk9) h1 h2 h4 h5 h6 ?_
      refine gd_wide (k2 := 3) (j2 := 18) (Nat.le_of_ble_eq_true rfl) (Nat.le_of_ble_eq_true rfl) ?_
      refine gd_iconst (pc := 29) X 4 dL_add_29 (by decide) ?_
      exact gd_x (gd_ret_i (pc := 30) X hr hlk rfl (by decide) (by decide) dL_add_30 ⟨_, rfl, hx⟩)
abbrev rm_L_commit : Room := { frames := 8, cells := 2, slots := 12, locals := 187 }
def w_L_commit (S : MS) (a0 : Nat) (a1 : Int32) (a2 : Nat) (post : Int32 → MS → Prop) : Prop := kT S a0 = 6 ∧ w_X5_commit S a0 a1 (fun r3 S2 => kT S2 a2 = 15 ∧ vp_in 0 (kL S2 a2) ∧ ∀ S6 : MS, S6 = pL S2 a2 (ix 0) r3.toInt64 → post 0 S6) (fun Ex S9 => (Ex = "java/lang/IndexOutOfBoundsException" ∧ post 1 S9) ∨ (Ex = "java/lang/IllegalStateException" ∧ post 2 S9))
set_option maxHeartbeats 4000000 in
set_option maxRecDepth 100000 in
theorem ct_L_commit (l : Launch) (hfl : l.stackTraces = false) (G : GP) (S : MS) (a0 : Nat) (a1 : Int32) (a2 : Nat) (post : Int32 → MS → Prop) (h : w_L_commit S a0 a1 a2 post) : MetW l yL_commit cL_commit 4 (some .int) [(0, 9, 12, 25), (0, 9, 15, 15)] rm_L_commit [rf a0, .int a1, rf a2] G S (pI_ post) := by
  refine metW_of (by decide) (cat1_r (cat1_i (cat1_r cat1_n))) (Nat.le_of_ble_eq_true rfl) ?_
  intro p e s m args below meth c X hr hlk ht
  refine gd_aload_n (pc := 0) X 2 dL_commit_0 rfl ?_
  refine gd_iconst (pc := 1) X (0) dL_commit_1 (by decide) ?_
  refine gd_aload_n (pc := 2) X 0 dL_commit_2 rfl ?_
  refine gd_iload_n (pc := 3) X 1 dL_commit_3 rfl ?_
  obtain ⟨hk1, h⟩ := h
  refine gd_callVX (pc := 4) (As := [.int a1]) (rest := [.int 0, rf a2]) X (ct_X5_commit l hfl G S a0 a1 _ _ h) mw_X5_commit tw_588 ci5 rfl hk1 ⟨(Nat.le_of_ble_eq_true rfl), (Nat.le_of_ble_eq_true rfl)⟩ rfl rfl (Nat.le_of_ble_eq_true rfl) dL_commit_4 ⟨Nat.le_of_ble_eq_true rfl, Nat.le_of_ble_eq_true rfl⟩ (kI (fun r3 S2 h => ?_)) (fun Ex S9 hE hx H1 locs1 la q ce h1 h2 h3 h4 h5 h6 => ?_)
  · refine gd_wide (k2 := 2) (j2 := 12) (Nat.le_of_ble_eq_true rfl) (Nat.le_of_ble_eq_true rfl) ?_
    refine gd_i2l (pc := 7) X dL_commit_7 ?_
    obtain ⟨hk4, h⟩ := h
    obtain ⟨hi5, h⟩ := h
    refine gd_last (pc := 8) X dL_commit_8 hk4 hi5 ?_
    refine gd_topS (fun S6 hS6 => ?_)
    have h := h S6 hS6
    have hk7 : kT S6 a2 = 15 := by rw [hS6]; exact hk4
    refine gd_goto (pc := 9) X 18 dL_commit_9 (by decide) ?_
    refine gd_iconst (pc := 18) X (0) dL_commit_18 (by decide) ?_
    exact gd_x (gd_ret_i (pc := 19) X hr hlk rfl (by decide) (by decide) dL_commit_19 ⟨_, rfl, h⟩)
  · rcases hx with ⟨rfl, hx⟩ | ⟨rfl, hx⟩
    · refine gd_catch (i := 3) (hp := 12) (len := 1) X [] ⟨0, 9, 12, 25⟩ [⟨0, 9, 15, 15⟩] ht (fun z hz => by cases hz) rfl (by decide) tw_398 (by decide) (by decide) rfl (@fun H locs _ _ _ hE9 hk9 => lv_astore_n X.1 X.2.1 dL_commit_12 rfl h3 (by decide) hE9 hk9) h1 h2 h4 h5 h6 ?_
      refine gd_wide (k2 := 2) (j2 := 12) (Nat.le_of_ble_eq_true rfl) (Nat.le_of_ble_eq_true rfl) ?_
      refine gd_iconst (pc := 13) X 1 dL_commit_13 (by decide) ?_
      exact gd_x (gd_ret_i (pc := 14) X hr hlk rfl (by decide) (by decide) dL_commit_14 ⟨_, rfl, hx⟩)
    · refine gd_catch (i := 3) (hp := 15) (len := 1) X [⟨0, 9, 12, 25⟩] ⟨0, 9, 15, 15⟩ [] ht (fun z hz => by simp only [List.mem_cons, List.not_mem_nil, or_false] at hz; rcases hz with rfl <;> first | exact ⟨by decide, "java/lang/IndexOutOfBoundsException", by decide, tw_398, by decide⟩) rfl (by decide) tw_226 (by decide) (by decide) rfl (@fun H locs _ _ _ hE9 hk9 => lv_astore_n X.1 X.2.1 dL_commit_15 rfl h3 (by decide) hE9 hk9) h1 h2 h4 h5 h6 ?_
      refine gd_wide (k2 := 2) (j2 := 12) (Nat.le_of_ble_eq_true rfl) (Nat.le_of_ble_eq_true rfl) ?_
      refine gd_iconst (pc := 16) X 2 dL_commit_16 (by decide) ?_
      exact gd_x (gd_ret_i (pc := 17) X hr hlk rfl (by decide) (by decide) dL_commit_17 ⟨_, rfl, hx⟩)
abbrev rm_L_abort : Room := { frames := 9, cells := 2, slots := 12, locals := 165 }
def w_L_abort (S : MS) (a0 : Nat) (a1 : Int32) (post : Int32 → MS → Prop) : Prop := kT S a0 = 6 ∧ w_X5_abort S a0 a1 (fun S2 => post 0 S2) (fun Ex S9 => (Ex = "java/lang/IndexOutOfBoundsException" ∧ post 1 S9) ∨ (Ex = "java/lang/IllegalStateException" ∧ post 2 S9))
set_option maxHeartbeats 4000000 in
set_option maxRecDepth 100000 in
theorem ct_L_abort (l : Launch) (hfl : l.stackTraces = false) (G : GP) (S : MS) (a0 : Nat) (a1 : Int32) (post : Int32 → MS → Prop) (h : w_L_abort S a0 a1 post) : MetW l yL_abort cL_abort 3 (some .int) [(0, 5, 8, 25), (0, 5, 11, 15)] rm_L_abort [rf a0, .int a1] G S (pI_ post) := by
  refine metW_of (by decide) (cat1_r (cat1_i cat1_n)) (Nat.le_of_ble_eq_true rfl) ?_
  intro p e s m args below meth c X hr hlk ht
  refine gd_aload_n (pc := 0) X 0 dL_abort_0 rfl ?_
  refine gd_iload_n (pc := 1) X 1 dL_abort_1 rfl ?_
  obtain ⟨hk1, h⟩ := h
  refine gd_callVX (pc := 2) (As := [.int a1]) (rest := []) X (ct_X5_abort l hfl G S a0 a1 _ _ h) mw_X5_abort tw_668 ci5 rfl hk1 ⟨(Nat.le_of_ble_eq_true rfl), (Nat.le_of_ble_eq_true rfl)⟩ rfl rfl (Nat.le_of_ble_eq_true rfl) dL_abort_2 ⟨Nat.le_of_ble_eq_true rfl, Nat.le_of_ble_eq_true rfl⟩ (kV (fun S2 h => ?_)) (fun Ex S9 hE hx H1 locs1 la q ce h1 h2 h3 h4 h5 h6 => ?_)
  · refine gd_wide (k2 := 2) (j2 := 12) (Nat.le_of_ble_eq_true rfl) (Nat.le_of_ble_eq_true rfl) ?_
    refine gd_goto (pc := 5) X 14 dL_abort_5 (by decide) ?_
    refine gd_iconst (pc := 14) X (0) dL_abort_14 (by decide) ?_
    exact gd_x (gd_ret_i (pc := 15) X hr hlk rfl (by decide) (by decide) dL_abort_15 ⟨_, rfl, h⟩)
  · rcases hx with ⟨rfl, hx⟩ | ⟨rfl, hx⟩
    · refine gd_catch (i := 2) (hp := 8) (len := 1) X [] ⟨0, 5, 8, 25⟩ [⟨0, 5, 11, 15⟩] ht (fun z hz => by cases hz) rfl (by decide) tw_398 (by decide) (by decide) rfl (@fun H locs _ _ _ hE9 hk9 => lv_astore_n X.1 X.2.1 dL_abort_8 rfl h3 (by decide) hE9 hk9) h1 h2 h4 h5 h6 ?_
      refine gd_wide (k2 := 2) (j2 := 12) (Nat.le_of_ble_eq_true rfl) (Nat.le_of_ble_eq_true rfl) ?_
      refine gd_iconst (pc := 9) X 1 dL_abort_9 (by decide) ?_
      exact gd_x (gd_ret_i (pc := 10) X hr hlk rfl (by decide) (by decide) dL_abort_10 ⟨_, rfl, hx⟩)
    · refine gd_catch (i := 2) (hp := 11) (len := 1) X [⟨0, 5, 8, 25⟩] ⟨0, 5, 11, 15⟩ [] ht (fun z hz => by simp only [List.mem_cons, List.not_mem_nil, or_false] at hz; rcases hz with rfl <;> first | exact ⟨by decide, "java/lang/IndexOutOfBoundsException", by decide, tw_398, by decide⟩) rfl (by decide) tw_226 (by decide) (by decide) rfl (@fun H locs _ _ _ hE9 hk9 => lv_astore_n X.1 X.2.1 dL_abort_11 rfl h3 (by decide) hE9 hk9) h1 h2 h4 h5 h6 ?_
      refine gd_wide (k2 := 2) (j2 := 12) (Nat.le_of_ble_eq_true rfl) (Nat.le_of_ble_eq_true rfl) ?_
      refine gd_iconst (pc := 12) X 2 dL_abort_12 (by decide) ?_
      exact gd_x (gd_ret_i (pc := 13) X hr hlk rfl (by decide) (by decide) dL_abort_13 ⟨_, rfl, hx⟩)
abbrev rm_L_ticketHolder : Room := { frames := 7, cells := 1, slots := 6, locals := 120 }
def w_L_ticketHolder (S : MS) (a0 : Nat) (a1 : Nat) (post : Int32 → MS → Prop) : Prop := kT S a0 = 6 ∧ w_X5_ticketHolder S a0 (fun r3 S2 => kT S2 a1 = 15 ∧ vp_in 0 (kL S2 a1) ∧ ∀ S6 : MS, S6 = pL S2 a1 (ix 0) r3.toInt64 → post 0 S6) (fun Ex S9 => (Ex = "java/util/NoSuchElementException" ∧ post 1 S9))
set_option maxHeartbeats 4000000 in
set_option maxRecDepth 100000 in
theorem ct_L_ticketHolder (l : Launch) (hfl : l.stackTraces = false) (G : GP) (S : MS) (a0 : Nat) (a1 : Nat) (post : Int32 → MS → Prop) (h : w_L_ticketHolder S a0 a1 post) : MetW l yL_ticketHolder cL_ticketHolder 3 (some .int) [(0, 8, 11, 61)] rm_L_ticketHolder [rf a0, rf a1] G S (pI_ post) := by
  refine metW_of (by decide) (cat1_r (cat1_r cat1_n)) (Nat.le_of_ble_eq_true rfl) ?_
  intro p e s m args below meth c X hr hlk ht
  refine gd_aload_n (pc := 0) X 1 dL_ticketHolder_0 rfl ?_
  refine gd_iconst (pc := 1) X (0) dL_ticketHolder_1 (by decide) ?_
  refine gd_aload_n (pc := 2) X 0 dL_ticketHolder_2 rfl ?_
  obtain ⟨hk1, h⟩ := h
  refine gd_callVX (pc := 3) (As := []) (rest := [.int 0, rf a1]) X (ct_X5_ticketHolder l hfl G S a0 _ _ h) mw_X5_ticketHolder tw_681 ci5 rfl hk1 ⟨(Nat.le_of_ble_eq_true rfl), (Nat.le_of_ble_eq_true rfl)⟩ rfl rfl (Nat.le_of_ble_eq_true rfl) dL_ticketHolder_3 ⟨Nat.le_of_ble_eq_true rfl, Nat.le_of_ble_eq_true rfl⟩ (kI (fun r3 S2 h => ?_)) (fun Ex S9 hE hx H1 locs1 la q ce h1 h2 h3 h4 h5 h6 => ?_)
  · refine gd_wide (k2 := 1) (j2 := 6) (Nat.le_of_ble_eq_true rfl) (Nat.le_of_ble_eq_true rfl) ?_
    refine gd_i2l (pc := 6) X dL_ticketHolder_6 ?_
    obtain ⟨hk4, h⟩ := h
    obtain ⟨hi5, h⟩ := h
    refine gd_last (pc := 7) X dL_ticketHolder_7 hk4 hi5 ?_
    refine gd_topS (fun S6 hS6 => ?_)
    have h := h S6 hS6
    have hk7 : kT S6 a1 = 15 := by rw [hS6]; exact hk4
    refine gd_goto (pc := 8) X 14 dL_ticketHolder_8 (by decide) ?_
    refine gd_iconst (pc := 14) X (0) dL_ticketHolder_14 (by decide) ?_
    exact gd_x (gd_ret_i (pc := 15) X hr hlk rfl (by decide) (by decide) dL_ticketHolder_15 ⟨_, rfl, h⟩)
  · rcases hx with ⟨rfl, hx⟩
    · refine gd_catch (i := 2) (hp := 11) (len := 1) X [] ⟨0, 8, 11, 61⟩ [] ht (fun z hz => by cases hz) rfl (by decide) tw_680 (by decide) (by decide) rfl (@fun H locs _ _ _ hE9 hk9 => lv_astore_n X.1 X.2.1 dL_ticketHolder_11 rfl h3 (by decide) hE9 hk9) h1 h2 h4 h5 h6 ?_
      refine gd_wide (k2 := 1) (j2 := 6) (Nat.le_of_ble_eq_true rfl) (Nat.le_of_ble_eq_true rfl) ?_
      refine gd_iconst (pc := 12) X 1 dL_ticketHolder_12 (by decide) ?_
      exact gd_x (gd_ret_i (pc := 13) X hr hlk rfl (by decide) (by decide) dL_ticketHolder_13 ⟨_, rfl, hx⟩)
abbrev rm_L_state : Room := { frames := 8, cells := 1, slots := 6, locals := 143 }
def w_L_state (S : MS) (a0 : Nat) (a1 : Int32) (a2 : Nat) (post : Int32 → MS → Prop) : Prop := kT S a0 = 6 ∧ w_X5_state S a0 a1 (fun r3 S2 => kT S2 a2 = 15 ∧ vp_in 0 (kL S2 a2) ∧ ∀ S6 : MS, S6 = pL S2 a2 (ix 0) r3.toInt64 → post 0 S6) (fun Ex S9 => (Ex = "java/lang/IndexOutOfBoundsException" ∧ post 1 S9))
set_option maxHeartbeats 4000000 in
set_option maxRecDepth 100000 in
theorem ct_L_state (l : Launch) (hfl : l.stackTraces = false) (G : GP) (S : MS) (a0 : Nat) (a1 : Int32) (a2 : Nat) (post : Int32 → MS → Prop) (h : w_L_state S a0 a1 a2 post) : MetW l yL_state cL_state 4 (some .int) [(0, 9, 12, 25)] rm_L_state [rf a0, .int a1, rf a2] G S (pI_ post) := by
  refine metW_of (by decide) (cat1_r (cat1_i (cat1_r cat1_n))) (Nat.le_of_ble_eq_true rfl) ?_
  intro p e s m args below meth c X hr hlk ht
  refine gd_aload_n (pc := 0) X 2 dL_state_0 rfl ?_
  refine gd_iconst (pc := 1) X (0) dL_state_1 (by decide) ?_
  refine gd_aload_n (pc := 2) X 0 dL_state_2 rfl ?_
  refine gd_iload_n (pc := 3) X 1 dL_state_3 rfl ?_
  obtain ⟨hk1, h⟩ := h
  refine gd_callVX (pc := 4) (As := [.int a1]) (rest := [.int 0, rf a2]) X (ct_X5_state l hfl G S a0 a1 _ _ h) mw_X5_state tw_704 ci5 rfl hk1 ⟨(Nat.le_of_ble_eq_true rfl), (Nat.le_of_ble_eq_true rfl)⟩ rfl rfl (Nat.le_of_ble_eq_true rfl) dL_state_4 ⟨Nat.le_of_ble_eq_true rfl, Nat.le_of_ble_eq_true rfl⟩ (kI (fun r3 S2 h => ?_)) (fun Ex S9 hE hx H1 locs1 la q ce h1 h2 h3 h4 h5 h6 => ?_)
  · refine gd_wide (k2 := 1) (j2 := 6) (Nat.le_of_ble_eq_true rfl) (Nat.le_of_ble_eq_true rfl) ?_
    refine gd_i2l (pc := 7) X dL_state_7 ?_
    obtain ⟨hk4, h⟩ := h
    obtain ⟨hi5, h⟩ := h
    refine gd_last (pc := 8) X dL_state_8 hk4 hi5 ?_
    refine gd_topS (fun S6 hS6 => ?_)
    have h := h S6 hS6
    have hk7 : kT S6 a2 = 15 := by rw [hS6]; exact hk4
    refine gd_goto (pc := 9) X 15 dL_state_9 (by decide) ?_
    refine gd_iconst (pc := 15) X (0) dL_state_15 (by decide) ?_
    exact gd_x (gd_ret_i (pc := 16) X hr hlk rfl (by decide) (by decide) dL_state_16 ⟨_, rfl, h⟩)
  · rcases hx with ⟨rfl, hx⟩
    · refine gd_catch (i := 3) (hp := 12) (len := 1) X [] ⟨0, 9, 12, 25⟩ [] ht (fun z hz => by cases hz) rfl (by decide) tw_398 (by decide) (by decide) rfl (@fun H locs _ _ _ hE9 hk9 => lv_astore_n X.1 X.2.1 dL_state_12 rfl h3 (by decide) hE9 hk9) h1 h2 h4 h5 h6 ?_
      refine gd_wide (k2 := 1) (j2 := 6) (Nat.le_of_ble_eq_true rfl) (Nat.le_of_ble_eq_true rfl) ?_
      refine gd_iconst (pc := 13) X 1 dL_state_13 (by decide) ?_
      exact gd_x (gd_ret_i (pc := 14) X hr hlk rfl (by decide) (by decide) dL_state_14 ⟨_, rfl, hx⟩)
abbrev rm_L_attempt : Room := { frames := 8, cells := 1, slots := 6, locals := 143 }
def w_L_attempt (S : MS) (a0 : Nat) (a1 : Int32) (a2 : Nat) (post : Int32 → MS → Prop) : Prop := kT S a0 = 6 ∧ w_X5_attempt S a0 a1 (fun r3 S2 => kT S2 a2 = 15 ∧ vp_in 0 (kL S2 a2) ∧ ∀ S6 : MS, S6 = pL S2 a2 (ix 0) r3.toInt64 → post 0 S6) (fun Ex S9 => (Ex = "java/lang/IndexOutOfBoundsException" ∧ post 1 S9))
set_option maxHeartbeats 4000000 in
set_option maxRecDepth 100000 in
theorem ct_L_attempt (l : Launch) (hfl : l.stackTraces = false) (G : GP) (S : MS) (a0 : Nat) (a1 : Int32) (a2 : Nat) (post : Int32 → MS → Prop) (h : w_L_attempt S a0 a1 a2 post) : MetW l yL_attempt cL_attempt 4 (some .int) [(0, 9, 12, 25)] rm_L_attempt [rf a0, .int a1, rf a2] G S (pI_ post) := by
  refine metW_of (by decide) (cat1_r (cat1_i (cat1_r cat1_n))) (Nat.le_of_ble_eq_true rfl) ?_
  intro p e s m args below meth c X hr hlk ht
  refine gd_aload_n (pc := 0) X 2 dL_attempt_0 rfl ?_
  refine gd_iconst (pc := 1) X (0) dL_attempt_1 (by decide) ?_
  refine gd_aload_n (pc := 2) X 0 dL_attempt_2 rfl ?_
  refine gd_iload_n (pc := 3) X 1 dL_attempt_3 rfl ?_
  obtain ⟨hk1, h⟩ := h
  refine gd_callVX (pc := 4) (As := [.int a1]) (rest := [.int 0, rf a2]) X (ct_X5_attempt l hfl G S a0 a1 _ _ h) mw_X5_attempt tw_711 ci5 rfl hk1 ⟨(Nat.le_of_ble_eq_true rfl), (Nat.le_of_ble_eq_true rfl)⟩ rfl rfl (Nat.le_of_ble_eq_true rfl) dL_attempt_4 ⟨Nat.le_of_ble_eq_true rfl, Nat.le_of_ble_eq_true rfl⟩ (kI (fun r3 S2 h => ?_)) (fun Ex S9 hE hx H1 locs1 la q ce h1 h2 h3 h4 h5 h6 => ?_)
  · refine gd_wide (k2 := 1) (j2 := 6) (Nat.le_of_ble_eq_true rfl) (Nat.le_of_ble_eq_true rfl) ?_
    refine gd_i2l (pc := 7) X dL_attempt_7 ?_
    obtain ⟨hk4, h⟩ := h
    obtain ⟨hi5, h⟩ := h
    refine gd_last (pc := 8) X dL_attempt_8 hk4 hi5 ?_
    refine gd_topS (fun S6 hS6 => ?_)
    have h := h S6 hS6
    have hk7 : kT S6 a2 = 15 := by rw [hS6]; exact hk4
    refine gd_goto (pc := 9) X 15 dL_attempt_9 (by decide) ?_
    refine gd_iconst (pc := 15) X (0) dL_attempt_15 (by decide) ?_
    exact gd_x (gd_ret_i (pc := 16) X hr hlk rfl (by decide) (by decide) dL_attempt_16 ⟨_, rfl, h⟩)
  · rcases hx with ⟨rfl, hx⟩
    · refine gd_catch (i := 3) (hp := 12) (len := 1) X [] ⟨0, 9, 12, 25⟩ [] ht (fun z hz => by cases hz) rfl (by decide) tw_398 (by decide) (by decide) rfl (@fun H locs _ _ _ hE9 hk9 => lv_astore_n X.1 X.2.1 dL_attempt_12 rfl h3 (by decide) hE9 hk9) h1 h2 h4 h5 h6 ?_
      refine gd_wide (k2 := 1) (j2 := 6) (Nat.le_of_ble_eq_true rfl) (Nat.le_of_ble_eq_true rfl) ?_
      refine gd_iconst (pc := 13) X 1 dL_attempt_13 (by decide) ?_
      exact gd_x (gd_ret_i (pc := 14) X hr hlk rfl (by decide) (by decide) dL_attempt_14 ⟨_, rfl, hx⟩)
abbrev rm_L_reason : Room := { frames := 8, cells := 2, slots := 12, locals := 144 }
def w_L_reason (S : MS) (a0 : Nat) (a1 : Int32) (a2 : Nat) (post : Int32 → MS → Prop) : Prop := kT S a0 = 6 ∧ w_X5_reason S a0 a1 (fun r3 S2 => kT S2 a2 = 15 ∧ vp_in 0 (kL S2 a2) ∧ ∀ S6 : MS, S6 = pL S2 a2 (ix 0) r3.toInt64 → post 0 S6) (fun Ex S9 => (Ex = "java/lang/IndexOutOfBoundsException" ∧ post 1 S9) ∨ (Ex = "java/lang/IllegalStateException" ∧ post 2 S9))
set_option maxHeartbeats 4000000 in
set_option maxRecDepth 100000 in
theorem ct_L_reason (l : Launch) (hfl : l.stackTraces = false) (G : GP) (S : MS) (a0 : Nat) (a1 : Int32) (a2 : Nat) (post : Int32 → MS → Prop) (h : w_L_reason S a0 a1 a2 post) : MetW l yL_reason cL_reason 4 (some .int) [(0, 9, 12, 25), (0, 9, 15, 15)] rm_L_reason [rf a0, .int a1, rf a2] G S (pI_ post) := by
  refine metW_of (by decide) (cat1_r (cat1_i (cat1_r cat1_n))) (Nat.le_of_ble_eq_true rfl) ?_
  intro p e s m args below meth c X hr hlk ht
  refine gd_aload_n (pc := 0) X 2 dL_reason_0 rfl ?_
  refine gd_iconst (pc := 1) X (0) dL_reason_1 (by decide) ?_
  refine gd_aload_n (pc := 2) X 0 dL_reason_2 rfl ?_
  refine gd_iload_n (pc := 3) X 1 dL_reason_3 rfl ?_
  obtain ⟨hk1, h⟩ := h
  refine gd_callVX (pc := 4) (As := [.int a1]) (rest := [.int 0, rf a2]) X (ct_X5_reason l hfl G S a0 a1 _ _ h) mw_X5_reason tw_718 ci5 rfl hk1 ⟨(Nat.le_of_ble_eq_true rfl), (Nat.le_of_ble_eq_true rfl)⟩ rfl rfl (Nat.le_of_ble_eq_true rfl) dL_reason_4 ⟨Nat.le_of_ble_eq_true rfl, Nat.le_of_ble_eq_true rfl⟩ (kI (fun r3 S2 h => ?_)) (fun Ex S9 hE hx H1 locs1 la q ce h1 h2 h3 h4 h5 h6 => ?_)
  · refine gd_wide (k2 := 2) (j2 := 12) (Nat.le_of_ble_eq_true rfl) (Nat.le_of_ble_eq_true rfl) ?_
    refine gd_i2l (pc := 7) X dL_reason_7 ?_
    obtain ⟨hk4, h⟩ := h
    obtain ⟨hi5, h⟩ := h
    refine gd_last (pc := 8) X dL_reason_8 hk4 hi5 ?_
    refine gd_topS (fun S6 hS6 => ?_)
    have h := h S6 hS6
    have hk7 : kT S6 a2 = 15 := by rw [hS6]; exact hk4
    refine gd_goto (pc := 9) X 18 dL_reason_9 (by decide) ?_
    refine gd_iconst (pc := 18) X (0) dL_reason_18 (by decide) ?_
    exact gd_x (gd_ret_i (pc := 19) X hr hlk rfl (by decide) (by decide) dL_reason_19 ⟨_, rfl, h⟩)
  · rcases hx with ⟨rfl, hx⟩ | ⟨rfl, hx⟩
    · refine gd_catch (i := 3) (hp := 12) (len := 1) X [] ⟨0, 9, 12, 25⟩ [⟨0, 9, 15, 15⟩] ht (fun z hz => by cases hz) rfl (by decide) tw_398 (by decide) (by decide) rfl (@fun H locs _ _ _ hE9 hk9 => lv_astore_n X.1 X.2.1 dL_reason_12 rfl h3 (by decide) hE9 hk9) h1 h2 h4 h5 h6 ?_
      refine gd_wide (k2 := 2) (j2 := 12) (Nat.le_of_ble_eq_true rfl) (Nat.le_of_ble_eq_true rfl) ?_
      refine gd_iconst (pc := 13) X 1 dL_reason_13 (by decide) ?_
      exact gd_x (gd_ret_i (pc := 14) X hr hlk rfl (by decide) (by decide) dL_reason_14 ⟨_, rfl, hx⟩)
    · refine gd_catch (i := 3) (hp := 15) (len := 1) X [⟨0, 9, 12, 25⟩] ⟨0, 9, 15, 15⟩ [] ht (fun z hz => by simp only [List.mem_cons, List.not_mem_nil, or_false] at hz; rcases hz with rfl <;> first | exact ⟨by decide, "java/lang/IndexOutOfBoundsException", by decide, tw_398, by decide⟩) rfl (by decide) tw_226 (by decide) (by decide) rfl (@fun H locs _ _ _ hE9 hk9 => lv_astore_n X.1 X.2.1 dL_reason_15 rfl h3 (by decide) hE9 hk9) h1 h2 h4 h5 h6 ?_
      refine gd_wide (k2 := 2) (j2 := 12) (Nat.le_of_ble_eq_true rfl) (Nat.le_of_ble_eq_true rfl) ?_
      refine gd_iconst (pc := 16) X 2 dL_reason_16 (by decide) ?_
      exact gd_x (gd_ret_i (pc := 17) X hr hlk rfl (by decide) (by decide) dL_reason_17 ⟨_, rfl, hx⟩)
abbrev rm_L_commitOf : Room := { frames := 8, cells := 2, slots := 12, locals := 144 }
def w_L_commitOf (S : MS) (a0 : Nat) (a1 : Int32) (a2 : Nat) (post : Int32 → MS → Prop) : Prop := kT S a0 = 6 ∧ w_X5_commitOf S a0 a1 (fun r3 S2 => kT S2 a2 = 15 ∧ vp_in 0 (kL S2 a2) ∧ ∀ S6 : MS, S6 = pL S2 a2 (ix 0) r3.toInt64 → post 0 S6) (fun Ex S9 => (Ex = "java/lang/IndexOutOfBoundsException" ∧ post 1 S9) ∨ (Ex = "java/lang/IllegalStateException" ∧ post 2 S9))
set_option maxHeartbeats 4000000 in
set_option maxRecDepth 100000 in
theorem ct_L_commitOf (l : Launch) (hfl : l.stackTraces = false) (G : GP) (S : MS) (a0 : Nat) (a1 : Int32) (a2 : Nat) (post : Int32 → MS → Prop) (h : w_L_commitOf S a0 a1 a2 post) : MetW l yL_commitOf cL_commitOf 4 (some .int) [(0, 9, 12, 25), (0, 9, 15, 15)] rm_L_commitOf [rf a0, .int a1, rf a2] G S (pI_ post) := by
  refine metW_of (by decide) (cat1_r (cat1_i (cat1_r cat1_n))) (Nat.le_of_ble_eq_true rfl) ?_
  intro p e s m args below meth c X hr hlk ht
  refine gd_aload_n (pc := 0) X 2 dL_commitOf_0 rfl ?_
  refine gd_iconst (pc := 1) X (0) dL_commitOf_1 (by decide) ?_
  refine gd_aload_n (pc := 2) X 0 dL_commitOf_2 rfl ?_
  refine gd_iload_n (pc := 3) X 1 dL_commitOf_3 rfl ?_
  obtain ⟨hk1, h⟩ := h
  refine gd_callVX (pc := 4) (As := [.int a1]) (rest := [.int 0, rf a2]) X (ct_X5_commitOf l hfl G S a0 a1 _ _ h) mw_X5_commitOf tw_726 ci5 rfl hk1 ⟨(Nat.le_of_ble_eq_true rfl), (Nat.le_of_ble_eq_true rfl)⟩ rfl rfl (Nat.le_of_ble_eq_true rfl) dL_commitOf_4 ⟨Nat.le_of_ble_eq_true rfl, Nat.le_of_ble_eq_true rfl⟩ (kI (fun r3 S2 h => ?_)) (fun Ex S9 hE hx H1 locs1 la q ce h1 h2 h3 h4 h5 h6 => ?_)
  · refine gd_wide (k2 := 2) (j2 := 12) (Nat.le_of_ble_eq_true rfl) (Nat.le_of_ble_eq_true rfl) ?_
    refine gd_i2l (pc := 7) X dL_commitOf_7 ?_
    obtain ⟨hk4, h⟩ := h
    obtain ⟨hi5, h⟩ := h
    refine gd_last (pc := 8) X dL_commitOf_8 hk4 hi5 ?_
    refine gd_topS (fun S6 hS6 => ?_)
    have h := h S6 hS6
    have hk7 : kT S6 a2 = 15 := by rw [hS6]; exact hk4
    refine gd_goto (pc := 9) X 18 dL_commitOf_9 (by decide) ?_
    refine gd_iconst (pc := 18) X (0) dL_commitOf_18 (by decide) ?_
    exact gd_x (gd_ret_i (pc := 19) X hr hlk rfl (by decide) (by decide) dL_commitOf_19 ⟨_, rfl, h⟩)
  · rcases hx with ⟨rfl, hx⟩ | ⟨rfl, hx⟩
    · refine gd_catch (i := 3) (hp := 12) (len := 1) X [] ⟨0, 9, 12, 25⟩ [⟨0, 9, 15, 15⟩] ht (fun z hz => by cases hz) rfl (by decide) tw_398 (by decide) (by decide) rfl (@fun H locs _ _ _ hE9 hk9 => lv_astore_n X.1 X.2.1 dL_commitOf_12 rfl h3 (by decide) hE9 hk9) h1 h2 h4 h5 h6 ?_
      refine gd_wide (k2 := 2) (j2 := 12) (Nat.le_of_ble_eq_true rfl) (Nat.le_of_ble_eq_true rfl) ?_
      refine gd_iconst (pc := 13) X 1 dL_commitOf_13 (by decide) ?_
      exact gd_x (gd_ret_i (pc := 14) X hr hlk rfl (by decide) (by decide) dL_commitOf_14 ⟨_, rfl, hx⟩)
    · refine gd_catch (i := 3) (hp := 15) (len := 1) X [⟨0, 9, 12, 25⟩] ⟨0, 9, 15, 15⟩ [] ht (fun z hz => by simp only [List.mem_cons, List.not_mem_nil, or_false] at hz; rcases hz with rfl <;> first | exact ⟨by decide, "java/lang/IndexOutOfBoundsException", by decide, tw_398, by decide⟩) rfl (by decide) tw_226 (by decide) (by decide) rfl (@fun H locs _ _ _ hE9 hk9 => lv_astore_n X.1 X.2.1 dL_commitOf_15 rfl h3 (by decide) hE9 hk9) h1 h2 h4 h5 h6 ?_
      refine gd_wide (k2 := 2) (j2 := 12) (Nat.le_of_ble_eq_true rfl) (Nat.le_of_ble_eq_true rfl) ?_
      refine gd_iconst (pc := 16) X 2 dL_commitOf_16 (by decide) ?_
      exact gd_x (gd_ret_i (pc := 17) X hr hlk rfl (by decide) (by decide) dL_commitOf_17 ⟨_, rfl, hx⟩)
abbrev rm_L_operationCount : Room := { frames := 8, cells := 1, slots := 6, locals := 143 }
def w_L_operationCount (S : MS) (a0 : Nat) (a1 : Int32) (a2 : Nat) (post : Int32 → MS → Prop) : Prop := kT S a0 = 6 ∧ w_X5_operationCount S a0 a1 (fun r3 S2 => kT S2 a2 = 15 ∧ vp_in 0 (kL S2 a2) ∧ ∀ S6 : MS, S6 = pL S2 a2 (ix 0) r3.toInt64 → post 0 S6) (fun Ex S9 => (Ex = "java/lang/IndexOutOfBoundsException" ∧ post 1 S9))
set_option maxHeartbeats 4000000 in
set_option maxRecDepth 100000 in
theorem ct_L_operationCount (l : Launch) (hfl : l.stackTraces = false) (G : GP) (S : MS) (a0 : Nat) (a1 : Int32) (a2 : Nat) (post : Int32 → MS → Prop) (h : w_L_operationCount S a0 a1 a2 post) : MetW l yL_operationCount cL_operationCount 4 (some .int) [(0, 9, 12, 25)] rm_L_operationCount [rf a0, .int a1, rf a2] G S (pI_ post) := by
  refine metW_of (by decide) (cat1_r (cat1_i (cat1_r cat1_n))) (Nat.le_of_ble_eq_true rfl) ?_
  intro p e s m args below meth c X hr hlk ht
  refine gd_aload_n (pc := 0) X 2 dL_operationCount_0 rfl ?_
  refine gd_iconst (pc := 1) X (0) dL_operationCount_1 (by decide) ?_
  refine gd_aload_n (pc := 2) X 0 dL_operationCount_2 rfl ?_
  refine gd_iload_n (pc := 3) X 1 dL_operationCount_3 rfl ?_
  obtain ⟨hk1, h⟩ := h
  refine gd_callVX (pc := 4) (As := [.int a1]) (rest := [.int 0, rf a2]) X (ct_X5_operationCount l hfl G S a0 a1 _ _ h) mw_X5_operationCount tw_734 ci5 rfl hk1 ⟨(Nat.le_of_ble_eq_true rfl), (Nat.le_of_ble_eq_true rfl)⟩ rfl rfl (Nat.le_of_ble_eq_true rfl) dL_operationCount_4 ⟨Nat.le_of_ble_eq_true rfl, Nat.le_of_ble_eq_true rfl⟩ (kI (fun r3 S2 h => ?_)) (fun Ex S9 hE hx H1 locs1 la q ce h1 h2 h3 h4 h5 h6 => ?_)
  · refine gd_wide (k2 := 1) (j2 := 6) (Nat.le_of_ble_eq_true rfl) (Nat.le_of_ble_eq_true rfl) ?_
    refine gd_i2l (pc := 7) X dL_operationCount_7 ?_
    obtain ⟨hk4, h⟩ := h
    obtain ⟨hi5, h⟩ := h
    refine gd_last (pc := 8) X dL_operationCount_8 hk4 hi5 ?_
    refine gd_topS (fun S6 hS6 => ?_)
    have h := h S6 hS6
    have hk7 : kT S6 a2 = 15 := by rw [hS6]; exact hk4
    refine gd_goto (pc := 9) X 15 dL_operationCount_9 (by decide) ?_
    refine gd_iconst (pc := 15) X (0) dL_operationCount_15 (by decide) ?_
    exact gd_x (gd_ret_i (pc := 16) X hr hlk rfl (by decide) (by decide) dL_operationCount_16 ⟨_, rfl, h⟩)
  · rcases hx with ⟨rfl, hx⟩
    · refine gd_catch (i := 3) (hp := 12) (len := 1) X [] ⟨0, 9, 12, 25⟩ [] ht (fun z hz => by cases hz) rfl (by decide) tw_398 (by decide) (by decide) rfl (@fun H locs _ _ _ hE9 hk9 => lv_astore_n X.1 X.2.1 dL_operationCount_12 rfl h3 (by decide) hE9 hk9) h1 h2 h4 h5 h6 ?_
      refine gd_wide (k2 := 1) (j2 := 6) (Nat.le_of_ble_eq_true rfl) (Nat.le_of_ble_eq_true rfl) ?_
      refine gd_iconst (pc := 13) X 1 dL_operationCount_13 (by decide) ?_
      exact gd_x (gd_ret_i (pc := 14) X hr hlk rfl (by decide) (by decide) dL_operationCount_14 ⟨_, rfl, hx⟩)
abbrev rm_L_recordedKeys : Room := { frames := 8, cells := 1, slots := 6, locals := 143 }
def w_L_recordedKeys (S : MS) (a0 : Nat) (a1 : Int32) (a2 : Nat) (post : Int32 → MS → Prop) : Prop := kT S a0 = 6 ∧ w_X5_recordedKeys S a0 a1 (fun r3 S2 => kT S2 a2 = 15 ∧ vp_in 0 (kL S2 a2) ∧ ∀ S6 : MS, S6 = pL S2 a2 (ix 0) r3.toInt64 → post 0 S6) (fun Ex S9 => (Ex = "java/lang/IndexOutOfBoundsException" ∧ post 1 S9))
set_option maxHeartbeats 4000000 in
set_option maxRecDepth 100000 in
theorem ct_L_recordedKeys (l : Launch) (hfl : l.stackTraces = false) (G : GP) (S : MS) (a0 : Nat) (a1 : Int32) (a2 : Nat) (post : Int32 → MS → Prop) (h : w_L_recordedKeys S a0 a1 a2 post) : MetW l yL_recordedKeys cL_recordedKeys 4 (some .int) [(0, 9, 12, 25)] rm_L_recordedKeys [rf a0, .int a1, rf a2] G S (pI_ post) := by
  refine metW_of (by decide) (cat1_r (cat1_i (cat1_r cat1_n))) (Nat.le_of_ble_eq_true rfl) ?_
  intro p e s m args below meth c X hr hlk ht
  refine gd_aload_n (pc := 0) X 2 dL_recordedKeys_0 rfl ?_
  refine gd_iconst (pc := 1) X (0) dL_recordedKeys_1 (by decide) ?_
  refine gd_aload_n (pc := 2) X 0 dL_recordedKeys_2 rfl ?_
  refine gd_iload_n (pc := 3) X 1 dL_recordedKeys_3 rfl ?_
  obtain ⟨hk1, h⟩ := h
  refine gd_callVX (pc := 4) (As := [.int a1]) (rest := [.int 0, rf a2]) X (ct_X5_recordedKeys l hfl G S a0 a1 _ _ h) mw_X5_recordedKeys tw_741 ci5 rfl hk1 ⟨(Nat.le_of_ble_eq_true rfl), (Nat.le_of_ble_eq_true rfl)⟩ rfl rfl (Nat.le_of_ble_eq_true rfl) dL_recordedKeys_4 ⟨Nat.le_of_ble_eq_true rfl, Nat.le_of_ble_eq_true rfl⟩ (kI (fun r3 S2 h => ?_)) (fun Ex S9 hE hx H1 locs1 la q ce h1 h2 h3 h4 h5 h6 => ?_)
  · refine gd_wide (k2 := 1) (j2 := 6) (Nat.le_of_ble_eq_true rfl) (Nat.le_of_ble_eq_true rfl) ?_
    refine gd_i2l (pc := 7) X dL_recordedKeys_7 ?_
    obtain ⟨hk4, h⟩ := h
    obtain ⟨hi5, h⟩ := h
    refine gd_last (pc := 8) X dL_recordedKeys_8 hk4 hi5 ?_
    refine gd_topS (fun S6 hS6 => ?_)
    have h := h S6 hS6
    have hk7 : kT S6 a2 = 15 := by rw [hS6]; exact hk4
    refine gd_goto (pc := 9) X 15 dL_recordedKeys_9 (by decide) ?_
    refine gd_iconst (pc := 15) X (0) dL_recordedKeys_15 (by decide) ?_
    exact gd_x (gd_ret_i (pc := 16) X hr hlk rfl (by decide) (by decide) dL_recordedKeys_16 ⟨_, rfl, h⟩)
  · rcases hx with ⟨rfl, hx⟩
    · refine gd_catch (i := 3) (hp := 12) (len := 1) X [] ⟨0, 9, 12, 25⟩ [] ht (fun z hz => by cases hz) rfl (by decide) tw_398 (by decide) (by decide) rfl (@fun H locs _ _ _ hE9 hk9 => lv_astore_n X.1 X.2.1 dL_recordedKeys_12 rfl h3 (by decide) hE9 hk9) h1 h2 h4 h5 h6 ?_
      refine gd_wide (k2 := 1) (j2 := 6) (Nat.le_of_ble_eq_true rfl) (Nat.le_of_ble_eq_true rfl) ?_
      refine gd_iconst (pc := 13) X 1 dL_recordedKeys_13 (by decide) ?_
      exact gd_x (gd_ret_i (pc := 14) X hr hlk rfl (by decide) (by decide) dL_recordedKeys_14 ⟨_, rfl, hx⟩)
abbrev rm_L_predicateCount : Room := { frames := 8, cells := 1, slots := 6, locals := 143 }
def w_L_predicateCount (S : MS) (a0 : Nat) (a1 : Int32) (a2 : Nat) (post : Int32 → MS → Prop) : Prop := kT S a0 = 6 ∧ w_X5_predicateCount S a0 a1 (fun r3 S2 => kT S2 a2 = 15 ∧ vp_in 0 (kL S2 a2) ∧ ∀ S6 : MS, S6 = pL S2 a2 (ix 0) r3.toInt64 → post 0 S6) (fun Ex S9 => (Ex = "java/lang/IndexOutOfBoundsException" ∧ post 1 S9))
set_option maxHeartbeats 4000000 in
set_option maxRecDepth 100000 in
theorem ct_L_predicateCount (l : Launch) (hfl : l.stackTraces = false) (G : GP) (S : MS) (a0 : Nat) (a1 : Int32) (a2 : Nat) (post : Int32 → MS → Prop) (h : w_L_predicateCount S a0 a1 a2 post) : MetW l yL_predicateCount cL_predicateCount 4 (some .int) [(0, 9, 12, 25)] rm_L_predicateCount [rf a0, .int a1, rf a2] G S (pI_ post) := by
  refine metW_of (by decide) (cat1_r (cat1_i (cat1_r cat1_n))) (Nat.le_of_ble_eq_true rfl) ?_
  intro p e s m args below meth c X hr hlk ht
  refine gd_aload_n (pc := 0) X 2 dL_predicateCount_0 rfl ?_
  refine gd_iconst (pc := 1) X (0) dL_predicateCount_1 (by decide) ?_
  refine gd_aload_n (pc := 2) X 0 dL_predicateCount_2 rfl ?_
  refine gd_iload_n (pc := 3) X 1 dL_predicateCount_3 rfl ?_
  obtain ⟨hk1, h⟩ := h
  refine gd_callVX (pc := 4) (As := [.int a1]) (rest := [.int 0, rf a2]) X (ct_X5_predicateCount l hfl G S a0 a1 _ _ h) mw_X5_predicateCount tw_748 ci5 rfl hk1 ⟨(Nat.le_of_ble_eq_true rfl), (Nat.le_of_ble_eq_true rfl)⟩ rfl rfl (Nat.le_of_ble_eq_true rfl) dL_predicateCount_4 ⟨Nat.le_of_ble_eq_true rfl, Nat.le_of_ble_eq_true rfl⟩ (kI (fun r3 S2 h => ?_)) (fun Ex S9 hE hx H1 locs1 la q ce h1 h2 h3 h4 h5 h6 => ?_)
  · refine gd_wide (k2 := 1) (j2 := 6) (Nat.le_of_ble_eq_true rfl) (Nat.le_of_ble_eq_true rfl) ?_
    refine gd_i2l (pc := 7) X dL_predicateCount_7 ?_
    obtain ⟨hk4, h⟩ := h
    obtain ⟨hi5, h⟩ := h
    refine gd_last (pc := 8) X dL_predicateCount_8 hk4 hi5 ?_
    refine gd_topS (fun S6 hS6 => ?_)
    have h := h S6 hS6
    have hk7 : kT S6 a2 = 15 := by rw [hS6]; exact hk4
    refine gd_goto (pc := 9) X 15 dL_predicateCount_9 (by decide) ?_
    refine gd_iconst (pc := 15) X (0) dL_predicateCount_15 (by decide) ?_
    exact gd_x (gd_ret_i (pc := 16) X hr hlk rfl (by decide) (by decide) dL_predicateCount_16 ⟨_, rfl, h⟩)
  · rcases hx with ⟨rfl, hx⟩
    · refine gd_catch (i := 3) (hp := 12) (len := 1) X [] ⟨0, 9, 12, 25⟩ [] ht (fun z hz => by cases hz) rfl (by decide) tw_398 (by decide) (by decide) rfl (@fun H locs _ _ _ hE9 hk9 => lv_astore_n X.1 X.2.1 dL_predicateCount_12 rfl h3 (by decide) hE9 hk9) h1 h2 h4 h5 h6 ?_
      refine gd_wide (k2 := 1) (j2 := 6) (Nat.le_of_ble_eq_true rfl) (Nat.le_of_ble_eq_true rfl) ?_
      refine gd_iconst (pc := 13) X 1 dL_predicateCount_13 (by decide) ?_
      exact gd_x (gd_ret_i (pc := 14) X hr hlk rfl (by decide) (by decide) dL_predicateCount_14 ⟨_, rfl, hx⟩)
abbrev rm_L_writtenKeys : Room := { frames := 8, cells := 1, slots := 6, locals := 143 }
def w_L_writtenKeys (S : MS) (a0 : Nat) (a1 : Int32) (a2 : Nat) (post : Int32 → MS → Prop) : Prop := kT S a0 = 6 ∧ w_X5_writtenKeys S a0 a1 (fun r3 S2 => kT S2 a2 = 15 ∧ vp_in 0 (kL S2 a2) ∧ ∀ S6 : MS, S6 = pL S2 a2 (ix 0) r3.toInt64 → post 0 S6) (fun Ex S9 => (Ex = "java/lang/IndexOutOfBoundsException" ∧ post 1 S9))
set_option maxHeartbeats 4000000 in
set_option maxRecDepth 100000 in
theorem ct_L_writtenKeys (l : Launch) (hfl : l.stackTraces = false) (G : GP) (S : MS) (a0 : Nat) (a1 : Int32) (a2 : Nat) (post : Int32 → MS → Prop) (h : w_L_writtenKeys S a0 a1 a2 post) : MetW l yL_writtenKeys cL_writtenKeys 4 (some .int) [(0, 9, 12, 25)] rm_L_writtenKeys [rf a0, .int a1, rf a2] G S (pI_ post) := by
  refine metW_of (by decide) (cat1_r (cat1_i (cat1_r cat1_n))) (Nat.le_of_ble_eq_true rfl) ?_
  intro p e s m args below meth c X hr hlk ht
  refine gd_aload_n (pc := 0) X 2 dL_writtenKeys_0 rfl ?_
  refine gd_iconst (pc := 1) X (0) dL_writtenKeys_1 (by decide) ?_
  refine gd_aload_n (pc := 2) X 0 dL_writtenKeys_2 rfl ?_
  refine gd_iload_n (pc := 3) X 1 dL_writtenKeys_3 rfl ?_
  obtain ⟨hk1, h⟩ := h
  refine gd_callVX (pc := 4) (As := [.int a1]) (rest := [.int 0, rf a2]) X (ct_X5_writtenKeys l hfl G S a0 a1 _ _ h) mw_X5_writtenKeys tw_760 ci5 rfl hk1 ⟨(Nat.le_of_ble_eq_true rfl), (Nat.le_of_ble_eq_true rfl)⟩ rfl rfl (Nat.le_of_ble_eq_true rfl) dL_writtenKeys_4 ⟨Nat.le_of_ble_eq_true rfl, Nat.le_of_ble_eq_true rfl⟩ (kI (fun r3 S2 h => ?_)) (fun Ex S9 hE hx H1 locs1 la q ce h1 h2 h3 h4 h5 h6 => ?_)
  · refine gd_wide (k2 := 1) (j2 := 6) (Nat.le_of_ble_eq_true rfl) (Nat.le_of_ble_eq_true rfl) ?_
    refine gd_i2l (pc := 7) X dL_writtenKeys_7 ?_
    obtain ⟨hk4, h⟩ := h
    obtain ⟨hi5, h⟩ := h
    refine gd_last (pc := 8) X dL_writtenKeys_8 hk4 hi5 ?_
    refine gd_topS (fun S6 hS6 => ?_)
    have h := h S6 hS6
    have hk7 : kT S6 a2 = 15 := by rw [hS6]; exact hk4
    refine gd_goto (pc := 9) X 15 dL_writtenKeys_9 (by decide) ?_
    refine gd_iconst (pc := 15) X (0) dL_writtenKeys_15 (by decide) ?_
    exact gd_x (gd_ret_i (pc := 16) X hr hlk rfl (by decide) (by decide) dL_writtenKeys_16 ⟨_, rfl, h⟩)
  · rcases hx with ⟨rfl, hx⟩
    · refine gd_catch (i := 3) (hp := 12) (len := 1) X [] ⟨0, 9, 12, 25⟩ [] ht (fun z hz => by cases hz) rfl (by decide) tw_398 (by decide) (by decide) rfl (@fun H locs _ _ _ hE9 hk9 => lv_astore_n X.1 X.2.1 dL_writtenKeys_12 rfl h3 (by decide) hE9 hk9) h1 h2 h4 h5 h6 ?_
      refine gd_wide (k2 := 1) (j2 := 6) (Nat.le_of_ble_eq_true rfl) (Nat.le_of_ble_eq_true rfl) ?_
      refine gd_iconst (pc := 13) X 1 dL_writtenKeys_13 (by decide) ?_
      exact gd_x (gd_ret_i (pc := 14) X hr hlk rfl (by decide) (by decide) dL_writtenKeys_14 ⟨_, rfl, hx⟩)
abbrev rm_L_isStale : Room := { frames := 9, cells := 2, slots := 12, locals := 165 }
def b_L_isStale_15 (post : Int32 → MS → Prop) (S : MS) (l0 : Nat) (l1 : Int32) (l2 : Nat) (s0 : Int64) (s1 : Int32) (s2 : Nat) : Prop := kT S s2 = 15 ∧ vp_in s1 (kL S s2) ∧ ∀ S3 : MS, S3 = pL S s2 (ix s1) s0 → post 0 S3
def w_L_isStale (S : MS) (a0 : Nat) (a1 : Int32) (a2 : Nat) (post : Int32 → MS → Prop) : Prop := kT S a0 = 6 ∧ w_X5_isStale S a0 a1 (fun r3 S2 => ((r3 = 0 → b_L_isStale_15 post S2 a0 a1 a2 0 0 a2) ∧ (¬ r3 = 0 → b_L_isStale_15 post S2 a0 a1 a2 1 0 a2))) (fun Ex S9 => (Ex = "java/lang/IndexOutOfBoundsException" ∧ post 1 S9) ∨ (Ex = "java/lang/IllegalStateException" ∧ post 2 S9))
set_option maxHeartbeats 4000000 in
set_option maxRecDepth 100000 in
theorem ct_L_isStale (l : Launch) (hfl : l.stackTraces = false) (G : GP) (S : MS) (a0 : Nat) (a1 : Int32) (a2 : Nat) (post : Int32 → MS → Prop) (h : w_L_isStale S a0 a1 a2 post) : MetW l yL_isStale cL_isStale 4 (some .int) [(0, 16, 19, 25), (0, 16, 22, 15)] rm_L_isStale [rf a0, .int a1, rf a2] G S (pI_ post) := by
  refine metW_of (by decide) (cat1_r (cat1_i (cat1_r cat1_n))) (Nat.le_of_ble_eq_true rfl) ?_
  intro p e s m args below meth c X hr hlk ht
  revert h
  have g15 : ∀ (S : MS) (l0 : Nat) (l1 : Int32) (l2 : Nat) (s0 : Int64) (s1 : Int32) (s2 : Nat), b_L_isStale_15 post S l0 l1 l2 s0 s1 s2 → Gd p l e rm_L_isStale s m args below meth c 4 G (vx_MQ below (QcM G (pI_ post)) (XcM G (fun _ _ => False)) args s rm_L_isStale.cells rm_L_isStale.slots (Ab G)) 2 12 S 15 [(0, rf l0), (1, .int l1), (2, rf l2)] [.long s0, .int s1, rf s2] := by
    intro S l0 l1 l2 s0 s1 s2 h
    obtain ⟨hk1, h⟩ := h
    obtain ⟨hi2, h⟩ := h
    refine gd_last (pc := 15) X dL_isStale_15 hk1 hi2 ?_
    refine gd_topS (fun S3 hS3 => ?_)
    have h := h S3 hS3
    have hk4 : kT S3 s2 = 15 := by rw [hS3]; exact hk1
    refine gd_goto (pc := 16) X 25 dL_isStale_16 (by decide) ?_
    refine gd_iconst (pc := 25) X (0) dL_isStale_25 (by decide) ?_
    exact gd_x (gd_ret_i (pc := 26) X hr hlk rfl (by decide) (by decide) dL_isStale_26 ⟨_, rfl, h⟩)
  intro h
  refine gd_aload_n (pc := 0) X 2 dL_isStale_0 rfl ?_
  refine gd_iconst (pc := 1) X (0) dL_isStale_1 (by decide) ?_
  refine gd_aload_n (pc := 2) X 0 dL_isStale_2 rfl ?_
  refine gd_iload_n (pc := 3) X 1 dL_isStale_3 rfl ?_
  obtain ⟨hk1, h⟩ := h
  refine gd_callVX (pc := 4) (As := [.int a1]) (rest := [.int 0, rf a2]) X (ct_X5_isStale l hfl G S a0 a1 _ _ h) mw_X5_isStale tw_767 ci5 rfl hk1 ⟨(Nat.le_of_ble_eq_true rfl), (Nat.le_of_ble_eq_true rfl)⟩ rfl rfl (Nat.le_of_ble_eq_true rfl) dL_isStale_4 ⟨Nat.le_of_ble_eq_true rfl, Nat.le_of_ble_eq_true rfl⟩ (kI (fun r3 S2 h => ?_)) (fun Ex S9 hE hx H1 locs1 la q ce h1 h2 h3 h4 h5 h6 => ?_)
  · refine gd_wide (k2 := 2) (j2 := 12) (Nat.le_of_ble_eq_true rfl) (Nat.le_of_ble_eq_true rfl) ?_
    refine gd_if_eq (pc := 7) X 14 dL_isStale_7 (by decide) (fun hc4 => ?_) (fun hc4 => ?_)
    · have h := h.1 hc4
      refine gd_lconst (pc := 14) X 0 dL_isStale_14 (by decide) ?_
      exact g15 _ _ _ _ _ _ _ h
    · have h := h.2 hc4
      refine gd_lconst (pc := 10) X 1 dL_isStale_10 (by decide) ?_
      refine gd_goto (pc := 11) X 15 dL_isStale_11 (by decide) ?_
      exact g15 _ _ _ _ _ _ _ h
  · rcases hx with ⟨rfl, hx⟩ | ⟨rfl, hx⟩
    · refine gd_catch (i := 3) (hp := 19) (len := 1) X [] ⟨0, 16, 19, 25⟩ [⟨0, 16, 22, 15⟩] ht (fun z hz => by cases hz) rfl (by decide) tw_398 (by decide) (by decide) rfl (@fun H locs _ _ _ hE9 hk9 => lv_astore_n X.1 X.2.1 dL_isStale_19 rfl h3 (by decide) hE9 hk9) h1 h2 h4 h5 h6 ?_
      refine gd_wide (k2 := 2) (j2 := 12) (Nat.le_of_ble_eq_true rfl) (Nat.le_of_ble_eq_true rfl) ?_
      refine gd_iconst (pc := 20) X 1 dL_isStale_20 (by decide) ?_
      exact gd_x (gd_ret_i (pc := 21) X hr hlk rfl (by decide) (by decide) dL_isStale_21 ⟨_, rfl, hx⟩)
    · refine gd_catch (i := 3) (hp := 22) (len := 1) X [⟨0, 16, 19, 25⟩] ⟨0, 16, 22, 15⟩ [] ht (fun z hz => by simp only [List.mem_cons, List.not_mem_nil, or_false] at hz; rcases hz with rfl <;> first | exact ⟨by decide, "java/lang/IndexOutOfBoundsException", by decide, tw_398, by decide⟩) rfl (by decide) tw_226 (by decide) (by decide) rfl (@fun H locs _ _ _ hE9 hk9 => lv_astore_n X.1 X.2.1 dL_isStale_22 rfl h3 (by decide) hE9 hk9) h1 h2 h4 h5 h6 ?_
      refine gd_wide (k2 := 2) (j2 := 12) (Nat.le_of_ble_eq_true rfl) (Nat.le_of_ble_eq_true rfl) ?_
      refine gd_iconst (pc := 23) X 2 dL_isStale_23 (by decide) ?_
      exact gd_x (gd_ret_i (pc := 24) X hr hlk rfl (by decide) (by decide) dL_isStale_24 ⟨_, rfl, hx⟩)
abbrev rm_L_rivals : Room := { frames := 9, cells := 2, slots := 12, locals := 165 }
def w_L_rivals (S : MS) (a0 : Nat) (a1 : Int32) (a2 : Nat) (post : Int32 → MS → Prop) : Prop := kT S a0 = 6 ∧ w_X5_rivals S a0 a1 (fun r3 S2 => kT S2 a2 = 15 ∧ vp_in 0 (kL S2 a2) ∧ ∀ S6 : MS, S6 = pL S2 a2 (ix 0) r3.toInt64 → post 0 S6) (fun Ex S9 => (Ex = "java/lang/IndexOutOfBoundsException" ∧ post 1 S9) ∨ (Ex = "java/lang/IllegalStateException" ∧ post 2 S9))
set_option maxHeartbeats 4000000 in
set_option maxRecDepth 100000 in
theorem ct_L_rivals (l : Launch) (hfl : l.stackTraces = false) (G : GP) (S : MS) (a0 : Nat) (a1 : Int32) (a2 : Nat) (post : Int32 → MS → Prop) (h : w_L_rivals S a0 a1 a2 post) : MetW l yL_rivals cL_rivals 4 (some .int) [(0, 9, 12, 25), (0, 9, 15, 15)] rm_L_rivals [rf a0, .int a1, rf a2] G S (pI_ post) := by
  refine metW_of (by decide) (cat1_r (cat1_i (cat1_r cat1_n))) (Nat.le_of_ble_eq_true rfl) ?_
  intro p e s m args below meth c X hr hlk ht
  refine gd_aload_n (pc := 0) X 2 dL_rivals_0 rfl ?_
  refine gd_iconst (pc := 1) X (0) dL_rivals_1 (by decide) ?_
  refine gd_aload_n (pc := 2) X 0 dL_rivals_2 rfl ?_
  refine gd_iload_n (pc := 3) X 1 dL_rivals_3 rfl ?_
  obtain ⟨hk1, h⟩ := h
  refine gd_callVX (pc := 4) (As := [.int a1]) (rest := [.int 0, rf a2]) X (ct_X5_rivals l hfl G S a0 a1 _ _ h) mw_X5_rivals tw_774 ci5 rfl hk1 ⟨(Nat.le_of_ble_eq_true rfl), (Nat.le_of_ble_eq_true rfl)⟩ rfl rfl (Nat.le_of_ble_eq_true rfl) dL_rivals_4 ⟨Nat.le_of_ble_eq_true rfl, Nat.le_of_ble_eq_true rfl⟩ (kI (fun r3 S2 h => ?_)) (fun Ex S9 hE hx H1 locs1 la q ce h1 h2 h3 h4 h5 h6 => ?_)
  · refine gd_wide (k2 := 2) (j2 := 12) (Nat.le_of_ble_eq_true rfl) (Nat.le_of_ble_eq_true rfl) ?_
    refine gd_i2l (pc := 7) X dL_rivals_7 ?_
    obtain ⟨hk4, h⟩ := h
    obtain ⟨hi5, h⟩ := h
    refine gd_last (pc := 8) X dL_rivals_8 hk4 hi5 ?_
    refine gd_topS (fun S6 hS6 => ?_)
    have h := h S6 hS6
    have hk7 : kT S6 a2 = 15 := by rw [hS6]; exact hk4
    refine gd_goto (pc := 9) X 18 dL_rivals_9 (by decide) ?_
    refine gd_iconst (pc := 18) X (0) dL_rivals_18 (by decide) ?_
    exact gd_x (gd_ret_i (pc := 19) X hr hlk rfl (by decide) (by decide) dL_rivals_19 ⟨_, rfl, h⟩)
  · rcases hx with ⟨rfl, hx⟩ | ⟨rfl, hx⟩
    · refine gd_catch (i := 3) (hp := 12) (len := 1) X [] ⟨0, 9, 12, 25⟩ [⟨0, 9, 15, 15⟩] ht (fun z hz => by cases hz) rfl (by decide) tw_398 (by decide) (by decide) rfl (@fun H locs _ _ _ hE9 hk9 => lv_astore_n X.1 X.2.1 dL_rivals_12 rfl h3 (by decide) hE9 hk9) h1 h2 h4 h5 h6 ?_
      refine gd_wide (k2 := 2) (j2 := 12) (Nat.le_of_ble_eq_true rfl) (Nat.le_of_ble_eq_true rfl) ?_
      refine gd_iconst (pc := 13) X 1 dL_rivals_13 (by decide) ?_
      exact gd_x (gd_ret_i (pc := 14) X hr hlk rfl (by decide) (by decide) dL_rivals_14 ⟨_, rfl, hx⟩)
    · refine gd_catch (i := 3) (hp := 15) (len := 1) X [⟨0, 9, 12, 25⟩] ⟨0, 9, 15, 15⟩ [] ht (fun z hz => by simp only [List.mem_cons, List.not_mem_nil, or_false] at hz; rcases hz with rfl <;> first | exact ⟨by decide, "java/lang/IndexOutOfBoundsException", by decide, tw_398, by decide⟩) rfl (by decide) tw_226 (by decide) (by decide) rfl (@fun H locs _ _ _ hE9 hk9 => lv_astore_n X.1 X.2.1 dL_rivals_15 rfl h3 (by decide) hE9 hk9) h1 h2 h4 h5 h6 ?_
      refine gd_wide (k2 := 2) (j2 := 12) (Nat.le_of_ble_eq_true rfl) (Nat.le_of_ble_eq_true rfl) ?_
      refine gd_iconst (pc := 16) X 2 dL_rivals_16 (by decide) ?_
      exact gd_x (gd_ret_i (pc := 17) X hr hlk rfl (by decide) (by decide) dL_rivals_17 ⟨_, rfl, hx⟩)
abbrev rm_L_value : Room := { frames := 8, cells := 1, slots := 6, locals := 141 }
def w_L_value (S : MS) (a0 : Nat) (a1 : Int32) (a2 : Nat) (post : Int32 → MS → Prop) : Prop := kT S a0 = 6 ∧ w_X5_value S a0 a1 (fun r3 S2 => kT S2 a2 = 15 ∧ vp_in 0 (kL S2 a2) ∧ ∀ S6 : MS, S6 = pL S2 a2 (ix 0) r3.toInt64 → post 0 S6) (fun Ex S9 => (Ex = "java/lang/IllegalArgumentException" ∧ post 1 S9))
set_option maxHeartbeats 4000000 in
set_option maxRecDepth 100000 in
theorem ct_L_value (l : Launch) (hfl : l.stackTraces = false) (G : GP) (S : MS) (a0 : Nat) (a1 : Int32) (a2 : Nat) (post : Int32 → MS → Prop) (h : w_L_value S a0 a1 a2 post) : MetW l yL_value cL_value 4 (some .int) [(0, 9, 12, 13)] rm_L_value [rf a0, .int a1, rf a2] G S (pI_ post) := by
  refine metW_of (by decide) (cat1_r (cat1_i (cat1_r cat1_n))) (Nat.le_of_ble_eq_true rfl) ?_
  intro p e s m args below meth c X hr hlk ht
  refine gd_aload_n (pc := 0) X 2 dL_value_0 rfl ?_
  refine gd_iconst (pc := 1) X (0) dL_value_1 (by decide) ?_
  refine gd_aload_n (pc := 2) X 0 dL_value_2 rfl ?_
  refine gd_iload_n (pc := 3) X 1 dL_value_3 rfl ?_
  obtain ⟨hk1, h⟩ := h
  refine gd_callVX (pc := 4) (As := [.int a1]) (rest := [.int 0, rf a2]) X (ct_X5_value l hfl G S a0 a1 _ _ h) mw_X5_value tw_785 ci5 rfl hk1 ⟨(Nat.le_of_ble_eq_true rfl), (Nat.le_of_ble_eq_true rfl)⟩ rfl rfl (Nat.le_of_ble_eq_true rfl) dL_value_4 ⟨Nat.le_of_ble_eq_true rfl, Nat.le_of_ble_eq_true rfl⟩ (kI (fun r3 S2 h => ?_)) (fun Ex S9 hE hx H1 locs1 la q ce h1 h2 h3 h4 h5 h6 => ?_)
  · refine gd_wide (k2 := 1) (j2 := 6) (Nat.le_of_ble_eq_true rfl) (Nat.le_of_ble_eq_true rfl) ?_
    refine gd_i2l (pc := 7) X dL_value_7 ?_
    obtain ⟨hk4, h⟩ := h
    obtain ⟨hi5, h⟩ := h
    refine gd_last (pc := 8) X dL_value_8 hk4 hi5 ?_
    refine gd_topS (fun S6 hS6 => ?_)
    have h := h S6 hS6
    have hk7 : kT S6 a2 = 15 := by rw [hS6]; exact hk4
    refine gd_goto (pc := 9) X 15 dL_value_9 (by decide) ?_
    refine gd_iconst (pc := 15) X (0) dL_value_15 (by decide) ?_
    exact gd_x (gd_ret_i (pc := 16) X hr hlk rfl (by decide) (by decide) dL_value_16 ⟨_, rfl, h⟩)
  · rcases hx with ⟨rfl, hx⟩
    · refine gd_catch (i := 3) (hp := 12) (len := 1) X [] ⟨0, 9, 12, 13⟩ [] ht (fun z hz => by cases hz) rfl (by decide) tw_225 (by decide) (by decide) rfl (@fun H locs _ _ _ hE9 hk9 => lv_astore_n X.1 X.2.1 dL_value_12 rfl h3 (by decide) hE9 hk9) h1 h2 h4 h5 h6 ?_
      refine gd_wide (k2 := 1) (j2 := 6) (Nat.le_of_ble_eq_true rfl) (Nat.le_of_ble_eq_true rfl) ?_
      refine gd_iconst (pc := 13) X 1 dL_value_13 (by decide) ?_
      exact gd_x (gd_ret_i (pc := 14) X hr hlk rfl (by decide) (by decide) dL_value_14 ⟨_, rfl, hx⟩)
abbrev rm_L_valueAt : Room := { frames := 8, cells := 2, slots := 12, locals := 144 }
def w_L_valueAt (S : MS) (a0 : Nat) (a1 : Int32) (a2 : Int32) (a3 : Nat) (post : Int32 → MS → Prop) : Prop := kT S a0 = 6 ∧ w_X5_valueAt S a0 a1 a2 (fun r3 S2 => kT S2 a3 = 15 ∧ vp_in 0 (kL S2 a3) ∧ ∀ S6 : MS, S6 = pL S2 a3 (ix 0) r3.toInt64 → post 0 S6) (fun Ex S9 => (Ex = "java/lang/IllegalArgumentException" ∧ post 1 S9) ∨ (Ex = "java/lang/IndexOutOfBoundsException" ∧ post 2 S9))
set_option maxHeartbeats 4000000 in
set_option maxRecDepth 100000 in
theorem ct_L_valueAt (l : Launch) (hfl : l.stackTraces = false) (G : GP) (S : MS) (a0 : Nat) (a1 : Int32) (a2 : Int32) (a3 : Nat) (post : Int32 → MS → Prop) (h : w_L_valueAt S a0 a1 a2 a3 post) : MetW l yL_valueAt cL_valueAt 5 (some .int) [(0, 10, 13, 13), (0, 10, 17, 25)] rm_L_valueAt [rf a0, .int a1, .int a2, rf a3] G S (pI_ post) := by
  refine metW_of (by decide) (cat1_r (cat1_i (cat1_i (cat1_r cat1_n)))) (Nat.le_of_ble_eq_true rfl) ?_
  intro p e s m args below meth c X hr hlk ht
  refine gd_aload_n (pc := 0) X 3 dL_valueAt_0 rfl ?_
  refine gd_iconst (pc := 1) X (0) dL_valueAt_1 (by decide) ?_
  refine gd_aload_n (pc := 2) X 0 dL_valueAt_2 rfl ?_
  refine gd_iload_n (pc := 3) X 1 dL_valueAt_3 rfl ?_
  refine gd_iload_n (pc := 4) X 2 dL_valueAt_4 rfl ?_
  obtain ⟨hk1, h⟩ := h
  refine gd_callVX (pc := 5) (As := [.int a1, .int a2]) (rest := [.int 0, rf a3]) X (ct_X5_valueAt l hfl G S a0 a1 a2 _ _ h) mw_X5_valueAt tw_797 ci5 rfl hk1 ⟨(Nat.le_of_ble_eq_true rfl), (Nat.le_of_ble_eq_true rfl)⟩ rfl rfl (Nat.le_of_ble_eq_true rfl) dL_valueAt_5 ⟨Nat.le_of_ble_eq_true rfl, Nat.le_of_ble_eq_true rfl⟩ (kI (fun r3 S2 h => ?_)) (fun Ex S9 hE hx H1 locs1 la q ce h1 h2 h3 h4 h5 h6 => ?_)
  · refine gd_wide (k2 := 2) (j2 := 12) (Nat.le_of_ble_eq_true rfl) (Nat.le_of_ble_eq_true rfl) ?_
    refine gd_i2l (pc := 8) X dL_valueAt_8 ?_
    obtain ⟨hk4, h⟩ := h
    obtain ⟨hi5, h⟩ := h
    refine gd_last (pc := 9) X dL_valueAt_9 hk4 hi5 ?_
    refine gd_topS (fun S6 hS6 => ?_)
    have h := h S6 hS6
    have hk7 : kT S6 a3 = 15 := by rw [hS6]; exact hk4
    refine gd_goto (pc := 10) X 21 dL_valueAt_10 (by decide) ?_
    refine gd_iconst (pc := 21) X (0) dL_valueAt_21 (by decide) ?_
    exact gd_x (gd_ret_i (pc := 22) X hr hlk rfl (by decide) (by decide) dL_valueAt_22 ⟨_, rfl, h⟩)
  · rcases hx with ⟨rfl, hx⟩ | ⟨rfl, hx⟩
    · refine gd_catch (i := 4) (hp := 13) (len := 2) X [] ⟨0, 10, 13, 13⟩ [⟨0, 10, 17, 25⟩] ht (fun z hz => by cases hz) rfl (by decide) tw_225 (by decide) (by decide) rfl (@fun H locs _ _ _ hE9 hk9 => lv_astore X.1 X.2.1 dL_valueAt_13 h3 (by decide) hE9 hk9) h1 h2 h4 h5 h6 ?_
      refine gd_wide (k2 := 2) (j2 := 12) (Nat.le_of_ble_eq_true rfl) (Nat.le_of_ble_eq_true rfl) ?_
      refine gd_iconst (pc := 15) X 1 dL_valueAt_15 (by decide) ?_
      exact gd_x (gd_ret_i (pc := 16) X hr hlk rfl (by decide) (by decide) dL_valueAt_16 ⟨_, rfl, hx⟩)
    · refine gd_catch (i := 4) (hp := 17) (len := 2) X [⟨0, 10, 13, 13⟩] ⟨0, 10, 17, 25⟩ [] ht (fun z hz => by simp only [List.mem_cons, List.not_mem_nil, or_false] at hz; rcases hz with rfl <;> first | exact ⟨by decide, "java/lang/IllegalArgumentException", by decide, tw_225, by decide⟩) rfl (by decide) tw_398 (by decide) (by decide) rfl (@fun H locs _ _ _ hE9 hk9 => lv_astore X.1 X.2.1 dL_valueAt_17 h3 (by decide) hE9 hk9) h1 h2 h4 h5 h6 ?_
      refine gd_wide (k2 := 2) (j2 := 12) (Nat.le_of_ble_eq_true rfl) (Nat.le_of_ble_eq_true rfl) ?_
      refine gd_iconst (pc := 19) X 2 dL_valueAt_19 (by decide) ?_
      exact gd_x (gd_ret_i (pc := 20) X hr hlk rfl (by decide) (by decide) dL_valueAt_20 ⟨_, rfl, hx⟩)
abbrev rm_L_writerOf : Room := { frames := 8, cells := 1, slots := 6, locals := 141 }
def w_L_writerOf (S : MS) (a0 : Nat) (a1 : Int32) (a2 : Nat) (post : Int32 → MS → Prop) : Prop := kT S a0 = 6 ∧ w_X5_writerOf S a0 a1 (fun r3 S2 => kT S2 a2 = 15 ∧ vp_in 0 (kL S2 a2) ∧ ∀ S6 : MS, S6 = pL S2 a2 (ix 0) r3.toInt64 → post 0 S6) (fun Ex S9 => (Ex = "java/lang/IllegalArgumentException" ∧ post 1 S9))
set_option maxHeartbeats 4000000 in
set_option maxRecDepth 100000 in
theorem ct_L_writerOf (l : Launch) (hfl : l.stackTraces = false) (G : GP) (S : MS) (a0 : Nat) (a1 : Int32) (a2 : Nat) (post : Int32 → MS → Prop) (h : w_L_writerOf S a0 a1 a2 post) : MetW l yL_writerOf cL_writerOf 4 (some .int) [(0, 9, 12, 13)] rm_L_writerOf [rf a0, .int a1, rf a2] G S (pI_ post) := by
  refine metW_of (by decide) (cat1_r (cat1_i (cat1_r cat1_n))) (Nat.le_of_ble_eq_true rfl) ?_
  intro p e s m args below meth c X hr hlk ht
  refine gd_aload_n (pc := 0) X 2 dL_writerOf_0 rfl ?_
  refine gd_iconst (pc := 1) X (0) dL_writerOf_1 (by decide) ?_
  refine gd_aload_n (pc := 2) X 0 dL_writerOf_2 rfl ?_
  refine gd_iload_n (pc := 3) X 1 dL_writerOf_3 rfl ?_
  obtain ⟨hk1, h⟩ := h
  refine gd_callVX (pc := 4) (As := [.int a1]) (rest := [.int 0, rf a2]) X (ct_X5_writerOf l hfl G S a0 a1 _ _ h) mw_X5_writerOf tw_809 ci5 rfl hk1 ⟨(Nat.le_of_ble_eq_true rfl), (Nat.le_of_ble_eq_true rfl)⟩ rfl rfl (Nat.le_of_ble_eq_true rfl) dL_writerOf_4 ⟨Nat.le_of_ble_eq_true rfl, Nat.le_of_ble_eq_true rfl⟩ (kI (fun r3 S2 h => ?_)) (fun Ex S9 hE hx H1 locs1 la q ce h1 h2 h3 h4 h5 h6 => ?_)
  · refine gd_wide (k2 := 1) (j2 := 6) (Nat.le_of_ble_eq_true rfl) (Nat.le_of_ble_eq_true rfl) ?_
    refine gd_i2l (pc := 7) X dL_writerOf_7 ?_
    obtain ⟨hk4, h⟩ := h
    obtain ⟨hi5, h⟩ := h
    refine gd_last (pc := 8) X dL_writerOf_8 hk4 hi5 ?_
    refine gd_topS (fun S6 hS6 => ?_)
    have h := h S6 hS6
    have hk7 : kT S6 a2 = 15 := by rw [hS6]; exact hk4
    refine gd_goto (pc := 9) X 15 dL_writerOf_9 (by decide) ?_
    refine gd_iconst (pc := 15) X (0) dL_writerOf_15 (by decide) ?_
    exact gd_x (gd_ret_i (pc := 16) X hr hlk rfl (by decide) (by decide) dL_writerOf_16 ⟨_, rfl, h⟩)
  · rcases hx with ⟨rfl, hx⟩
    · refine gd_catch (i := 3) (hp := 12) (len := 1) X [] ⟨0, 9, 12, 13⟩ [] ht (fun z hz => by cases hz) rfl (by decide) tw_225 (by decide) (by decide) rfl (@fun H locs _ _ _ hE9 hk9 => lv_astore_n X.1 X.2.1 dL_writerOf_12 rfl h3 (by decide) hE9 hk9) h1 h2 h4 h5 h6 ?_
      refine gd_wide (k2 := 1) (j2 := 6) (Nat.le_of_ble_eq_true rfl) (Nat.le_of_ble_eq_true rfl) ?_
      refine gd_iconst (pc := 13) X 1 dL_writerOf_13 (by decide) ?_
      exact gd_x (gd_ret_i (pc := 14) X hr hlk rfl (by decide) (by decide) dL_writerOf_14 ⟨_, rfl, hx⟩)
abbrev rm_L_transactionOf : Room := { frames := 8, cells := 1, slots := 6, locals := 144 }
def w_L_transactionOf (S : MS) (a0 : Nat) (a1 : Int32) (a2 : Nat) (post : Int32 → MS → Prop) : Prop := kT S a0 = 6 ∧ w_X5_transactionOf S a0 a1 (fun r3 S2 => kT S2 a2 = 15 ∧ vp_in 0 (kL S2 a2) ∧ ∀ S6 : MS, S6 = pL S2 a2 (ix 0) r3.toInt64 → post 0 S6) (fun Ex S9 => (Ex = "java/lang/IndexOutOfBoundsException" ∧ post 1 S9))
set_option maxHeartbeats 4000000 in
set_option maxRecDepth 100000 in
theorem ct_L_transactionOf (l : Launch) (hfl : l.stackTraces = false) (G : GP) (S : MS) (a0 : Nat) (a1 : Int32) (a2 : Nat) (post : Int32 → MS → Prop) (h : w_L_transactionOf S a0 a1 a2 post) : MetW l yL_transactionOf cL_transactionOf 4 (some .int) [(0, 9, 12, 25)] rm_L_transactionOf [rf a0, .int a1, rf a2] G S (pI_ post) := by
  refine metW_of (by decide) (cat1_r (cat1_i (cat1_r cat1_n))) (Nat.le_of_ble_eq_true rfl) ?_
  intro p e s m args below meth c X hr hlk ht
  refine gd_aload_n (pc := 0) X 2 dL_transactionOf_0 rfl ?_
  refine gd_iconst (pc := 1) X (0) dL_transactionOf_1 (by decide) ?_
  refine gd_aload_n (pc := 2) X 0 dL_transactionOf_2 rfl ?_
  refine gd_iload_n (pc := 3) X 1 dL_transactionOf_3 rfl ?_
  obtain ⟨hk1, h⟩ := h
  refine gd_callVX (pc := 4) (As := [.int a1]) (rest := [.int 0, rf a2]) X (ct_X5_transactionOf l hfl G S a0 a1 _ _ h) mw_X5_transactionOf tw_817 ci5 rfl hk1 ⟨(Nat.le_of_ble_eq_true rfl), (Nat.le_of_ble_eq_true rfl)⟩ rfl rfl (Nat.le_of_ble_eq_true rfl) dL_transactionOf_4 ⟨Nat.le_of_ble_eq_true rfl, Nat.le_of_ble_eq_true rfl⟩ (kI (fun r3 S2 h => ?_)) (fun Ex S9 hE hx H1 locs1 la q ce h1 h2 h3 h4 h5 h6 => ?_)
  · refine gd_wide (k2 := 1) (j2 := 6) (Nat.le_of_ble_eq_true rfl) (Nat.le_of_ble_eq_true rfl) ?_
    refine gd_i2l (pc := 7) X dL_transactionOf_7 ?_
    obtain ⟨hk4, h⟩ := h
    obtain ⟨hi5, h⟩ := h
    refine gd_last (pc := 8) X dL_transactionOf_8 hk4 hi5 ?_
    refine gd_topS (fun S6 hS6 => ?_)
    have h := h S6 hS6
    have hk7 : kT S6 a2 = 15 := by rw [hS6]; exact hk4
    refine gd_goto (pc := 9) X 15 dL_transactionOf_9 (by decide) ?_
    refine gd_iconst (pc := 15) X (0) dL_transactionOf_15 (by decide) ?_
    exact gd_x (gd_ret_i (pc := 16) X hr hlk rfl (by decide) (by decide) dL_transactionOf_16 ⟨_, rfl, h⟩)
  · rcases hx with ⟨rfl, hx⟩
    · refine gd_catch (i := 3) (hp := 12) (len := 1) X [] ⟨0, 9, 12, 25⟩ [] ht (fun z hz => by cases hz) rfl (by decide) tw_398 (by decide) (by decide) rfl (@fun H locs _ _ _ hE9 hk9 => lv_astore_n X.1 X.2.1 dL_transactionOf_12 rfl h3 (by decide) hE9 hk9) h1 h2 h4 h5 h6 ?_
      refine gd_wide (k2 := 1) (j2 := 6) (Nat.le_of_ble_eq_true rfl) (Nat.le_of_ble_eq_true rfl) ?_
      refine gd_iconst (pc := 13) X 1 dL_transactionOf_13 (by decide) ?_
      exact gd_x (gd_ret_i (pc := 14) X hr hlk rfl (by decide) (by decide) dL_transactionOf_14 ⟨_, rfl, hx⟩)
abbrev rm_L_dependency : Room := { frames := 8, cells := 3, slots := 18, locals := 144 }
def w_L_dependency (S : MS) (a0 : Nat) (a1 : Int32) (a2 : Int32) (a3 : Nat) (post : Int32 → MS → Prop) : Prop := kT S a0 = 6 ∧ w_X5_dependency S a0 a1 a2 (fun r3 S2 => kT S2 a3 = 15 ∧ vp_in 0 (kL S2 a3) ∧ ∀ S6 : MS, S6 = pL S2 a3 (ix 0) r3.toInt64 → post 0 S6) (fun Ex S9 => (Ex = "java/lang/IndexOutOfBoundsException" ∧ post 1 S9) ∨ (Ex = "java/lang/IllegalArgumentException" ∧ post 2 S9))
set_option maxHeartbeats 4000000 in
set_option maxRecDepth 100000 in
theorem ct_L_dependency (l : Launch) (hfl : l.stackTraces = false) (G : GP) (S : MS) (a0 : Nat) (a1 : Int32) (a2 : Int32) (a3 : Nat) (post : Int32 → MS → Prop) (h : w_L_dependency S a0 a1 a2 a3 post) : MetW l yL_dependency cL_dependency 5 (some .int) [(0, 10, 13, 25), (0, 10, 17, 13)] rm_L_dependency [rf a0, .int a1, .int a2, rf a3] G S (pI_ post) := by
  refine metW_of (by decide) (cat1_r (cat1_i (cat1_i (cat1_r cat1_n)))) (Nat.le_of_ble_eq_true rfl) ?_
  intro p e s m args below meth c X hr hlk ht
  refine gd_aload_n (pc := 0) X 3 dL_dependency_0 rfl ?_
  refine gd_iconst (pc := 1) X (0) dL_dependency_1 (by decide) ?_
  refine gd_aload_n (pc := 2) X 0 dL_dependency_2 rfl ?_
  refine gd_iload_n (pc := 3) X 1 dL_dependency_3 rfl ?_
  refine gd_iload_n (pc := 4) X 2 dL_dependency_4 rfl ?_
  obtain ⟨hk1, h⟩ := h
  refine gd_callVX (pc := 5) (As := [.int a1, .int a2]) (rest := [.int 0, rf a3]) X (ct_X5_dependency l hfl G S a0 a1 a2 _ _ h) mw_X5_dependency tw_824 ci5 rfl hk1 ⟨(Nat.le_of_ble_eq_true rfl), (Nat.le_of_ble_eq_true rfl)⟩ rfl rfl (Nat.le_of_ble_eq_true rfl) dL_dependency_5 ⟨Nat.le_of_ble_eq_true rfl, Nat.le_of_ble_eq_true rfl⟩ (kI (fun r3 S2 h => ?_)) (fun Ex S9 hE hx H1 locs1 la q ce h1 h2 h3 h4 h5 h6 => ?_)
  · refine gd_wide (k2 := 3) (j2 := 18) (Nat.le_of_ble_eq_true rfl) (Nat.le_of_ble_eq_true rfl) ?_
    refine gd_i2l (pc := 8) X dL_dependency_8 ?_
    obtain ⟨hk4, h⟩ := h
    obtain ⟨hi5, h⟩ := h
    refine gd_last (pc := 9) X dL_dependency_9 hk4 hi5 ?_
    refine gd_topS (fun S6 hS6 => ?_)
    have h := h S6 hS6
    have hk7 : kT S6 a3 = 15 := by rw [hS6]; exact hk4
    refine gd_goto (pc := 10) X 21 dL_dependency_10 (by decide) ?_
    refine gd_iconst (pc := 21) X (0) dL_dependency_21 (by decide) ?_
    exact gd_x (gd_ret_i (pc := 22) X hr hlk rfl (by decide) (by decide) dL_dependency_22 ⟨_, rfl, h⟩)
  · rcases hx with ⟨rfl, hx⟩ | ⟨rfl, hx⟩
    · refine gd_catch (i := 4) (hp := 13) (len := 2) X [] ⟨0, 10, 13, 25⟩ [⟨0, 10, 17, 13⟩] ht (fun z hz => by cases hz) rfl (by decide) tw_398 (by decide) (by decide) rfl (@fun H locs _ _ _ hE9 hk9 => lv_astore X.1 X.2.1 dL_dependency_13 h3 (by decide) hE9 hk9) h1 h2 h4 h5 h6 ?_
      refine gd_wide (k2 := 3) (j2 := 18) (Nat.le_of_ble_eq_true rfl) (Nat.le_of_ble_eq_true rfl) ?_
      refine gd_iconst (pc := 15) X 1 dL_dependency_15 (by decide) ?_
      exact gd_x (gd_ret_i (pc := 16) X hr hlk rfl (by decide) (by decide) dL_dependency_16 ⟨_, rfl, hx⟩)
    · refine gd_catch (i := 4) (hp := 17) (len := 2) X [⟨0, 10, 13, 25⟩] ⟨0, 10, 17, 13⟩ [] ht (fun z hz => by simp only [List.mem_cons, List.not_mem_nil, or_false] at hz; rcases hz with rfl <;> first | exact ⟨by decide, "java/lang/IndexOutOfBoundsException", by decide, tw_398, by decide⟩) rfl (by decide) tw_225 (by decide) (by decide) rfl (@fun H locs _ _ _ hE9 hk9 => lv_astore X.1 X.2.1 dL_dependency_17 h3 (by decide) hE9 hk9) h1 h2 h4 h5 h6 ?_
      refine gd_wide (k2 := 3) (j2 := 18) (Nat.le_of_ble_eq_true rfl) (Nat.le_of_ble_eq_true rfl) ?_
      refine gd_iconst (pc := 19) X 2 dL_dependency_19 (by decide) ?_
      exact gd_x (gd_ret_i (pc := 20) X hr hlk rfl (by decide) (by decide) dL_dependency_20 ⟨_, rfl, hx⟩)
abbrev rm_L_rewind : Room := { frames := 8, cells := 2, slots := 12, locals := 143 }
def w_L_rewind (S : MS) (a0 : Nat) (a1 : Int32) (a2 : Nat) (post : Int32 → MS → Prop) : Prop := kT S a0 = 6 ∧ w_X5_rewind S a0 a1 (fun r3 S2 => kT S2 a2 = 15 ∧ vp_in 0 (kL S2 a2) ∧ ∀ S6 : MS, S6 = pL S2 a2 (ix 0) r3.toInt64 → post 0 S6) (fun Ex S9 => (Ex = "java/lang/IndexOutOfBoundsException" ∧ post 1 S9) ∨ (Ex = "java/lang/IllegalStateException" ∧ post 2 S9))
set_option maxHeartbeats 4000000 in
set_option maxRecDepth 100000 in
theorem ct_L_rewind (l : Launch) (hfl : l.stackTraces = false) (G : GP) (S : MS) (a0 : Nat) (a1 : Int32) (a2 : Nat) (post : Int32 → MS → Prop) (h : w_L_rewind S a0 a1 a2 post) : MetW l yL_rewind cL_rewind 4 (some .int) [(0, 9, 12, 25), (0, 9, 15, 15)] rm_L_rewind [rf a0, .int a1, rf a2] G S (pI_ post) := by
  refine metW_of (by decide) (cat1_r (cat1_i (cat1_r cat1_n))) (Nat.le_of_ble_eq_true rfl) ?_
  intro p e s m args below meth c X hr hlk ht
  refine gd_aload_n (pc := 0) X 2 dL_rewind_0 rfl ?_
  refine gd_iconst (pc := 1) X (0) dL_rewind_1 (by decide) ?_
  refine gd_aload_n (pc := 2) X 0 dL_rewind_2 rfl ?_
  refine gd_iload_n (pc := 3) X 1 dL_rewind_3 rfl ?_
  obtain ⟨hk1, h⟩ := h
  refine gd_callVX (pc := 4) (As := [.int a1]) (rest := [.int 0, rf a2]) X (ct_X5_rewind l hfl G S a0 a1 _ _ h) mw_X5_rewind tw_832 ci5 rfl hk1 ⟨(Nat.le_of_ble_eq_true rfl), (Nat.le_of_ble_eq_true rfl)⟩ rfl rfl (Nat.le_of_ble_eq_true rfl) dL_rewind_4 ⟨Nat.le_of_ble_eq_true rfl, Nat.le_of_ble_eq_true rfl⟩ (kI (fun r3 S2 h => ?_)) (fun Ex S9 hE hx H1 locs1 la q ce h1 h2 h3 h4 h5 h6 => ?_)
  · refine gd_wide (k2 := 2) (j2 := 12) (Nat.le_of_ble_eq_true rfl) (Nat.le_of_ble_eq_true rfl) ?_
    refine gd_i2l (pc := 7) X dL_rewind_7 ?_
    obtain ⟨hk4, h⟩ := h
    obtain ⟨hi5, h⟩ := h
    refine gd_last (pc := 8) X dL_rewind_8 hk4 hi5 ?_
    refine gd_topS (fun S6 hS6 => ?_)
    have h := h S6 hS6
    have hk7 : kT S6 a2 = 15 := by rw [hS6]; exact hk4
    refine gd_goto (pc := 9) X 18 dL_rewind_9 (by decide) ?_
    refine gd_iconst (pc := 18) X (0) dL_rewind_18 (by decide) ?_
    exact gd_x (gd_ret_i (pc := 19) X hr hlk rfl (by decide) (by decide) dL_rewind_19 ⟨_, rfl, h⟩)
  · rcases hx with ⟨rfl, hx⟩ | ⟨rfl, hx⟩
    · refine gd_catch (i := 3) (hp := 12) (len := 1) X [] ⟨0, 9, 12, 25⟩ [⟨0, 9, 15, 15⟩] ht (fun z hz => by cases hz) rfl (by decide) tw_398 (by decide) (by decide) rfl (@fun H locs _ _ _ hE9 hk9 => lv_astore_n X.1 X.2.1 dL_rewind_12 rfl h3 (by decide) hE9 hk9) h1 h2 h4 h5 h6 ?_
      refine gd_wide (k2 := 2) (j2 := 12) (Nat.le_of_ble_eq_true rfl) (Nat.le_of_ble_eq_true rfl) ?_
      refine gd_iconst (pc := 13) X 1 dL_rewind_13 (by decide) ?_
      exact gd_x (gd_ret_i (pc := 14) X hr hlk rfl (by decide) (by decide) dL_rewind_14 ⟨_, rfl, hx⟩)
    · refine gd_catch (i := 3) (hp := 15) (len := 1) X [⟨0, 9, 12, 25⟩] ⟨0, 9, 15, 15⟩ [] ht (fun z hz => by simp only [List.mem_cons, List.not_mem_nil, or_false] at hz; rcases hz with rfl <;> first | exact ⟨by decide, "java/lang/IndexOutOfBoundsException", by decide, tw_398, by decide⟩) rfl (by decide) tw_226 (by decide) (by decide) rfl (@fun H locs _ _ _ hE9 hk9 => lv_astore_n X.1 X.2.1 dL_rewind_15 rfl h3 (by decide) hE9 hk9) h1 h2 h4 h5 h6 ?_
      refine gd_wide (k2 := 2) (j2 := 12) (Nat.le_of_ble_eq_true rfl) (Nat.le_of_ble_eq_true rfl) ?_
      refine gd_iconst (pc := 16) X 2 dL_rewind_16 (by decide) ?_
      exact gd_x (gd_ret_i (pc := 17) X hr hlk rfl (by decide) (by decide) dL_rewind_17 ⟨_, rfl, hx⟩)
