abbrev rm_X5_violatesConstraint : Room := { frames := 2, cells := 0, slots := 0, locals := 47 }
def b_X5_violatesConstraint_31 (KH2 : MS → Nat → Nat → Int32 → Prop) (post : Int32 → MS → Prop) (S : MS) (l0 : Nat) (l1 : Nat) (l2 : Int32) (l3 : Nat) : Prop := ∀ v1 : Int32, v1 = l2 + 1 → KH2 S l0 l1 v1
def b_X5_violatesConstraint_2 (post : Int32 → MS → Prop) : Nat → MS → Nat → Nat → Int32 → Prop
  | 0 => fun _ _ _ _ => False
  | f + 1 => fun S l0 l1 l2 => kT S l0 = 6 ∧ (((sI S l0 7) ≤ l2 → post 0 S) ∧ (¬ (sI S l0 7) ≤ l2 → kT S (sR S l0 2) = 11 ∧ vp_in l2 (kL S (sR S l0 2)) ∧ ∀ r4 : Nat, r4 = sR S (sR S l0 2) (ix l2) → ((r4 = 0 → b_X5_violatesConstraint_31 (b_X5_violatesConstraint_2 post f) post S l0 l1 l2 r4) ∧ (¬ r4 = 0 → kT S r4 = 1 ∧ w_X0_isViolatedBy S r4 l1 (fun r7 S6 => ((r7 = 0 → b_X5_violatesConstraint_31 (b_X5_violatesConstraint_2 post f) post S6 l0 l1 l2 r4) ∧ (¬ r7 = 0 → post 1 S6)))))))
def w_X5_violatesConstraint (S : MS) (a0 : Nat) (a1 : Nat) (post : Int32 → MS → Prop) : Prop := ∃ f2, b_X5_violatesConstraint_2 post f2 S a0 a1 0
set_option maxHeartbeats 4000000 in
set_option maxRecDepth 100000 in
theorem ct_X5_violatesConstraint (l : Launch) (G : GP) (S : MS) (a0 : Nat) (a1 : Nat) (post : Int32 → MS → Prop) (h : w_X5_violatesConstraint S a0 a1 post) : MetM l yX5_violatesConstraint cX5_violatesConstraint 4 (some .boolean) rm_X5_violatesConstraint [rf a0, rf a1] G S (pI_ post) := by
  refine met_of (by decide) (cat1_r (cat1_r cat1_n)) (Nat.le_of_ble_eq_true rfl) ?_
  intro p e s m args below meth c X hr hlk hin
  revert h
  have g31 : ∀ (KH2 : MS → Nat → Nat → Int32 → Prop) (hKH2 : ∀ (S : MS) (l0 : Nat) (l1 : Nat) (l2 : Int32), KH2 S l0 l1 l2 → Gd p l e rm_X5_violatesConstraint s m args below meth c 4 G (MQ below (QcM G (pI_ post)) args s rm_X5_violatesConstraint.cells rm_X5_violatesConstraint.slots (Ab G)) 0 0 S 2 [(0, rf l0), (1, rf l1), (2, .int l2)] []) (S : MS) (l0 : Nat) (l1 : Nat) (l2 : Int32) (l3 : Nat), b_X5_violatesConstraint_31 KH2 post S l0 l1 l2 l3 → Gd p l e rm_X5_violatesConstraint s m args below meth c 4 G (MQ below (QcM G (pI_ post)) args s rm_X5_violatesConstraint.cells rm_X5_violatesConstraint.slots (Ab G)) 0 0 S 31 [(0, rf l0), (1, rf l1), (2, .int l2), (3, rf l3)] [] := by
    intro KH2 hKH2 S l0 l1 l2 l3 h
    obtain ⟨v1, hv1⟩ : ∃ z : Int32, z = l2 + 1 := ⟨_, rfl⟩
    have h := h v1 hv1
    refine gd_iinc (pc := 31) (v := v1) X 2 dX5_violatesConstraint_31 rfl (by rw [hv1]; rfl) (by decide) (E2 := [(2, .int v1), (0, rf l0), (1, rf l1), (3, rf l3)]) (by simp [rf_cat, lv1, int_cat] <;> decide) ?_
    refine gd_goto (pc := 34) X 2 dX5_violatesConstraint_34 (by decide) ?_
    refine gd_sub [1, 2, 0] rfl ?_
    exact hKH2 _ _ _ _ h
  have g2 : ∀ (f : Nat) (S : MS) (l0 : Nat) (l1 : Nat) (l2 : Int32), b_X5_violatesConstraint_2 post f S l0 l1 l2 → Gd p l e rm_X5_violatesConstraint s m args below meth c 4 G (MQ below (QcM G (pI_ post)) args s rm_X5_violatesConstraint.cells rm_X5_violatesConstraint.slots (Ab G)) 0 0 S 2 [(0, rf l0), (1, rf l1), (2, .int l2)] [] := by
    intro f
    induction f with
    | zero => intro S l0 l1 l2 h; exact h.elim
    | succ f ih =>
      intro S l0 l1 l2 h
      refine gd_iload_n (pc := 2) X 2 dX5_violatesConstraint_2 rfl ?_
      refine gd_aload_n (pc := 3) X 0 dX5_violatesConstraint_3 rfl ?_
      obtain ⟨hk1, h⟩ := h
      refine gd_getI (pc := 4) (kf := 7) X ci5 (by decide) rfl tw_95 dX5_violatesConstraint_4 hk1 ?_
      refine gd_icmp_ge (pc := 7) X 37 dX5_violatesConstraint_7 (by decide) (fun hc10 => ?_) (fun hc10 => ?_)
      · have h := h.1 hc10
        refine gd_iconst (pc := 37) X (0) dX5_violatesConstraint_37 (by decide) ?_
        exact (gd_ret_i (pc := 38) X hr hlk rfl (by decide) (by decide) dX5_violatesConstraint_38 ⟨_, rfl, h⟩)
      · have h := h.2 hc10
        refine gd_aload_n (pc := 10) X 0 dX5_violatesConstraint_10 rfl ?_
        refine gd_getR (pc := 11) (kf := 2) X ci5 (by decide) rfl tw_90 dX5_violatesConstraint_11 hk1 ?_
        refine gd_iload_n (pc := 14) X 2 dX5_violatesConstraint_14 rfl ?_
        obtain ⟨hk2, h⟩ := h
        obtain ⟨hi3, h⟩ := h
        refine gd_aald (pc := 15) (t := 3) X rfl rfl (by decide) (by decide) dX5_violatesConstraint_15 hk2 hi3 ?_
        refine gd_topR (fun r4 hr4 => ?_)
        have h := h r4 hr4
        refine gd_astore_n (pc := 16) X dX5_violatesConstraint_16 (by decide) (E2 := [(3, rf r4), (0, rf l0), (1, rf l1), (2, .int l2)]) rfl ?_
        refine gd_aload_n (pc := 17) X 0 dX5_violatesConstraint_17 rfl ?_
        refine gd_ifnull (pc := 18) X 31 dX5_violatesConstraint_18 (by decide) (fun hc9 => ?_) (fun hc9 => ?_)
        · have h := h.1 hc9
          refine gd_sub [1, 2, 3, 0] rfl ?_
          exact g31 _ ih _ _ _ _ _ h
        · have h := h.2 hc9
          refine gd_aload_n (pc := 21) X 0 dX5_violatesConstraint_21 rfl ?_
          refine gd_aload_n (pc := 22) X 2 dX5_violatesConstraint_22 rfl ?_
          obtain ⟨hk5, h⟩ := h
          refine gd_callV (pc := 23) (As := [rf l1]) (rest := []) X (ct_X0_isViolatedBy l G S r4 l1 _ h) mw_X0_isViolatedBy tw_636 ci0 rfl hk5 ⟨(Nat.le_of_ble_eq_true rfl), (Nat.le_of_ble_eq_true rfl)⟩ rfl rfl (Nat.le_of_ble_eq_true rfl) dX5_violatesConstraint_23 ⟨Nat.le_of_ble_eq_true rfl, Nat.le_of_ble_eq_true rfl⟩ (kI (fun r7 S6 h => ?_))
          refine gd_wide (k2 := 0) (j2 := 0) (Nat.le_of_ble_eq_true rfl) (Nat.le_of_ble_eq_true rfl) ?_
          refine gd_if_eq (pc := 26) X 31 dX5_violatesConstraint_26 (by decide) (fun hc8 => ?_) (fun hc8 => ?_)
          · have h := h.1 hc8
            refine gd_sub [1, 2, 3, 0] rfl ?_
            exact g31 _ ih _ _ _ _ _ h
          · have h := h.2 hc8
            refine gd_iconst (pc := 29) X (1) dX5_violatesConstraint_29 (by decide) ?_
            exact (gd_ret_i (pc := 30) X hr hlk rfl (by decide) (by decide) dX5_violatesConstraint_30 ⟨_, rfl, h⟩)
  intro h
  refine gd_iconst (pc := 0) X (0) dX5_violatesConstraint_0 (by decide) ?_
  refine gd_istore_n (pc := 1) X dX5_violatesConstraint_1 (by decide) (E2 := [(2, .int 0), (0, rf a0), (1, rf a1)]) (by simp [rf_cat, lv1, int_cat] <;> decide) ?_
  refine gd_sub [1, 2, 0] rfl ?_
  obtain ⟨f2, h⟩ := h
  exact g2 f2 _ _ _ _ h
abbrev rm_X5_reasonToAbort : Room := { frames := 5, cells := 0, slots := 0, locals := 121 }
def b_X5_reasonToAbort_52 (post : Int32 → MS → Prop) (S : MS) (l0 : Nat) (l1 : Nat) (s0 : Int32) : Prop := post s0 S
def b_X5_reasonToAbort_35 (post : Int32 → MS → Prop) (S : MS) (l0 : Nat) (l1 : Nat) : Prop := kT S l0 = 6 ∧ w_X5_viewOf S l0 l1 (fun r3 S2 => kT S2 l0 = 6 ∧ w_X5_violatesConstraint S2 l0 r3 (fun r6 S5 => ((r6 = 0 → b_X5_reasonToAbort_52 post S5 l0 l1 0) ∧ (¬ r6 = 0 → b_X5_reasonToAbort_52 post S5 l0 l1 4))))
def w_X5_reasonToAbort (S : MS) (a0 : Nat) (a1 : Nat) (post : Int32 → MS → Prop) : Prop := kT S a0 = 6 ∧ ((¬ (sI S a0 8) = 0 → w_X5_losesToRivals S a0 a1 (fun r3 S2 => ((r3 = 0 → b_X5_reasonToAbort_35 post S2 a0 a1) ∧ (¬ r3 = 0 → post 3 S2)))) ∧ ((sI S a0 8) = 0 → kT S (sR S a0 0) = 2 ∧ w_X1_stalenessOf S (sR S a0 0) a1 (fun r7 S6 => ((r7 = 0 → b_X5_reasonToAbort_35 post S6 a0 a1) ∧ (¬ r7 = 0 → post r7 S6)))))
set_option maxHeartbeats 4000000 in
set_option maxRecDepth 100000 in
theorem ct_X5_reasonToAbort (l : Launch) (G : GP) (S : MS) (a0 : Nat) (a1 : Nat) (post : Int32 → MS → Prop) (h : w_X5_reasonToAbort S a0 a1 post) : MetM l yX5_reasonToAbort cX5_reasonToAbort 3 (some .int) rm_X5_reasonToAbort [rf a0, rf a1] G S (pI_ post) := by
  refine met_of (by decide) (cat1_r (cat1_r cat1_n)) (Nat.le_of_ble_eq_true rfl) ?_
  intro p e s m args below meth c X hr hlk hin
  revert h
  have g52 : ∀ (S : MS) (l0 : Nat) (l1 : Nat) (s0 : Int32), b_X5_reasonToAbort_52 post S l0 l1 s0 → Gd p l e rm_X5_reasonToAbort s m args below meth c 3 G (MQ below (QcM G (pI_ post)) args s rm_X5_reasonToAbort.cells rm_X5_reasonToAbort.slots (Ab G)) 0 0 S 52 [(0, rf l0), (1, rf l1)] [.int s0] := by
    intro S l0 l1 s0 h
    exact (gd_ret_i (pc := 52) X hr hlk rfl (by decide) (by decide) dX5_reasonToAbort_52 ⟨_, rfl, h⟩)
  have g35 : ∀ (S : MS) (l0 : Nat) (l1 : Nat), b_X5_reasonToAbort_35 post S l0 l1 → Gd p l e rm_X5_reasonToAbort s m args below meth c 3 G (MQ below (QcM G (pI_ post)) args s rm_X5_reasonToAbort.cells rm_X5_reasonToAbort.slots (Ab G)) 0 0 S 35 [(0, rf l0), (1, rf l1)] [] := by
    intro S l0 l1 h
    refine gd_aload_n (pc := 35) X 0 dX5_reasonToAbort_35 rfl ?_
    refine gd_aload_n (pc := 36) X 0 dX5_reasonToAbort_36 rfl ?_
    refine gd_aload_n (pc := 37) X 1 dX5_reasonToAbort_37 rfl ?_
    obtain ⟨hk1, h⟩ := h
    refine gd_callV (pc := 38) (As := [rf l1]) (rest := [rf l0]) X (ct_X5_viewOf l G S l0 l1 _ h) mw_X5_viewOf tw_495 ci5 rfl hk1 ⟨(Nat.le_of_ble_eq_true rfl), (Nat.le_of_ble_eq_true rfl)⟩ rfl rfl (Nat.le_of_ble_eq_true rfl) dX5_reasonToAbort_38 ⟨Nat.le_of_ble_eq_true rfl, Nat.le_of_ble_eq_true rfl⟩ (kR (fun r3 S2 h => ?_))
    refine gd_wide (k2 := 0) (j2 := 0) (Nat.le_of_ble_eq_true rfl) (Nat.le_of_ble_eq_true rfl) ?_
    obtain ⟨hk4, h⟩ := h
    refine gd_callV (pc := 41) (As := [rf r3]) (rest := []) X (ct_X5_violatesConstraint l G S2 l0 r3 _ h) mw_X5_violatesConstraint tw_632 ci5 rfl hk4 ⟨(Nat.le_of_ble_eq_true rfl), (Nat.le_of_ble_eq_true rfl)⟩ rfl rfl (Nat.le_of_ble_eq_true rfl) dX5_reasonToAbort_41 ⟨Nat.le_of_ble_eq_true rfl, Nat.le_of_ble_eq_true rfl⟩ (kI (fun r6 S5 h => ?_))
    refine gd_wide (k2 := 0) (j2 := 0) (Nat.le_of_ble_eq_true rfl) (Nat.le_of_ble_eq_true rfl) ?_
    refine gd_if_eq (pc := 44) X 51 dX5_reasonToAbort_44 (by decide) (fun hc7 => ?_) (fun hc7 => ?_)
    · have h := h.1 hc7
      refine gd_iconst (pc := 51) X (0) dX5_reasonToAbort_51 (by decide) ?_
      exact g52 _ _ _ _ h
    · have h := h.2 hc7
      refine gd_iconst (pc := 47) X (4) dX5_reasonToAbort_47 (by decide) ?_
      refine gd_goto (pc := 48) X 52 dX5_reasonToAbort_48 (by decide) ?_
      exact g52 _ _ _ _ h
  intro h
  refine gd_aload_n (pc := 0) X 0 dX5_reasonToAbort_0 rfl ?_
  obtain ⟨hk1, h⟩ := h
  refine gd_getI (pc := 1) (kf := 8) X ci5 (by decide) rfl tw_96 dX5_reasonToAbort_1 hk1 ?_
  refine gd_if_ne (pc := 4) X 25 dX5_reasonToAbort_4 (by decide) (fun hc9 => ?_) (fun hc9 => ?_)
  · have h := h.1 hc9
    refine gd_aload_n (pc := 25) X 0 dX5_reasonToAbort_25 rfl ?_
    refine gd_aload_n (pc := 26) X 1 dX5_reasonToAbort_26 rfl ?_
    refine gd_callV (pc := 27) (As := [rf a1]) (rest := []) X (ct_X5_losesToRivals l G S a0 a1 _ h) mw_X5_losesToRivals tw_628 ci5 rfl hk1 ⟨(Nat.le_of_ble_eq_true rfl), (Nat.le_of_ble_eq_true rfl)⟩ rfl rfl (Nat.le_of_ble_eq_true rfl) dX5_reasonToAbort_27 ⟨Nat.le_of_ble_eq_true rfl, Nat.le_of_ble_eq_true rfl⟩ (kI (fun r3 S2 h => ?_))
    refine gd_wide (k2 := 0) (j2 := 0) (Nat.le_of_ble_eq_true rfl) (Nat.le_of_ble_eq_true rfl) ?_
    refine gd_if_eq (pc := 30) X 35 dX5_reasonToAbort_30 (by decide) (fun hc4 => ?_) (fun hc4 => ?_)
    · have h := h.1 hc4
      exact g35 _ _ _ h
    · have h := h.2 hc4
      refine gd_iconst (pc := 33) X (3) dX5_reasonToAbort_33 (by decide) ?_
      exact (gd_ret_i (pc := 34) X hr hlk rfl (by decide) (by decide) dX5_reasonToAbort_34 ⟨_, rfl, h⟩)
  · have h := h.2 hc9
    refine gd_aload_n (pc := 7) X 0 dX5_reasonToAbort_7 rfl ?_
    refine gd_getR (pc := 8) (kf := 0) X ci5 (by decide) rfl tw_88 dX5_reasonToAbort_8 hk1 ?_
    refine gd_aload_n (pc := 11) X 1 dX5_reasonToAbort_11 rfl ?_
    obtain ⟨hk5, h⟩ := h
    refine gd_callV (pc := 12) (As := [rf a1]) (rest := []) X (ct_X1_stalenessOf l G S (sR S a0 0) a1 _ h) mw_X1_stalenessOf tw_614 ci1 rfl hk5 ⟨(Nat.le_of_ble_eq_true rfl), (Nat.le_of_ble_eq_true rfl)⟩ rfl rfl (Nat.le_of_ble_eq_true rfl) dX5_reasonToAbort_12 ⟨Nat.le_of_ble_eq_true rfl, Nat.le_of_ble_eq_true rfl⟩ (kI (fun r7 S6 h => ?_))
    refine gd_wide (k2 := 0) (j2 := 0) (Nat.le_of_ble_eq_true rfl) (Nat.le_of_ble_eq_true rfl) ?_
    refine gd_istore_n (pc := 15) X dX5_reasonToAbort_15 (by decide) (E2 := [(2, .int r7), (0, rf a0), (1, rf a1)]) (by simp [rf_cat, lv1, int_cat] <;> decide) ?_
    refine gd_iload_n (pc := 16) X 0 dX5_reasonToAbort_16 rfl ?_
    refine gd_if_eq (pc := 17) X 22 dX5_reasonToAbort_17 (by decide) (fun hc8 => ?_) (fun hc8 => ?_)
    · have h := h.1 hc8
      refine gd_goto (pc := 22) X 35 dX5_reasonToAbort_22 (by decide) ?_
      refine gd_sub [1, 2] rfl ?_
      exact g35 _ _ _ h
    · have h := h.2 hc8
      refine gd_iload_n (pc := 20) X 0 dX5_reasonToAbort_20 rfl ?_
      exact (gd_ret_i (pc := 21) X hr hlk rfl (by decide) (by decide) dX5_reasonToAbort_21 ⟨_, rfl, h⟩)
abbrev rm_X5_releaseTicket : Room := { frames := 0, cells := 0, slots := 0, locals := 0 }
def b_X5_releaseTicket_16 (post : MS → Prop) (S : MS) (l0 : Nat) (l1 : Nat) : Prop := post S
def w_X5_releaseTicket (S : MS) (a0 : Nat) (a1 : Nat) (post : MS → Prop) : Prop := kT S a0 = 6 ∧ kT S a1 = 5 ∧ ((¬ (sI S a0 11) = (sI S a1 0) → b_X5_releaseTicket_16 post S a0 a1) ∧ ((sI S a0 11) = (sI S a1 0) → ∀ S3 : MS, S3 = pI S a0 11 ((-1)) → b_X5_releaseTicket_16 post S3 a0 a1))
set_option maxHeartbeats 4000000 in
set_option maxRecDepth 100000 in
theorem ct_X5_releaseTicket (l : Launch) (G : GP) (S : MS) (a0 : Nat) (a1 : Nat) (post : MS → Prop) (h : w_X5_releaseTicket S a0 a1 post) : MetM l yX5_releaseTicket cX5_releaseTicket 2 none rm_X5_releaseTicket [rf a0, rf a1] G S (pV_ post) := by
  refine met_of (by decide) (cat1_r (cat1_r cat1_n)) (Nat.le_of_ble_eq_true rfl) ?_
  intro p e s m args below meth c X hr hlk hin
  revert h
  have g16 : ∀ (S : MS) (l0 : Nat) (l1 : Nat), b_X5_releaseTicket_16 post S l0 l1 → Gd p l e rm_X5_releaseTicket s m args below meth c 2 G (MQ below (QcM G (pV_ post)) args s rm_X5_releaseTicket.cells rm_X5_releaseTicket.slots (Ab G)) 0 0 S 16 [(0, rf l0), (1, rf l1)] [] := by
    intro S l0 l1 h
    exact (gd_ret_v (pc := 16) X hr hlk (by decide) (by decide) dX5_releaseTicket_16 ⟨rfl, h⟩)
  intro h
  refine gd_aload_n (pc := 0) X 0 dX5_releaseTicket_0 rfl ?_
  obtain ⟨hk1, h⟩ := h
  refine gd_getI (pc := 1) (kf := 11) X ci5 (by decide) rfl tw_99 dX5_releaseTicket_1 hk1 ?_
  refine gd_aload_n (pc := 4) X 1 dX5_releaseTicket_4 rfl ?_
  obtain ⟨hk2, h⟩ := h
  refine gd_getI (pc := 5) (kf := 0) X ci4 (by decide) rfl tw_344 dX5_releaseTicket_5 hk2 ?_
  refine gd_icmp_ne (pc := 8) X 16 dX5_releaseTicket_8 (by decide) (fun hc6 => ?_) (fun hc6 => ?_)
  · have h := h.1 hc6
    exact g16 _ _ _ h
  · have h := h.2 hc6
    refine gd_aload_n (pc := 11) X 0 dX5_releaseTicket_11 rfl ?_
    refine gd_iconst (pc := 12) X (-1) dX5_releaseTicket_12 (by decide) ?_
    refine gd_putI (pc := 13) (kf := 11) X ci5 (by decide) rfl rfl tw_99 rfl rfl dX5_releaseTicket_13 hk1 ?_
    refine gd_topS (fun S3 hS3 => ?_)
    have h := h S3 hS3
    have hk4 : kT S3 a0 = 6 := by rw [hS3]; exact hk1
    have hk5 : kT S3 a1 = 5 := by rw [hS3]; exact hk2
    exact g16 _ _ _ h
abbrev rm_X5_endInAbort : Room := { frames := 1, cells := 0, slots := 0, locals := 21 }
def w_X5_endInAbort (S : MS) (a0 : Nat) (a1 : Nat) (a2 : Int32) (post : MS → Prop) : Prop := kT S a1 = 5 ∧ w_X4_becomeAborted S a1 a2 (fun S2 => kT S2 a0 = 6 ∧ w_X5_releaseTicket S2 a0 a1 (fun S5 => post S5))
set_option maxHeartbeats 4000000 in
set_option maxRecDepth 100000 in
theorem ct_X5_endInAbort (l : Launch) (G : GP) (S : MS) (a0 : Nat) (a1 : Nat) (a2 : Int32) (post : MS → Prop) (h : w_X5_endInAbort S a0 a1 a2 post) : MetM l yX5_endInAbort cX5_endInAbort 3 none rm_X5_endInAbort [rf a0, rf a1, .int a2] G S (pV_ post) := by
  refine met_of (by decide) (cat1_r (cat1_r (cat1_i cat1_n))) (Nat.le_of_ble_eq_true rfl) ?_
  intro p e s m args below meth c X hr hlk hin
  refine gd_aload_n (pc := 0) X 1 dX5_endInAbort_0 rfl ?_
  refine gd_iload_n (pc := 1) X 2 dX5_endInAbort_1 rfl ?_
  obtain ⟨hk1, h⟩ := h
  refine gd_callV (pc := 2) (As := [.int a2]) (rest := []) X (ct_X4_becomeAborted l G S a1 a2 _ h) mw_X4_becomeAborted tw_646 ci4 rfl hk1 ⟨(Nat.le_of_ble_eq_true rfl), (Nat.le_of_ble_eq_true rfl)⟩ rfl rfl (Nat.le_of_ble_eq_true rfl) dX5_endInAbort_2 ⟨Nat.le_of_ble_eq_true rfl, Nat.le_of_ble_eq_true rfl⟩ (kV (fun S2 h => ?_))
  refine gd_wide (k2 := 0) (j2 := 0) (Nat.le_of_ble_eq_true rfl) (Nat.le_of_ble_eq_true rfl) ?_
  refine gd_aload_n (pc := 5) X 0 dX5_endInAbort_5 rfl ?_
  refine gd_aload_n (pc := 6) X 1 dX5_endInAbort_6 rfl ?_
  obtain ⟨hk4, h⟩ := h
  refine gd_callV (pc := 7) (As := [rf a1]) (rest := []) X (ct_X5_releaseTicket l G S2 a0 a1 _ h) mw_X5_releaseTicket tw_650 ci5 rfl hk4 ⟨(Nat.le_of_ble_eq_true rfl), (Nat.le_of_ble_eq_true rfl)⟩ rfl rfl (Nat.le_of_ble_eq_true rfl) dX5_endInAbort_7 ⟨Nat.le_of_ble_eq_true rfl, Nat.le_of_ble_eq_true rfl⟩ (kV (fun S5 h => ?_))
  refine gd_wide (k2 := 0) (j2 := 0) (Nat.le_of_ble_eq_true rfl) (Nat.le_of_ble_eq_true rfl) ?_
  exact (gd_ret_v (pc := 10) X hr hlk (by decide) (by decide) dX5_endInAbort_10 ⟨rfl, h⟩)
abbrev rm_X5_abortRivals : Room := { frames := 4, cells := 0, slots := 0, locals := 90 }
def b_X5_abortRivals_36 (KH2 : MS → Nat → Nat → Int32 → Prop) (post : MS → Prop) (S : MS) (l0 : Nat) (l1 : Nat) (l2 : Int32) (l3 : Nat) : Prop := ∀ v1 : Int32, v1 = l2 + 1 → KH2 S l0 l1 v1
def b_X5_abortRivals_2 (post : MS → Prop) : Nat → MS → Nat → Nat → Int32 → Prop
  | 0 => fun _ _ _ _ => False
  | f + 1 => fun S l0 l1 l2 => kT S l0 = 6 ∧ (((sI S l0 6) ≤ l2 → post S) ∧ (¬ (sI S l0 6) ≤ l2 → kT S (sR S l0 1) = 13 ∧ vp_in l2 (kL S (sR S l0 1)) ∧ ∀ r4 : Nat, r4 = sR S (sR S l0 1) (ix l2) → ((r4 = 0 → b_X5_abortRivals_36 (b_X5_abortRivals_2 post f) post S l0 l1 l2 r4) ∧ (¬ r4 = 0 → w_X5_isRival S l0 l1 r4 (fun r6 S5 => ((r6 = 0 → b_X5_abortRivals_36 (b_X5_abortRivals_2 post f) post S5 l0 l1 l2 r4) ∧ (¬ r6 = 0 → kT S5 l0 = 6 ∧ w_X5_endInAbort S5 l0 r4 3 (fun S8 => b_X5_abortRivals_36 (b_X5_abortRivals_2 post f) post S8 l0 l1 l2 r4))))))))
def w_X5_abortRivals (S : MS) (a0 : Nat) (a1 : Nat) (post : MS → Prop) : Prop := ∃ f2, b_X5_abortRivals_2 post f2 S a0 a1 0
set_option maxHeartbeats 4000000 in
set_option maxRecDepth 100000 in
theorem ct_X5_abortRivals (l : Launch) (G : GP) (S : MS) (a0 : Nat) (a1 : Nat) (post : MS → Prop) (h : w_X5_abortRivals S a0 a1 post) : MetM l yX5_abortRivals cX5_abortRivals 4 none rm_X5_abortRivals [rf a0, rf a1] G S (pV_ post) := by
  refine met_of (by decide) (cat1_r (cat1_r cat1_n)) (Nat.le_of_ble_eq_true rfl) ?_
  intro p e s m args below meth c X hr hlk hin
  revert h
  have g36 : ∀ (KH2 : MS → Nat → Nat → Int32 → Prop) (hKH2 : ∀ (S : MS) (l0 : Nat) (l1 : Nat) (l2 : Int32), KH2 S l0 l1 l2 → Gd p l e rm_X5_abortRivals s m args below meth c 4 G (MQ below (QcM G (pV_ post)) args s rm_X5_abortRivals.cells rm_X5_abortRivals.slots (Ab G)) 0 0 S 2 [(0, rf l0), (1, rf l1), (2, .int l2)] []) (S : MS) (l0 : Nat) (l1 : Nat) (l2 : Int32) (l3 : Nat), b_X5_abortRivals_36 KH2 post S l0 l1 l2 l3 → Gd p l e rm_X5_abortRivals s m args below meth c 4 G (MQ below (QcM G (pV_ post)) args s rm_X5_abortRivals.cells rm_X5_abortRivals.slots (Ab G)) 0 0 S 36 [(0, rf l0), (1, rf l1), (2, .int l2), (3, rf l3)] [] := by
    intro KH2 hKH2 S l0 l1 l2 l3 h
    obtain ⟨v1, hv1⟩ : ∃ z : Int32, z = l2 + 1 := ⟨_, rfl⟩
    have h := h v1 hv1
    refine gd_iinc (pc := 36) (v := v1) X 2 dX5_abortRivals_36 rfl (by rw [hv1]; rfl) (by decide) (E2 := [(2, .int v1), (0, rf l0), (1, rf l1), (3, rf l3)]) (by simp [rf_cat, lv1, int_cat] <;> decide) ?_
    refine gd_goto (pc := 39) X 2 dX5_abortRivals_39 (by decide) ?_
    refine gd_sub [1, 2, 0] rfl ?_
    exact hKH2 _ _ _ _ h
  have g2 : ∀ (f : Nat) (S : MS) (l0 : Nat) (l1 : Nat) (l2 : Int32), b_X5_abortRivals_2 post f S l0 l1 l2 → Gd p l e rm_X5_abortRivals s m args below meth c 4 G (MQ below (QcM G (pV_ post)) args s rm_X5_abortRivals.cells rm_X5_abortRivals.slots (Ab G)) 0 0 S 2 [(0, rf l0), (1, rf l1), (2, .int l2)] [] := by
    intro f
    induction f with
    | zero => intro S l0 l1 l2 h; exact h.elim
    | succ f ih =>
      intro S l0 l1 l2 h
      refine gd_iload_n (pc := 2) X 2 dX5_abortRivals_2 rfl ?_
      refine gd_aload_n (pc := 3) X 0 dX5_abortRivals_3 rfl ?_
      obtain ⟨hk1, h⟩ := h
      refine gd_getI (pc := 4) (kf := 6) X ci5 (by decide) rfl tw_94 dX5_abortRivals_4 hk1 ?_
      refine gd_icmp_ge (pc := 7) X 42 dX5_abortRivals_7 (by decide) (fun hc12 => ?_) (fun hc12 => ?_)
      · have h := h.1 hc12
        exact (gd_ret_v (pc := 42) X hr hlk (by decide) (by decide) dX5_abortRivals_42 ⟨rfl, h⟩)
      · have h := h.2 hc12
        refine gd_aload_n (pc := 10) X 0 dX5_abortRivals_10 rfl ?_
        refine gd_getR (pc := 11) (kf := 1) X ci5 (by decide) rfl tw_89 dX5_abortRivals_11 hk1 ?_
        refine gd_iload_n (pc := 14) X 2 dX5_abortRivals_14 rfl ?_
        obtain ⟨hk2, h⟩ := h
        obtain ⟨hi3, h⟩ := h
        refine gd_aald (pc := 15) (t := 5) X rfl rfl (by decide) (by decide) dX5_abortRivals_15 hk2 hi3 ?_
        refine gd_topR (fun r4 hr4 => ?_)
        have h := h r4 hr4
        refine gd_astore_n (pc := 16) X dX5_abortRivals_16 (by decide) (E2 := [(3, rf r4), (0, rf l0), (1, rf l1), (2, .int l2)]) rfl ?_
        refine gd_aload_n (pc := 17) X 0 dX5_abortRivals_17 rfl ?_
        refine gd_ifnull (pc := 18) X 36 dX5_abortRivals_18 (by decide) (fun hc11 => ?_) (fun hc11 => ?_)
        · have h := h.1 hc11
          refine gd_sub [1, 2, 3, 0] rfl ?_
          exact g36 _ ih _ _ _ _ _ h
        · have h := h.2 hc11
          refine gd_aload_n (pc := 21) X 1 dX5_abortRivals_21 rfl ?_
          refine gd_aload_n (pc := 22) X 2 dX5_abortRivals_22 rfl ?_
          refine gd_aload_n (pc := 23) X 0 dX5_abortRivals_23 rfl ?_
          refine gd_callV (pc := 24) (As := [rf l1, rf r4]) (rest := []) X (ct_X5_isRival l G S l0 l1 r4 _ h) mw_X5_isRival tw_605 ci5 rfl hk1 ⟨(Nat.le_of_ble_eq_true rfl), (Nat.le_of_ble_eq_true rfl)⟩ rfl rfl (Nat.le_of_ble_eq_true rfl) dX5_abortRivals_24 ⟨Nat.le_of_ble_eq_true rfl, Nat.le_of_ble_eq_true rfl⟩ (kI (fun r6 S5 h => ?_))
          refine gd_wide (k2 := 0) (j2 := 0) (Nat.le_of_ble_eq_true rfl) (Nat.le_of_ble_eq_true rfl) ?_
          refine gd_if_eq (pc := 27) X 36 dX5_abortRivals_27 (by decide) (fun hc10 => ?_) (fun hc10 => ?_)
          · have h := h.1 hc10
            refine gd_sub [1, 2, 3, 0] rfl ?_
            exact g36 _ ih _ _ _ _ _ h
          · have h := h.2 hc10
            refine gd_aload_n (pc := 30) X 1 dX5_abortRivals_30 rfl ?_
            refine gd_aload_n (pc := 31) X 0 dX5_abortRivals_31 rfl ?_
            refine gd_iconst (pc := 32) X (3) dX5_abortRivals_32 (by decide) ?_
            obtain ⟨hk7, h⟩ := h
            refine gd_callV (pc := 33) (As := [rf r4, .int 3]) (rest := []) X (ct_X5_endInAbort l G S5 l0 r4 3 _ h) mw_X5_endInAbort tw_642 ci5 rfl hk7 ⟨(Nat.le_of_ble_eq_true rfl), (Nat.le_of_ble_eq_true rfl)⟩ rfl rfl (Nat.le_of_ble_eq_true rfl) dX5_abortRivals_33 ⟨Nat.le_of_ble_eq_true rfl, Nat.le_of_ble_eq_true rfl⟩ (kV (fun S8 h => ?_))
            refine gd_wide (k2 := 0) (j2 := 0) (Nat.le_of_ble_eq_true rfl) (Nat.le_of_ble_eq_true rfl) ?_
            refine gd_sub [1, 2, 3, 0] rfl ?_
            exact g36 _ ih _ _ _ _ _ h
  intro h
  refine gd_iconst (pc := 0) X (0) dX5_abortRivals_0 (by decide) ?_
  refine gd_istore_n (pc := 1) X dX5_abortRivals_1 (by decide) (E2 := [(2, .int 0), (0, rf a0), (1, rf a1)]) (by simp [rf_cat, lv1, int_cat] <;> decide) ?_
  refine gd_sub [1, 2, 0] rfl ?_
  obtain ⟨f2, h⟩ := h
  exact g2 f2 _ _ _ _ h
abbrev rm_X5_tryToCommit : Room := { frames := 6, cells := 0, slots := 0, locals := 143 }
def b_X5_tryToCommit_42 (post : Int32 → MS → Prop) (S : MS) (l0 : Nat) (l1 : Nat) (l2 : Int32) : Prop := kT S l0 = 6 ∧ kT S (sR S l0 0) = 2 ∧ w_X1_append S (sR S l0 0) l1 (fun S3 => kT S3 l0 = 6 ∧ w_X5_releaseTicket S3 l0 l1 (fun S6 => kT S6 l1 = 5 ∧ post (sI S6 l1 10) S6))
def w_X5_tryToCommit (S : MS) (a0 : Nat) (a1 : Nat) (post : Int32 → MS → Prop) : Prop := kT S a0 = 6 ∧ w_X5_isBlocked S a0 a1 (fun r3 S2 => ((r3 = 0 → kT S2 a0 = 6 ∧ w_X5_reasonToAbort S2 a0 a1 (fun r6 S5 => ((r6 = 0 → kT S5 a0 = 6 ∧ ((¬ (sI S5 a0 8) = 1 → b_X5_tryToCommit_42 post S5 a0 a1 r6) ∧ ((sI S5 a0 8) = 1 → w_X5_abortRivals S5 a0 a1 (fun S8 => b_X5_tryToCommit_42 post S8 a0 a1 r6)))) ∧ (¬ r6 = 0 → kT S5 a0 = 6 ∧ w_X5_endInAbort S5 a0 a1 r6 (fun S12 => post ((-2)) S12))))) ∧ (¬ r3 = 0 → post ((-1)) S2)))
set_option maxHeartbeats 4000000 in
set_option maxRecDepth 100000 in
theorem ct_X5_tryToCommit (l : Launch) (G : GP) (S : MS) (a0 : Nat) (a1 : Nat) (post : Int32 → MS → Prop) (h : w_X5_tryToCommit S a0 a1 post) : MetM l yX5_tryToCommit cX5_tryToCommit 3 (some .int) rm_X5_tryToCommit [rf a0, rf a1] G S (pI_ post) := by
  refine met_of (by decide) (cat1_r (cat1_r cat1_n)) (Nat.le_of_ble_eq_true rfl) ?_
  intro p e s m args below meth c X hr hlk hin
  revert h
  have g42 : ∀ (S : MS) (l0 : Nat) (l1 : Nat) (l2 : Int32), b_X5_tryToCommit_42 post S l0 l1 l2 → Gd p l e rm_X5_tryToCommit s m args below meth c 3 G (MQ below (QcM G (pI_ post)) args s rm_X5_tryToCommit.cells rm_X5_tryToCommit.slots (Ab G)) 0 0 S 42 [(0, rf l0), (1, rf l1), (2, .int l2)] [] := by
    intro S l0 l1 l2 h
    refine gd_aload_n (pc := 42) X 0 dX5_tryToCommit_42 rfl ?_
    obtain ⟨hk1, h⟩ := h
    refine gd_getR (pc := 43) (kf := 0) X ci5 (by decide) rfl tw_88 dX5_tryToCommit_43 hk1 ?_
    refine gd_aload_n (pc := 46) X 1 dX5_tryToCommit_46 rfl ?_
    obtain ⟨hk2, h⟩ := h
    refine gd_callV (pc := 47) (As := [rf l1]) (rest := []) X (ct_X1_append l G S (sR S l0 0) l1 _ h) mw_X1_append tw_658 ci1 rfl hk2 ⟨(Nat.le_of_ble_eq_true rfl), (Nat.le_of_ble_eq_true rfl)⟩ rfl rfl (Nat.le_of_ble_eq_true rfl) dX5_tryToCommit_47 ⟨Nat.le_of_ble_eq_true rfl, Nat.le_of_ble_eq_true rfl⟩ (kV (fun S3 h => ?_))
    refine gd_wide (k2 := 0) (j2 := 0) (Nat.le_of_ble_eq_true rfl) (Nat.le_of_ble_eq_true rfl) ?_
    refine gd_aload_n (pc := 50) X 0 dX5_tryToCommit_50 rfl ?_
    refine gd_aload_n (pc := 51) X 1 dX5_tryToCommit_51 rfl ?_
    obtain ⟨hk5, h⟩ := h
    refine gd_callV (pc := 52) (As := [rf l1]) (rest := []) X (ct_X5_releaseTicket l G S3 l0 l1 _ h) mw_X5_releaseTicket tw_650 ci5 rfl hk5 ⟨(Nat.le_of_ble_eq_true rfl), (Nat.le_of_ble_eq_true rfl)⟩ rfl rfl (Nat.le_of_ble_eq_true rfl) dX5_tryToCommit_52 ⟨Nat.le_of_ble_eq_true rfl, Nat.le_of_ble_eq_true rfl⟩ (kV (fun S6 h => ?_))
    refine gd_wide (k2 := 0) (j2 := 0) (Nat.le_of_ble_eq_true rfl) (Nat.le_of_ble_eq_true rfl) ?_
    refine gd_aload_n (pc := 55) X 1 dX5_tryToCommit_55 rfl ?_
    obtain ⟨hk8, h⟩ := h
    refine gd_getI (pc := 56) (kf := 10) X ci4 (by decide) rfl tw_368 dX5_tryToCommit_56 hk8 ?_
    exact (gd_ret_i (pc := 59) X hr hlk rfl (by decide) (by decide) dX5_tryToCommit_59 ⟨_, rfl, h⟩)
  intro h
  refine gd_aload_n (pc := 0) X 0 dX5_tryToCommit_0 rfl ?_
  refine gd_aload_n (pc := 1) X 1 dX5_tryToCommit_1 rfl ?_
  obtain ⟨hk1, h⟩ := h
  refine gd_callV (pc := 2) (As := [rf a1]) (rest := []) X (ct_X5_isBlocked l G S a0 a1 _ h) mw_X5_isBlocked tw_601 ci5 rfl hk1 ⟨(Nat.le_of_ble_eq_true rfl), (Nat.le_of_ble_eq_true rfl)⟩ rfl rfl (Nat.le_of_ble_eq_true rfl) dX5_tryToCommit_2 ⟨Nat.le_of_ble_eq_true rfl, Nat.le_of_ble_eq_true rfl⟩ (kI (fun r3 S2 h => ?_))
  refine gd_wide (k2 := 0) (j2 := 0) (Nat.le_of_ble_eq_true rfl) (Nat.le_of_ble_eq_true rfl) ?_
  refine gd_if_eq (pc := 5) X 10 dX5_tryToCommit_5 (by decide) (fun hc15 => ?_) (fun hc15 => ?_)
  · have h := h.1 hc15
    refine gd_aload_n (pc := 10) X 0 dX5_tryToCommit_10 rfl ?_
    refine gd_aload_n (pc := 11) X 1 dX5_tryToCommit_11 rfl ?_
    obtain ⟨hk4, h⟩ := h
    refine gd_callV (pc := 12) (As := [rf a1]) (rest := []) X (ct_X5_reasonToAbort l G S2 a0 a1 _ h) mw_X5_reasonToAbort tw_610 ci5 rfl hk4 ⟨(Nat.le_of_ble_eq_true rfl), (Nat.le_of_ble_eq_true rfl)⟩ rfl rfl (Nat.le_of_ble_eq_true rfl) dX5_tryToCommit_12 ⟨Nat.le_of_ble_eq_true rfl, Nat.le_of_ble_eq_true rfl⟩ (kI (fun r6 S5 h => ?_))
    refine gd_wide (k2 := 0) (j2 := 0) (Nat.le_of_ble_eq_true rfl) (Nat.le_of_ble_eq_true rfl) ?_
    refine gd_istore_n (pc := 15) X dX5_tryToCommit_15 (by decide) (E2 := [(2, .int r6), (0, rf a0), (1, rf a1)]) (by simp [rf_cat, lv1, int_cat] <;> decide) ?_
    refine gd_iload_n (pc := 16) X 0 dX5_tryToCommit_16 rfl ?_
    refine gd_if_eq (pc := 17) X 29 dX5_tryToCommit_17 (by decide) (fun hc14 => ?_) (fun hc14 => ?_)
    · have h := h.1 hc14
      refine gd_aload_n (pc := 29) X 1 dX5_tryToCommit_29 rfl ?_
      obtain ⟨hk7, h⟩ := h
      refine gd_getI (pc := 30) (kf := 8) X ci5 (by decide) rfl tw_96 dX5_tryToCommit_30 hk7 ?_
      refine gd_iconst (pc := 33) X (1) dX5_tryToCommit_33 (by decide) ?_
      refine gd_icmp_ne (pc := 34) X 42 dX5_tryToCommit_34 (by decide) (fun hc10 => ?_) (fun hc10 => ?_)
      · have h := h.1 hc10
        refine gd_sub [1, 2, 0] rfl ?_
        exact g42 _ _ _ _ h
      · have h := h.2 hc10
        refine gd_aload_n (pc := 37) X 1 dX5_tryToCommit_37 rfl ?_
        refine gd_aload_n (pc := 38) X 2 dX5_tryToCommit_38 rfl ?_
        refine gd_callV (pc := 39) (As := [rf a1]) (rest := []) X (ct_X5_abortRivals l G S5 a0 a1 _ h) mw_X5_abortRivals tw_654 ci5 rfl hk7 ⟨(Nat.le_of_ble_eq_true rfl), (Nat.le_of_ble_eq_true rfl)⟩ rfl rfl (Nat.le_of_ble_eq_true rfl) dX5_tryToCommit_39 ⟨Nat.le_of_ble_eq_true rfl, Nat.le_of_ble_eq_true rfl⟩ (kV (fun S8 h => ?_))
        refine gd_wide (k2 := 0) (j2 := 0) (Nat.le_of_ble_eq_true rfl) (Nat.le_of_ble_eq_true rfl) ?_
        refine gd_sub [1, 2, 0] rfl ?_
        exact g42 _ _ _ _ h
    · have h := h.2 hc14
      refine gd_aload_n (pc := 20) X 1 dX5_tryToCommit_20 rfl ?_
      refine gd_aload_n (pc := 21) X 2 dX5_tryToCommit_21 rfl ?_
      refine gd_iload_n (pc := 22) X 0 dX5_tryToCommit_22 rfl ?_
      obtain ⟨hk11, h⟩ := h
      refine gd_callV (pc := 23) (As := [rf a1, .int r6]) (rest := []) X (ct_X5_endInAbort l G S5 a0 a1 r6 _ h) mw_X5_endInAbort tw_642 ci5 rfl hk11 ⟨(Nat.le_of_ble_eq_true rfl), (Nat.le_of_ble_eq_true rfl)⟩ rfl rfl (Nat.le_of_ble_eq_true rfl) dX5_tryToCommit_23 ⟨Nat.le_of_ble_eq_true rfl, Nat.le_of_ble_eq_true rfl⟩ (kV (fun S12 h => ?_))
      refine gd_wide (k2 := 0) (j2 := 0) (Nat.le_of_ble_eq_true rfl) (Nat.le_of_ble_eq_true rfl) ?_
      refine gd_bipush (pc := 26) X (-2) dX5_tryToCommit_26 (by decide) ?_
      exact (gd_ret_i (pc := 28) X hr hlk rfl (by decide) (by decide) dX5_tryToCommit_28 ⟨_, rfl, h⟩)
  · have h := h.2 hc15
    refine gd_iconst (pc := 8) X (-1) dX5_tryToCommit_8 (by decide) ?_
    exact (gd_ret_i (pc := 9) X hr hlk rfl (by decide) (by decide) dX5_tryToCommit_9 ⟨_, rfl, h⟩)
abbrev rm_X5_commit : Room := { frames := 7, cells := 2, slots := 12, locals := 165 }
def b_X5_commit_23 (post : Int32 → MS → Prop) (xp : String → MS → Prop) (S : MS) (l0 : Nat) (l1 : Int32) (l2 : Nat) : Prop := xp "java/lang/IllegalStateException" S
def w_X5_commit (S : MS) (a0 : Nat) (a1 : Int32) (post : Int32 → MS → Prop) (xp : String → MS → Prop) : Prop := kT S a0 = 6 ∧ w_X5_find S a0 a1 (fun r3 S2 => kT S2 r3 = 5 ∧ ((¬ (sI S2 r3 8) = 0 → b_X5_commit_23 post xp S2 a0 a1 r3) ∧ ((sI S2 r3 8) = 0 → kT S2 a0 = 6 ∧ kT S2 (sR S2 a0 0) = 2 ∧ w_X1_isFull S2 (sR S2 a0 0) (fun r8 S7 => ((r8 = 0 → kT S7 a0 = 6 ∧ w_X5_tryToCommit S7 a0 r3 (fun r11 S10 => post r11 S10)) ∧ (¬ r8 = 0 → b_X5_commit_23 post xp S7 a0 a1 r3)))))) xp
set_option maxHeartbeats 4000000 in
set_option maxRecDepth 100000 in
theorem ct_X5_commit (l : Launch) (hfl : l.stackTraces = false) (G : GP) (S : MS) (a0 : Nat) (a1 : Int32) (post : Int32 → MS → Prop) (xp : String → MS → Prop) (h : w_X5_commit S a0 a1 post xp) : MetX l yX5_commit cX5_commit 3 (some .int) rm_X5_commit [rf a0, .int a1] G S (pI_ post) xp := by
  refine metX_of (by decide) (cat1_r (cat1_i cat1_n)) (Nat.le_of_ble_eq_true rfl) ?_
  intro p e s m args below meth c X hr hlk ht
  revert h
  have g23 : ∀ (S : MS) (l0 : Nat) (l1 : Int32) (l2 : Nat), b_X5_commit_23 post xp S l0 l1 l2 → Gd p l e rm_X5_commit s m args below meth c 3 G (vx_MQ below (QcM G (pI_ post)) (XcM G xp) args s rm_X5_commit.cells rm_X5_commit.slots (Ab G)) 1 6 S 23 [(0, rf l0), (1, .int l1), (2, rf l2)] [] := by
    intro S l0 l1 l2 h
    exact gd_throw (pc := 23) hfl X hlk ht th_12 dX5_commit_23 dX5_commit_26 dX5_commit_27 dX5_commit_29 dX5_commit_32 (by decide) (by decide) (by decide) (by decide) h
  intro h
  refine gd_aload_n (pc := 0) X 0 dX5_commit_0 rfl ?_
  refine gd_iload_n (pc := 1) X 1 dX5_commit_1 rfl ?_
  obtain ⟨hk1, h⟩ := h
  refine gd_callVX (pc := 2) (As := [.int a1]) (rest := []) X (ct_X5_find l hfl G S a0 a1 _ _ h) mw_X5_find tw_426 ci5 rfl hk1 ⟨(Nat.le_of_ble_eq_true rfl), (Nat.le_of_ble_eq_true rfl)⟩ rfl rfl (Nat.le_of_ble_eq_true rfl) dX5_commit_2 ⟨Nat.le_of_ble_eq_true rfl, Nat.le_of_ble_eq_true rfl⟩ (kR (fun r3 S2 h => ?_)) (fun Ex S9 hE hx H1 locs1 la q ce h1 h2 h3 h4 h5 h6 => gd_xout hlk ht (Nat.le_of_ble_eq_true rfl) (Nat.le_of_ble_eq_true rfl) hE hx h1 h2 h4 h5 h6)
  refine gd_wide (k2 := 1) (j2 := 6) (Nat.le_of_ble_eq_true rfl) (Nat.le_of_ble_eq_true rfl) ?_
  refine gd_astore_n (pc := 5) X dX5_commit_5 (by decide) (E2 := [(2, rf r3), (0, rf a0), (1, .int a1)]) rfl ?_
  refine gd_aload_n (pc := 6) X 0 dX5_commit_6 rfl ?_
  obtain ⟨hk4, h⟩ := h
  refine gd_getI (pc := 7) (kf := 8) X ci4 (by decide) rfl tw_363 dX5_commit_7 hk4 ?_
  refine gd_if_ne (pc := 10) X 23 dX5_commit_10 (by decide) (fun hc13 => ?_) (fun hc13 => ?_)
  · have h := h.1 hc13
    refine gd_sub [1, 2, 0] rfl ?_
    exact g23 _ _ _ _ h
  · have h := h.2 hc13
    refine gd_aload_n (pc := 13) X 1 dX5_commit_13 rfl ?_
    obtain ⟨hk5, h⟩ := h
    refine gd_getR (pc := 14) (kf := 0) X ci5 (by decide) rfl tw_88 dX5_commit_14 hk5 ?_
    obtain ⟨hk6, h⟩ := h
    refine gd_callV (pc := 17) (As := []) (rest := []) X (ct_X1_isFull l G S2 (sR S2 a0 0) _ h) mw_X1_isFull tw_592 ci1 rfl hk6 ⟨(Nat.le_of_ble_eq_true rfl), (Nat.le_of_ble_eq_true rfl)⟩ rfl rfl (Nat.le_of_ble_eq_true rfl) dX5_commit_17 ⟨Nat.le_of_ble_eq_true rfl, Nat.le_of_ble_eq_true rfl⟩ (kI (fun r8 S7 h => ?_))
    refine gd_wide (k2 := 1) (j2 := 6) (Nat.le_of_ble_eq_true rfl) (Nat.le_of_ble_eq_true rfl) ?_
    refine gd_if_eq (pc := 20) X 33 dX5_commit_20 (by decide) (fun hc12 => ?_) (fun hc12 => ?_)
    · have h := h.1 hc12
      refine gd_aload_n (pc := 33) X 1 dX5_commit_33 rfl ?_
      refine gd_aload_n (pc := 34) X 0 dX5_commit_34 rfl ?_
      obtain ⟨hk9, h⟩ := h
      refine gd_callV (pc := 35) (As := [rf r3]) (rest := []) X (ct_X5_tryToCommit l G S7 a0 r3 _ h) mw_X5_tryToCommit tw_597 ci5 rfl hk9 ⟨(Nat.le_of_ble_eq_true rfl), (Nat.le_of_ble_eq_true rfl)⟩ rfl rfl (Nat.le_of_ble_eq_true rfl) dX5_commit_35 ⟨Nat.le_of_ble_eq_true rfl, Nat.le_of_ble_eq_true rfl⟩ (kI (fun r11 S10 h => ?_))
      refine gd_wide (k2 := 1) (j2 := 6) (Nat.le_of_ble_eq_true rfl) (Nat.le_of_ble_eq_true rfl) ?_
      exact gd_x (gd_ret_i (pc := 38) X hr hlk rfl (by decide) (by decide) dX5_commit_38 ⟨_, rfl, h⟩)
    · have h := h.2 hc12
      refine gd_sub [1, 2, 0] rfl ?_
      exact g23 _ _ _ _ h
abbrev rm_X5_findActive : Room := { frames := 7, cells := 2, slots := 12, locals := 122 }
def w_X5_findActive (S : MS) (a0 : Nat) (a1 : Int32) (post : Nat → MS → Prop) (xp : String → MS → Prop) : Prop := kT S a0 = 6 ∧ w_X5_find S a0 a1 (fun r3 S2 => kT S2 r3 = 5 ∧ (((sI S2 r3 8) = 0 → post r3 S2) ∧ (¬ (sI S2 r3 8) = 0 → xp "java/lang/IllegalStateException" S2))) xp
set_option maxHeartbeats 4000000 in
set_option maxRecDepth 100000 in
theorem ct_X5_findActive (l : Launch) (hfl : l.stackTraces = false) (G : GP) (S : MS) (a0 : Nat) (a1 : Int32) (post : Nat → MS → Prop) (xp : String → MS → Prop) (h : w_X5_findActive S a0 a1 post xp) : MetX l yX5_findActive cX5_findActive 3 (some (.object "OptimisticStore$Transaction")) rm_X5_findActive [rf a0, .int a1] G S (pR_ post) xp := by
  refine metX_of (by decide) (cat1_r (cat1_i cat1_n)) (Nat.le_of_ble_eq_true rfl) ?_
  intro p e s m args below meth c X hr hlk ht
  refine gd_aload_n (pc := 0) X 0 dX5_findActive_0 rfl ?_
  refine gd_iload_n (pc := 1) X 1 dX5_findActive_1 rfl ?_
  obtain ⟨hk1, h⟩ := h
  refine gd_callVX (pc := 2) (As := [.int a1]) (rest := []) X (ct_X5_find l hfl G S a0 a1 _ _ h) mw_X5_find tw_426 ci5 rfl hk1 ⟨(Nat.le_of_ble_eq_true rfl), (Nat.le_of_ble_eq_true rfl)⟩ rfl rfl (Nat.le_of_ble_eq_true rfl) dX5_findActive_2 ⟨Nat.le_of_ble_eq_true rfl, Nat.le_of_ble_eq_true rfl⟩ (kR (fun r3 S2 h => ?_)) (fun Ex S9 hE hx H1 locs1 la q ce h1 h2 h3 h4 h5 h6 => gd_xout hlk ht (Nat.le_of_ble_eq_true rfl) (Nat.le_of_ble_eq_true rfl) hE hx h1 h2 h4 h5 h6)
  refine gd_wide (k2 := 1) (j2 := 6) (Nat.le_of_ble_eq_true rfl) (Nat.le_of_ble_eq_true rfl) ?_
  refine gd_astore_n (pc := 5) X dX5_findActive_5 (by decide) (E2 := [(2, rf r3), (0, rf a0), (1, .int a1)]) rfl ?_
  refine gd_aload_n (pc := 6) X 0 dX5_findActive_6 rfl ?_
  obtain ⟨hk4, h⟩ := h
  refine gd_getI (pc := 7) (kf := 8) X ci4 (by decide) rfl tw_363 dX5_findActive_7 hk4 ?_
  refine gd_if_eq (pc := 10) X 24 dX5_findActive_10 (by decide) (fun hc5 => ?_) (fun hc5 => ?_)
  · have h := h.1 hc5
    refine gd_aload_n (pc := 24) X 0 dX5_findActive_24 rfl ?_
    exact gd_x (gd_ret_a (pc := 25) X hr (Or.inl ⟨_, rfl⟩) hlk (by decide) (by decide) dX5_findActive_25 ⟨_, rfl, h⟩)
  · have h := h.2 hc5
    exact gd_throwW (pc := 13) hfl X hlk ht th_13 dX5_findActive_13 dX5_findActive_16 dX5_findActive_17 dX5_findActive_20 dX5_findActive_23 (by decide) (by decide) (by decide) (by decide) h
abbrev rm_X5_abort : Room := { frames := 8, cells := 2, slots := 12, locals := 144 }
def w_X5_abort (S : MS) (a0 : Nat) (a1 : Int32) (post : MS → Prop) (xp : String → MS → Prop) : Prop := kT S a0 = 6 ∧ w_X5_findActive S a0 a1 (fun r3 S2 => kT S2 a0 = 6 ∧ w_X5_endInAbort S2 a0 r3 5 (fun S5 => post S5)) xp
set_option maxHeartbeats 4000000 in
set_option maxRecDepth 100000 in
theorem ct_X5_abort (l : Launch) (hfl : l.stackTraces = false) (G : GP) (S : MS) (a0 : Nat) (a1 : Int32) (post : MS → Prop) (xp : String → MS → Prop) (h : w_X5_abort S a0 a1 post xp) : MetX l yX5_abort cX5_abort 2 none rm_X5_abort [rf a0, .int a1] G S (pV_ post) xp := by
  refine metX_of (by decide) (cat1_r (cat1_i cat1_n)) (Nat.le_of_ble_eq_true rfl) ?_
  intro p e s m args below meth c X hr hlk ht
  refine gd_aload_n (pc := 0) X 0 dX5_abort_0 rfl ?_
  refine gd_aload_n (pc := 1) X 0 dX5_abort_1 rfl ?_
  refine gd_iload_n (pc := 2) X 1 dX5_abort_2 rfl ?_
  obtain ⟨hk1, h⟩ := h
  refine gd_callVX (pc := 3) (As := [.int a1]) (rest := [rf a0]) X (ct_X5_findActive l hfl G S a0 a1 _ _ h) mw_X5_findActive tw_672 ci5 rfl hk1 ⟨(Nat.le_of_ble_eq_true rfl), (Nat.le_of_ble_eq_true rfl)⟩ rfl rfl (Nat.le_of_ble_eq_true rfl) dX5_abort_3 ⟨Nat.le_of_ble_eq_true rfl, Nat.le_of_ble_eq_true rfl⟩ (kR (fun r3 S2 h => ?_)) (fun Ex S9 hE hx H1 locs1 la q ce h1 h2 h3 h4 h5 h6 => gd_xout hlk ht (Nat.le_of_ble_eq_true rfl) (Nat.le_of_ble_eq_true rfl) hE hx h1 h2 h4 h5 h6)
  refine gd_wide (k2 := 2) (j2 := 12) (Nat.le_of_ble_eq_true rfl) (Nat.le_of_ble_eq_true rfl) ?_
  refine gd_iconst (pc := 6) X (5) dX5_abort_6 (by decide) ?_
  obtain ⟨hk4, h⟩ := h
  refine gd_callV (pc := 7) (As := [rf r3, .int 5]) (rest := []) X (ct_X5_endInAbort l G S2 a0 r3 5 _ h) mw_X5_endInAbort tw_642 ci5 rfl hk4 ⟨(Nat.le_of_ble_eq_true rfl), (Nat.le_of_ble_eq_true rfl)⟩ rfl rfl (Nat.le_of_ble_eq_true rfl) dX5_abort_7 ⟨Nat.le_of_ble_eq_true rfl, Nat.le_of_ble_eq_true rfl⟩ (kV (fun S5 h => ?_))
  refine gd_wide (k2 := 2) (j2 := 12) (Nat.le_of_ble_eq_true rfl) (Nat.le_of_ble_eq_true rfl) ?_
  exact gd_x (gd_ret_v (pc := 10) X hr hlk (by decide) (by decide) dX5_abort_10 ⟨rfl, h⟩)
abbrev rm_X5_clock : Room := { frames := 0, cells := 0, slots := 0, locals := 0 }
def w_X5_clock (S : MS) (a0 : Nat) (post : Int32 → MS → Prop) : Prop := kT S a0 = 6 ∧ kT S (sR S a0 0) = 2 ∧ post (sI S (sR S a0 0) 2) S
set_option maxHeartbeats 4000000 in
set_option maxRecDepth 100000 in
theorem ct_X5_clock (l : Launch) (G : GP) (S : MS) (a0 : Nat) (post : Int32 → MS → Prop) (h : w_X5_clock S a0 post) : MetM l yX5_clock cX5_clock 1 (some .int) rm_X5_clock [rf a0] G S (pI_ post) := by
  refine met_of (by decide) (cat1_r cat1_n) (Nat.le_of_ble_eq_true rfl) ?_
  intro p e s m args below meth c X hr hlk hin
  refine gd_aload_n (pc := 0) X 0 dX5_clock_0 rfl ?_
  obtain ⟨hk1, h⟩ := h
  refine gd_getR (pc := 1) (kf := 0) X ci5 (by decide) rfl tw_88 dX5_clock_1 hk1 ?_
  obtain ⟨hk2, h⟩ := h
  refine gd_getI (pc := 4) (kf := 2) X ci1 (by decide) rfl tw_45 dX5_clock_4 hk2 ?_
  exact (gd_ret_i (pc := 7) X hr hlk rfl (by decide) (by decide) dX5_clock_7 ⟨_, rfl, h⟩)
abbrev rm_X5_transactionCount : Room := { frames := 0, cells := 0, slots := 0, locals := 0 }
def w_X5_transactionCount (S : MS) (a0 : Nat) (post : Int32 → MS → Prop) : Prop := kT S a0 = 6 ∧ post (sI S a0 6) S
set_option maxHeartbeats 4000000 in
set_option maxRecDepth 100000 in
theorem ct_X5_transactionCount (l : Launch) (G : GP) (S : MS) (a0 : Nat) (post : Int32 → MS → Prop) (h : w_X5_transactionCount S a0 post) : MetM l yX5_transactionCount cX5_transactionCount 1 (some .int) rm_X5_transactionCount [rf a0] G S (pI_ post) := by
  refine met_of (by decide) (cat1_r cat1_n) (Nat.le_of_ble_eq_true rfl) ?_
  intro p e s m args below meth c X hr hlk hin
  refine gd_aload_n (pc := 0) X 0 dX5_transactionCount_0 rfl ?_
  obtain ⟨hk1, h⟩ := h
  refine gd_getI (pc := 1) (kf := 6) X ci5 (by decide) rfl tw_94 dX5_transactionCount_1 hk1 ?_
  exact (gd_ret_i (pc := 4) X hr hlk rfl (by decide) (by decide) dX5_transactionCount_4 ⟨_, rfl, h⟩)
abbrev rm_X5_activeCount : Room := { frames := 1, cells := 0, slots := 0, locals := 24 }
def w_X5_activeCount (S : MS) (a0 : Nat) (post : Int32 → MS → Prop) : Prop := kT S a0 = 6 ∧ w_X5_countInState S a0 0 (fun r3 S2 => post r3 S2)
set_option maxHeartbeats 4000000 in
set_option maxRecDepth 100000 in
theorem ct_X5_activeCount (l : Launch) (G : GP) (S : MS) (a0 : Nat) (post : Int32 → MS → Prop) (h : w_X5_activeCount S a0 post) : MetM l yX5_activeCount cX5_activeCount 1 (some .int) rm_X5_activeCount [rf a0] G S (pI_ post) := by
  refine met_of (by decide) (cat1_r cat1_n) (Nat.le_of_ble_eq_true rfl) ?_
  intro p e s m args below meth c X hr hlk hin
  refine gd_aload_n (pc := 0) X 0 dX5_activeCount_0 rfl ?_
  refine gd_iconst (pc := 1) X (0) dX5_activeCount_1 (by decide) ?_
  obtain ⟨hk1, h⟩ := h
  refine gd_callV (pc := 2) (As := [.int 0]) (rest := []) X (ct_X5_countInState l G S a0 0 _ h) mw_X5_countInState tw_137 ci5 rfl hk1 ⟨(Nat.le_of_ble_eq_true rfl), (Nat.le_of_ble_eq_true rfl)⟩ rfl rfl (Nat.le_of_ble_eq_true rfl) dX5_activeCount_2 ⟨Nat.le_of_ble_eq_true rfl, Nat.le_of_ble_eq_true rfl⟩ (kI (fun r3 S2 h => ?_))
  refine gd_wide (k2 := 0) (j2 := 0) (Nat.le_of_ble_eq_true rfl) (Nat.le_of_ble_eq_true rfl) ?_
  exact (gd_ret_i (pc := 5) X hr hlk rfl (by decide) (by decide) dX5_activeCount_5 ⟨_, rfl, h⟩)
abbrev rm_X5_ticketHolder : Room := { frames := 6, cells := 1, slots := 6, locals := 100 }
def w_X5_ticketHolder (S : MS) (a0 : Nat) (post : Int32 → MS → Prop) (xp : String → MS → Prop) : Prop := kT S a0 = 6 ∧ ((¬ (sI S a0 11) = ((-1)) → post (sI S a0 11) S) ∧ ((sI S a0 11) = ((-1)) → xp "java/util/NoSuchElementException" S))
set_option maxHeartbeats 4000000 in
set_option maxRecDepth 100000 in
theorem ct_X5_ticketHolder (l : Launch) (hfl : l.stackTraces = false) (G : GP) (S : MS) (a0 : Nat) (post : Int32 → MS → Prop) (xp : String → MS → Prop) (h : w_X5_ticketHolder S a0 post xp) : MetX l yX5_ticketHolder cX5_ticketHolder 1 (some .int) rm_X5_ticketHolder [rf a0] G S (pI_ post) xp := by
  refine metX_of (by decide) (cat1_r cat1_n) (Nat.le_of_ble_eq_true rfl) ?_
  intro p e s m args below meth c X hr hlk ht
  refine gd_aload_n (pc := 0) X 0 dX5_ticketHolder_0 rfl ?_
  obtain ⟨hk1, h⟩ := h
  refine gd_getI (pc := 1) (kf := 11) X ci5 (by decide) rfl tw_99 dX5_ticketHolder_1 hk1 ?_
  refine gd_iconst (pc := 4) X (-1) dX5_ticketHolder_4 (by decide) ?_
  refine gd_icmp_ne (pc := 5) X 18 dX5_ticketHolder_5 (by decide) (fun hc2 => ?_) (fun hc2 => ?_)
  · have h := h.1 hc2
    refine gd_aload_n (pc := 18) X 0 dX5_ticketHolder_18 rfl ?_
    refine gd_getI (pc := 19) (kf := 11) X ci5 (by decide) rfl tw_99 dX5_ticketHolder_19 hk1 ?_
    exact gd_x (gd_ret_i (pc := 22) X hr hlk rfl (by decide) (by decide) dX5_ticketHolder_22 ⟨_, rfl, h⟩)
  · have h := h.2 hc2
    exact gd_throwX (pc := 8) hfl X hlk ht th_14 dX5_ticketHolder_8 dX5_ticketHolder_11 dX5_ticketHolder_12 dX5_ticketHolder_14 dX5_ticketHolder_17 (by decide) (by decide) (by decide) (by decide) h
abbrev rm_X5_state : Room := { frames := 7, cells := 1, slots := 6, locals := 122 }
def w_X5_state (S : MS) (a0 : Nat) (a1 : Int32) (post : Int32 → MS → Prop) (xp : String → MS → Prop) : Prop := kT S a0 = 6 ∧ w_X5_find S a0 a1 (fun r3 S2 => kT S2 r3 = 5 ∧ post (sI S2 r3 8) S2) xp
set_option maxHeartbeats 4000000 in
set_option maxRecDepth 100000 in
theorem ct_X5_state (l : Launch) (hfl : l.stackTraces = false) (G : GP) (S : MS) (a0 : Nat) (a1 : Int32) (post : Int32 → MS → Prop) (xp : String → MS → Prop) (h : w_X5_state S a0 a1 post xp) : MetX l yX5_state cX5_state 2 (some .int) rm_X5_state [rf a0, .int a1] G S (pI_ post) xp := by
  refine metX_of (by decide) (cat1_r (cat1_i cat1_n)) (Nat.le_of_ble_eq_true rfl) ?_
  intro p e s m args below meth c X hr hlk ht
  refine gd_aload_n (pc := 0) X 0 dX5_state_0 rfl ?_
  refine gd_iload_n (pc := 1) X 1 dX5_state_1 rfl ?_
  obtain ⟨hk1, h⟩ := h
  refine gd_callVX (pc := 2) (As := [.int a1]) (rest := []) X (ct_X5_find l hfl G S a0 a1 _ _ h) mw_X5_find tw_426 ci5 rfl hk1 ⟨(Nat.le_of_ble_eq_true rfl), (Nat.le_of_ble_eq_true rfl)⟩ rfl rfl (Nat.le_of_ble_eq_true rfl) dX5_state_2 ⟨Nat.le_of_ble_eq_true rfl, Nat.le_of_ble_eq_true rfl⟩ (kR (fun r3 S2 h => ?_)) (fun Ex S9 hE hx H1 locs1 la q ce h1 h2 h3 h4 h5 h6 => gd_xout hlk ht (Nat.le_of_ble_eq_true rfl) (Nat.le_of_ble_eq_true rfl) hE hx h1 h2 h4 h5 h6)
  refine gd_wide (k2 := 1) (j2 := 6) (Nat.le_of_ble_eq_true rfl) (Nat.le_of_ble_eq_true rfl) ?_
  obtain ⟨hk4, h⟩ := h
  refine gd_getI (pc := 5) (kf := 8) X ci4 (by decide) rfl tw_363 dX5_state_5 hk4 ?_
  exact gd_x (gd_ret_i (pc := 8) X hr hlk rfl (by decide) (by decide) dX5_state_8 ⟨_, rfl, h⟩)
abbrev rm_X5_attempt : Room := { frames := 7, cells := 1, slots := 6, locals := 122 }
def w_X5_attempt (S : MS) (a0 : Nat) (a1 : Int32) (post : Int32 → MS → Prop) (xp : String → MS → Prop) : Prop := kT S a0 = 6 ∧ w_X5_find S a0 a1 (fun r3 S2 => kT S2 r3 = 5 ∧ post (sI S2 r3 1) S2) xp
set_option maxHeartbeats 4000000 in
set_option maxRecDepth 100000 in
theorem ct_X5_attempt (l : Launch) (hfl : l.stackTraces = false) (G : GP) (S : MS) (a0 : Nat) (a1 : Int32) (post : Int32 → MS → Prop) (xp : String → MS → Prop) (h : w_X5_attempt S a0 a1 post xp) : MetX l yX5_attempt cX5_attempt 2 (some .int) rm_X5_attempt [rf a0, .int a1] G S (pI_ post) xp := by
  refine metX_of (by decide) (cat1_r (cat1_i cat1_n)) (Nat.le_of_ble_eq_true rfl) ?_
  intro p e s m args below meth c X hr hlk ht
  refine gd_aload_n (pc := 0) X 0 dX5_attempt_0 rfl ?_
  refine gd_iload_n (pc := 1) X 1 dX5_attempt_1 rfl ?_
  obtain ⟨hk1, h⟩ := h
  refine gd_callVX (pc := 2) (As := [.int a1]) (rest := []) X (ct_X5_find l hfl G S a0 a1 _ _ h) mw_X5_find tw_426 ci5 rfl hk1 ⟨(Nat.le_of_ble_eq_true rfl), (Nat.le_of_ble_eq_true rfl)⟩ rfl rfl (Nat.le_of_ble_eq_true rfl) dX5_attempt_2 ⟨Nat.le_of_ble_eq_true rfl, Nat.le_of_ble_eq_true rfl⟩ (kR (fun r3 S2 h => ?_)) (fun Ex S9 hE hx H1 locs1 la q ce h1 h2 h3 h4 h5 h6 => gd_xout hlk ht (Nat.le_of_ble_eq_true rfl) (Nat.le_of_ble_eq_true rfl) hE hx h1 h2 h4 h5 h6)
  refine gd_wide (k2 := 1) (j2 := 6) (Nat.le_of_ble_eq_true rfl) (Nat.le_of_ble_eq_true rfl) ?_
  obtain ⟨hk4, h⟩ := h
  refine gd_getI (pc := 5) (kf := 1) X ci4 (by decide) rfl tw_346 dX5_attempt_5 hk4 ?_
  exact gd_x (gd_ret_i (pc := 8) X hr hlk rfl (by decide) (by decide) dX5_attempt_8 ⟨_, rfl, h⟩)
abbrev rm_X5_reason : Room := { frames := 7, cells := 2, slots := 12, locals := 122 }
def w_X5_reason (S : MS) (a0 : Nat) (a1 : Int32) (post : Int32 → MS → Prop) (xp : String → MS → Prop) : Prop := kT S a0 = 6 ∧ w_X5_find S a0 a1 (fun r3 S2 => kT S2 r3 = 5 ∧ (((sI S2 r3 8) = 2 → post (sI S2 r3 9) S2) ∧ (¬ (sI S2 r3 8) = 2 → xp "java/lang/IllegalStateException" S2))) xp
set_option maxHeartbeats 4000000 in
set_option maxRecDepth 100000 in
theorem ct_X5_reason (l : Launch) (hfl : l.stackTraces = false) (G : GP) (S : MS) (a0 : Nat) (a1 : Int32) (post : Int32 → MS → Prop) (xp : String → MS → Prop) (h : w_X5_reason S a0 a1 post xp) : MetX l yX5_reason cX5_reason 3 (some .int) rm_X5_reason [rf a0, .int a1] G S (pI_ post) xp := by
  refine metX_of (by decide) (cat1_r (cat1_i cat1_n)) (Nat.le_of_ble_eq_true rfl) ?_
  intro p e s m args below meth c X hr hlk ht
  refine gd_aload_n (pc := 0) X 0 dX5_reason_0 rfl ?_
  refine gd_iload_n (pc := 1) X 1 dX5_reason_1 rfl ?_
  obtain ⟨hk1, h⟩ := h
  refine gd_callVX (pc := 2) (As := [.int a1]) (rest := []) X (ct_X5_find l hfl G S a0 a1 _ _ h) mw_X5_find tw_426 ci5 rfl hk1 ⟨(Nat.le_of_ble_eq_true rfl), (Nat.le_of_ble_eq_true rfl)⟩ rfl rfl (Nat.le_of_ble_eq_true rfl) dX5_reason_2 ⟨Nat.le_of_ble_eq_true rfl, Nat.le_of_ble_eq_true rfl⟩ (kR (fun r3 S2 h => ?_)) (fun Ex S9 hE hx H1 locs1 la q ce h1 h2 h3 h4 h5 h6 => gd_xout hlk ht (Nat.le_of_ble_eq_true rfl) (Nat.le_of_ble_eq_true rfl) hE hx h1 h2 h4 h5 h6)
  refine gd_wide (k2 := 1) (j2 := 6) (Nat.le_of_ble_eq_true rfl) (Nat.le_of_ble_eq_true rfl) ?_
  refine gd_astore_n (pc := 5) X dX5_reason_5 (by decide) (E2 := [(2, rf r3), (0, rf a0), (1, .int a1)]) rfl ?_
  refine gd_aload_n (pc := 6) X 0 dX5_reason_6 rfl ?_
  obtain ⟨hk4, h⟩ := h
  refine gd_getI (pc := 7) (kf := 8) X ci4 (by decide) rfl tw_363 dX5_reason_7 hk4 ?_
  refine gd_iconst (pc := 10) X (2) dX5_reason_10 (by decide) ?_
  refine gd_icmp_eq (pc := 11) X 24 dX5_reason_11 (by decide) (fun hc5 => ?_) (fun hc5 => ?_)
  · have h := h.1 hc5
    refine gd_aload_n (pc := 24) X 0 dX5_reason_24 rfl ?_
    refine gd_getI (pc := 25) (kf := 9) X ci4 (by decide) rfl tw_366 dX5_reason_25 hk4 ?_
    exact gd_x (gd_ret_i (pc := 28) X hr hlk rfl (by decide) (by decide) dX5_reason_28 ⟨_, rfl, h⟩)
  · have h := h.2 hc5
    exact gd_throw (pc := 14) hfl X hlk ht th_16 dX5_reason_14 dX5_reason_17 dX5_reason_18 dX5_reason_20 dX5_reason_23 (by decide) (by decide) (by decide) (by decide) h
abbrev rm_X5_commitOf : Room := { frames := 7, cells := 2, slots := 12, locals := 122 }
def w_X5_commitOf (S : MS) (a0 : Nat) (a1 : Int32) (post : Int32 → MS → Prop) (xp : String → MS → Prop) : Prop := kT S a0 = 6 ∧ w_X5_find S a0 a1 (fun r3 S2 => kT S2 r3 = 5 ∧ (((sI S2 r3 8) = 1 → post (sI S2 r3 10) S2) ∧ (¬ (sI S2 r3 8) = 1 → xp "java/lang/IllegalStateException" S2))) xp
set_option maxHeartbeats 4000000 in
set_option maxRecDepth 100000 in
theorem ct_X5_commitOf (l : Launch) (hfl : l.stackTraces = false) (G : GP) (S : MS) (a0 : Nat) (a1 : Int32) (post : Int32 → MS → Prop) (xp : String → MS → Prop) (h : w_X5_commitOf S a0 a1 post xp) : MetX l yX5_commitOf cX5_commitOf 3 (some .int) rm_X5_commitOf [rf a0, .int a1] G S (pI_ post) xp := by
  refine metX_of (by decide) (cat1_r (cat1_i cat1_n)) (Nat.le_of_ble_eq_true rfl) ?_
  intro p e s m args below meth c X hr hlk ht
  refine gd_aload_n (pc := 0) X 0 dX5_commitOf_0 rfl ?_
  refine gd_iload_n (pc := 1) X 1 dX5_commitOf_1 rfl ?_
  obtain ⟨hk1, h⟩ := h
  refine gd_callVX (pc := 2) (As := [.int a1]) (rest := []) X (ct_X5_find l hfl G S a0 a1 _ _ h) mw_X5_find tw_426 ci5 rfl hk1 ⟨(Nat.le_of_ble_eq_true rfl), (Nat.le_of_ble_eq_true rfl)⟩ rfl rfl (Nat.le_of_ble_eq_true rfl) dX5_commitOf_2 ⟨Nat.le_of_ble_eq_true rfl, Nat.le_of_ble_eq_true rfl⟩ (kR (fun r3 S2 h => ?_)) (fun Ex S9 hE hx H1 locs1 la q ce h1 h2 h3 h4 h5 h6 => gd_xout hlk ht (Nat.le_of_ble_eq_true rfl) (Nat.le_of_ble_eq_true rfl) hE hx h1 h2 h4 h5 h6)
  refine gd_wide (k2 := 1) (j2 := 6) (Nat.le_of_ble_eq_true rfl) (Nat.le_of_ble_eq_true rfl) ?_
  refine gd_astore_n (pc := 5) X dX5_commitOf_5 (by decide) (E2 := [(2, rf r3), (0, rf a0), (1, .int a1)]) rfl ?_
  refine gd_aload_n (pc := 6) X 0 dX5_commitOf_6 rfl ?_
  obtain ⟨hk4, h⟩ := h
  refine gd_getI (pc := 7) (kf := 8) X ci4 (by decide) rfl tw_363 dX5_commitOf_7 hk4 ?_
  refine gd_iconst (pc := 10) X (1) dX5_commitOf_10 (by decide) ?_
  refine gd_icmp_eq (pc := 11) X 24 dX5_commitOf_11 (by decide) (fun hc5 => ?_) (fun hc5 => ?_)
  · have h := h.1 hc5
    refine gd_aload_n (pc := 24) X 0 dX5_commitOf_24 rfl ?_
    refine gd_getI (pc := 25) (kf := 10) X ci4 (by decide) rfl tw_368 dX5_commitOf_25 hk4 ?_
    exact gd_x (gd_ret_i (pc := 28) X hr hlk rfl (by decide) (by decide) dX5_commitOf_28 ⟨_, rfl, h⟩)
  · have h := h.2 hc5
    exact gd_throw (pc := 14) hfl X hlk ht th_17 dX5_commitOf_14 dX5_commitOf_17 dX5_commitOf_18 dX5_commitOf_20 dX5_commitOf_23 (by decide) (by decide) (by decide) (by decide) h
abbrev rm_X5_operationCount : Room := { frames := 7, cells := 1, slots := 6, locals := 122 }
def w_X5_operationCount (S : MS) (a0 : Nat) (a1 : Int32) (post : Int32 → MS → Prop) (xp : String → MS → Prop) : Prop := kT S a0 = 6 ∧ w_X5_find S a0 a1 (fun r3 S2 => kT S2 r3 = 5 ∧ post (sI S2 r3 5) S2) xp
set_option maxHeartbeats 4000000 in
set_option maxRecDepth 100000 in
theorem ct_X5_operationCount (l : Launch) (hfl : l.stackTraces = false) (G : GP) (S : MS) (a0 : Nat) (a1 : Int32) (post : Int32 → MS → Prop) (xp : String → MS → Prop) (h : w_X5_operationCount S a0 a1 post xp) : MetX l yX5_operationCount cX5_operationCount 2 (some .int) rm_X5_operationCount [rf a0, .int a1] G S (pI_ post) xp := by
  refine metX_of (by decide) (cat1_r (cat1_i cat1_n)) (Nat.le_of_ble_eq_true rfl) ?_
  intro p e s m args below meth c X hr hlk ht
  refine gd_aload_n (pc := 0) X 0 dX5_operationCount_0 rfl ?_
  refine gd_iload_n (pc := 1) X 1 dX5_operationCount_1 rfl ?_
  obtain ⟨hk1, h⟩ := h
  refine gd_callVX (pc := 2) (As := [.int a1]) (rest := []) X (ct_X5_find l hfl G S a0 a1 _ _ h) mw_X5_find tw_426 ci5 rfl hk1 ⟨(Nat.le_of_ble_eq_true rfl), (Nat.le_of_ble_eq_true rfl)⟩ rfl rfl (Nat.le_of_ble_eq_true rfl) dX5_operationCount_2 ⟨Nat.le_of_ble_eq_true rfl, Nat.le_of_ble_eq_true rfl⟩ (kR (fun r3 S2 h => ?_)) (fun Ex S9 hE hx H1 locs1 la q ce h1 h2 h3 h4 h5 h6 => gd_xout hlk ht (Nat.le_of_ble_eq_true rfl) (Nat.le_of_ble_eq_true rfl) hE hx h1 h2 h4 h5 h6)
  refine gd_wide (k2 := 1) (j2 := 6) (Nat.le_of_ble_eq_true rfl) (Nat.le_of_ble_eq_true rfl) ?_
  obtain ⟨hk4, h⟩ := h
  refine gd_getI (pc := 5) (kf := 5) X ci4 (by decide) rfl tw_355 dX5_operationCount_5 hk4 ?_
  exact gd_x (gd_ret_i (pc := 8) X hr hlk rfl (by decide) (by decide) dX5_operationCount_8 ⟨_, rfl, h⟩)
abbrev rm_X5_recordedKeys : Room := { frames := 7, cells := 1, slots := 6, locals := 122 }
def w_X5_recordedKeys (S : MS) (a0 : Nat) (a1 : Int32) (post : Int32 → MS → Prop) (xp : String → MS → Prop) : Prop := kT S a0 = 6 ∧ w_X5_find S a0 a1 (fun r3 S2 => kT S2 r3 = 5 ∧ post (sI S2 r3 6) S2) xp
set_option maxHeartbeats 4000000 in
set_option maxRecDepth 100000 in
theorem ct_X5_recordedKeys (l : Launch) (hfl : l.stackTraces = false) (G : GP) (S : MS) (a0 : Nat) (a1 : Int32) (post : Int32 → MS → Prop) (xp : String → MS → Prop) (h : w_X5_recordedKeys S a0 a1 post xp) : MetX l yX5_recordedKeys cX5_recordedKeys 2 (some .int) rm_X5_recordedKeys [rf a0, .int a1] G S (pI_ post) xp := by
  refine metX_of (by decide) (cat1_r (cat1_i cat1_n)) (Nat.le_of_ble_eq_true rfl) ?_
  intro p e s m args below meth c X hr hlk ht
  refine gd_aload_n (pc := 0) X 0 dX5_recordedKeys_0 rfl ?_
  refine gd_iload_n (pc := 1) X 1 dX5_recordedKeys_1 rfl ?_
  obtain ⟨hk1, h⟩ := h
  refine gd_callVX (pc := 2) (As := [.int a1]) (rest := []) X (ct_X5_find l hfl G S a0 a1 _ _ h) mw_X5_find tw_426 ci5 rfl hk1 ⟨(Nat.le_of_ble_eq_true rfl), (Nat.le_of_ble_eq_true rfl)⟩ rfl rfl (Nat.le_of_ble_eq_true rfl) dX5_recordedKeys_2 ⟨Nat.le_of_ble_eq_true rfl, Nat.le_of_ble_eq_true rfl⟩ (kR (fun r3 S2 h => ?_)) (fun Ex S9 hE hx H1 locs1 la q ce h1 h2 h3 h4 h5 h6 => gd_xout hlk ht (Nat.le_of_ble_eq_true rfl) (Nat.le_of_ble_eq_true rfl) hE hx h1 h2 h4 h5 h6)
  refine gd_wide (k2 := 1) (j2 := 6) (Nat.le_of_ble_eq_true rfl) (Nat.le_of_ble_eq_true rfl) ?_
  obtain ⟨hk4, h⟩ := h
  refine gd_getI (pc := 5) (kf := 6) X ci4 (by decide) rfl tw_358 dX5_recordedKeys_5 hk4 ?_
  exact gd_x (gd_ret_i (pc := 8) X hr hlk rfl (by decide) (by decide) dX5_recordedKeys_8 ⟨_, rfl, h⟩)
abbrev rm_X5_predicateCount : Room := { frames := 7, cells := 1, slots := 6, locals := 122 }
def w_X5_predicateCount (S : MS) (a0 : Nat) (a1 : Int32) (post : Int32 → MS → Prop) (xp : String → MS → Prop) : Prop := kT S a0 = 6 ∧ w_X5_find S a0 a1 (fun r3 S2 => kT S2 r3 = 5 ∧ w_X4_countPredicates S2 r3 (fun r6 S5 => post r6 S5)) xp
set_option maxHeartbeats 4000000 in
set_option maxRecDepth 100000 in
theorem ct_X5_predicateCount (l : Launch) (hfl : l.stackTraces = false) (G : GP) (S : MS) (a0 : Nat) (a1 : Int32) (post : Int32 → MS → Prop) (xp : String → MS → Prop) (h : w_X5_predicateCount S a0 a1 post xp) : MetX l yX5_predicateCount cX5_predicateCount 2 (some .int) rm_X5_predicateCount [rf a0, .int a1] G S (pI_ post) xp := by
  refine metX_of (by decide) (cat1_r (cat1_i cat1_n)) (Nat.le_of_ble_eq_true rfl) ?_
  intro p e s m args below meth c X hr hlk ht
  refine gd_aload_n (pc := 0) X 0 dX5_predicateCount_0 rfl ?_
  refine gd_iload_n (pc := 1) X 1 dX5_predicateCount_1 rfl ?_
  obtain ⟨hk1, h⟩ := h
  refine gd_callVX (pc := 2) (As := [.int a1]) (rest := []) X (ct_X5_find l hfl G S a0 a1 _ _ h) mw_X5_find tw_426 ci5 rfl hk1 ⟨(Nat.le_of_ble_eq_true rfl), (Nat.le_of_ble_eq_true rfl)⟩ rfl rfl (Nat.le_of_ble_eq_true rfl) dX5_predicateCount_2 ⟨Nat.le_of_ble_eq_true rfl, Nat.le_of_ble_eq_true rfl⟩ (kR (fun r3 S2 h => ?_)) (fun Ex S9 hE hx H1 locs1 la q ce h1 h2 h3 h4 h5 h6 => gd_xout hlk ht (Nat.le_of_ble_eq_true rfl) (Nat.le_of_ble_eq_true rfl) hE hx h1 h2 h4 h5 h6)
  refine gd_wide (k2 := 1) (j2 := 6) (Nat.le_of_ble_eq_true rfl) (Nat.le_of_ble_eq_true rfl) ?_
  obtain ⟨hk4, h⟩ := h
  refine gd_callV (pc := 5) (As := []) (rest := []) X (ct_X4_countPredicates l G S2 r3 _ h) mw_X4_countPredicates tw_752 ci4 rfl hk4 ⟨(Nat.le_of_ble_eq_true rfl), (Nat.le_of_ble_eq_true rfl)⟩ rfl rfl (Nat.le_of_ble_eq_true rfl) dX5_predicateCount_5 ⟨Nat.le_of_ble_eq_true rfl, Nat.le_of_ble_eq_true rfl⟩ (kI (fun r6 S5 h => ?_))
  refine gd_wide (k2 := 1) (j2 := 6) (Nat.le_of_ble_eq_true rfl) (Nat.le_of_ble_eq_true rfl) ?_
  exact gd_x (gd_ret_i (pc := 8) X hr hlk rfl (by decide) (by decide) dX5_predicateCount_8 ⟨_, rfl, h⟩)
abbrev rm_X5_writtenKeys : Room := { frames := 7, cells := 1, slots := 6, locals := 122 }
def w_X5_writtenKeys (S : MS) (a0 : Nat) (a1 : Int32) (post : Int32 → MS → Prop) (xp : String → MS → Prop) : Prop := kT S a0 = 6 ∧ w_X5_find S a0 a1 (fun r3 S2 => kT S2 r3 = 5 ∧ post (sI S2 r3 7) S2) xp
set_option maxHeartbeats 4000000 in
set_option maxRecDepth 100000 in
theorem ct_X5_writtenKeys (l : Launch) (hfl : l.stackTraces = false) (G : GP) (S : MS) (a0 : Nat) (a1 : Int32) (post : Int32 → MS → Prop) (xp : String → MS → Prop) (h : w_X5_writtenKeys S a0 a1 post xp) : MetX l yX5_writtenKeys cX5_writtenKeys 2 (some .int) rm_X5_writtenKeys [rf a0, .int a1] G S (pI_ post) xp := by
  refine metX_of (by decide) (cat1_r (cat1_i cat1_n)) (Nat.le_of_ble_eq_true rfl) ?_
  intro p e s m args below meth c X hr hlk ht
  refine gd_aload_n (pc := 0) X 0 dX5_writtenKeys_0 rfl ?_
  refine gd_iload_n (pc := 1) X 1 dX5_writtenKeys_1 rfl ?_
  obtain ⟨hk1, h⟩ := h
  refine gd_callVX (pc := 2) (As := [.int a1]) (rest := []) X (ct_X5_find l hfl G S a0 a1 _ _ h) mw_X5_find tw_426 ci5 rfl hk1 ⟨(Nat.le_of_ble_eq_true rfl), (Nat.le_of_ble_eq_true rfl)⟩ rfl rfl (Nat.le_of_ble_eq_true rfl) dX5_writtenKeys_2 ⟨Nat.le_of_ble_eq_true rfl, Nat.le_of_ble_eq_true rfl⟩ (kR (fun r3 S2 h => ?_)) (fun Ex S9 hE hx H1 locs1 la q ce h1 h2 h3 h4 h5 h6 => gd_xout hlk ht (Nat.le_of_ble_eq_true rfl) (Nat.le_of_ble_eq_true rfl) hE hx h1 h2 h4 h5 h6)
  refine gd_wide (k2 := 1) (j2 := 6) (Nat.le_of_ble_eq_true rfl) (Nat.le_of_ble_eq_true rfl) ?_
  obtain ⟨hk4, h⟩ := h
  refine gd_getI (pc := 5) (kf := 7) X ci4 (by decide) rfl tw_361 dX5_writtenKeys_5 hk4 ?_
  exact gd_x (gd_ret_i (pc := 8) X hr hlk rfl (by decide) (by decide) dX5_writtenKeys_8 ⟨_, rfl, h⟩)
abbrev rm_X5_isStale : Room := { frames := 8, cells := 2, slots := 12, locals := 144 }
def b_X5_isStale_20 (post : Int32 → MS → Prop) (xp : String → MS → Prop) (S : MS) (l0 : Nat) (l1 : Int32) (s0 : Int32) : Prop := narrow .boolean (.int s0) = .int s0 ∧ post s0 S
def w_X5_isStale (S : MS) (a0 : Nat) (a1 : Int32) (post : Int32 → MS → Prop) (xp : String → MS → Prop) : Prop := kT S a0 = 6 ∧ w_X5_findActive S a0 a1 (fun r3 S2 => kT S2 (sR S a0 0) = 2 ∧ w_X1_stalenessOf S2 (sR S a0 0) r3 (fun r6 S5 => ((r6 = 0 → b_X5_isStale_20 post xp S5 a0 a1 0) ∧ (¬ r6 = 0 → b_X5_isStale_20 post xp S5 a0 a1 1)))) xp
set_option maxHeartbeats 4000000 in
set_option maxRecDepth 100000 in
theorem ct_X5_isStale (l : Launch) (hfl : l.stackTraces = false) (G : GP) (S : MS) (a0 : Nat) (a1 : Int32) (post : Int32 → MS → Prop) (xp : String → MS → Prop) (h : w_X5_isStale S a0 a1 post xp) : MetX l yX5_isStale cX5_isStale 2 (some .boolean) rm_X5_isStale [rf a0, .int a1] G S (pI_ post) xp := by
  refine metX_of (by decide) (cat1_r (cat1_i cat1_n)) (Nat.le_of_ble_eq_true rfl) ?_
  intro p e s m args below meth c X hr hlk ht
  revert h
  have g20 : ∀ (S : MS) (l0 : Nat) (l1 : Int32) (s0 : Int32), b_X5_isStale_20 post xp S l0 l1 s0 → Gd p l e rm_X5_isStale s m args below meth c 2 G (vx_MQ below (QcM G (pI_ post)) (XcM G xp) args s rm_X5_isStale.cells rm_X5_isStale.slots (Ab G)) 2 12 S 20 [(0, rf l0), (1, .int l1)] [.int s0] := by
    intro S l0 l1 s0 h
    obtain ⟨hnz, h⟩ := h
    exact gd_x (gd_ret_i (pc := 20) X hr hlk hnz (by decide) (by decide) dX5_isStale_20 ⟨_, rfl, h⟩)
  intro h
  refine gd_aload_n (pc := 0) X 0 dX5_isStale_0 rfl ?_
  obtain ⟨hk1, h⟩ := h
  refine gd_getR (pc := 1) (kf := 0) X ci5 (by decide) rfl tw_88 dX5_isStale_1 hk1 ?_
  refine gd_aload_n (pc := 4) X 0 dX5_isStale_4 rfl ?_
  refine gd_iload_n (pc := 5) X 1 dX5_isStale_5 rfl ?_
  refine gd_callVX (pc := 6) (As := [.int a1]) (rest := [rf (sR S a0 0)]) X (ct_X5_findActive l hfl G S a0 a1 _ _ h) mw_X5_findActive tw_672 ci5 rfl hk1 ⟨(Nat.le_of_ble_eq_true rfl), (Nat.le_of_ble_eq_true rfl)⟩ rfl rfl (Nat.le_of_ble_eq_true rfl) dX5_isStale_6 ⟨Nat.le_of_ble_eq_true rfl, Nat.le_of_ble_eq_true rfl⟩ (kR (fun r3 S2 h => ?_)) (fun Ex S9 hE hx H1 locs1 la q ce h1 h2 h3 h4 h5 h6 => gd_xout hlk ht (Nat.le_of_ble_eq_true rfl) (Nat.le_of_ble_eq_true rfl) hE hx h1 h2 h4 h5 h6)
  refine gd_wide (k2 := 2) (j2 := 12) (Nat.le_of_ble_eq_true rfl) (Nat.le_of_ble_eq_true rfl) ?_
  obtain ⟨hk4, h⟩ := h
  refine gd_callV (pc := 9) (As := [rf r3]) (rest := []) X (ct_X1_stalenessOf l G S2 (sR S a0 0) r3 _ h) mw_X1_stalenessOf tw_614 ci1 rfl hk4 ⟨(Nat.le_of_ble_eq_true rfl), (Nat.le_of_ble_eq_true rfl)⟩ rfl rfl (Nat.le_of_ble_eq_true rfl) dX5_isStale_9 ⟨Nat.le_of_ble_eq_true rfl, Nat.le_of_ble_eq_true rfl⟩ (kI (fun r6 S5 h => ?_))
  refine gd_wide (k2 := 2) (j2 := 12) (Nat.le_of_ble_eq_true rfl) (Nat.le_of_ble_eq_true rfl) ?_
  refine gd_if_eq (pc := 12) X 19 dX5_isStale_12 (by decide) (fun hc7 => ?_) (fun hc7 => ?_)
  · have h := h.1 hc7
    refine gd_iconst (pc := 19) X (0) dX5_isStale_19 (by decide) ?_
    exact g20 _ _ _ _ h
  · have h := h.2 hc7
    refine gd_iconst (pc := 15) X (1) dX5_isStale_15 (by decide) ?_
    refine gd_goto (pc := 16) X 20 dX5_isStale_16 (by decide) ?_
    exact g20 _ _ _ _ h
abbrev rm_X5_countRivals : Room := { frames := 4, cells := 0, slots := 0, locals := 90 }
def b_X5_countRivals_29 (KH4 : MS → Nat → Nat → Int32 → Int32 → Prop) (post : Int32 → MS → Prop) (S : MS) (l0 : Nat) (l1 : Nat) (l2 : Int32) (l3 : Int32) : Prop := ∀ v1 : Int32, v1 = l3 + 1 → KH4 S l0 l1 l2 v1
def b_X5_countRivals_4 (post : Int32 → MS → Prop) : Nat → MS → Nat → Nat → Int32 → Int32 → Prop
  | 0 => fun _ _ _ _ _ => False
  | f + 1 => fun S l0 l1 l2 l3 => kT S l0 = 6 ∧ (((sI S l0 6) ≤ l3 → post l2 S) ∧ (¬ (sI S l0 6) ≤ l3 → kT S (sR S l0 1) = 13 ∧ vp_in l3 (kL S (sR S l0 1)) ∧ w_X5_isRival S l0 l1 (sR S (sR S l0 1) (ix l3)) (fun r5 S4 => ((r5 = 0 → b_X5_countRivals_29 (b_X5_countRivals_4 post f) post S4 l0 l1 l2 l3) ∧ (¬ r5 = 0 → ∀ v6 : Int32, v6 = l2 + 1 → b_X5_countRivals_29 (b_X5_countRivals_4 post f) post S4 l0 l1 v6 l3)))))
def w_X5_countRivals (S : MS) (a0 : Nat) (a1 : Nat) (post : Int32 → MS → Prop) : Prop := ∃ f4, b_X5_countRivals_4 post f4 S a0 a1 0 0
set_option maxHeartbeats 4000000 in
set_option maxRecDepth 100000 in
theorem ct_X5_countRivals (l : Launch) (G : GP) (S : MS) (a0 : Nat) (a1 : Nat) (post : Int32 → MS → Prop) (h : w_X5_countRivals S a0 a1 post) : MetM l yX5_countRivals cX5_countRivals 4 (some .int) rm_X5_countRivals [rf a0, rf a1] G S (pI_ post) := by
  refine met_of (by decide) (cat1_r (cat1_r cat1_n)) (Nat.le_of_ble_eq_true rfl) ?_
  intro p e s m args below meth c X hr hlk hin
  revert h
  have g29 : ∀ (KH4 : MS → Nat → Nat → Int32 → Int32 → Prop) (hKH4 : ∀ (S : MS) (l0 : Nat) (l1 : Nat) (l2 : Int32) (l3 : Int32), KH4 S l0 l1 l2 l3 → Gd p l e rm_X5_countRivals s m args below meth c 4 G (MQ below (QcM G (pI_ post)) args s rm_X5_countRivals.cells rm_X5_countRivals.slots (Ab G)) 0 0 S 4 [(0, rf l0), (1, rf l1), (2, .int l2), (3, .int l3)] []) (S : MS) (l0 : Nat) (l1 : Nat) (l2 : Int32) (l3 : Int32), b_X5_countRivals_29 KH4 post S l0 l1 l2 l3 → Gd p l e rm_X5_countRivals s m args below meth c 4 G (MQ below (QcM G (pI_ post)) args s rm_X5_countRivals.cells rm_X5_countRivals.slots (Ab G)) 0 0 S 29 [(0, rf l0), (1, rf l1), (2, .int l2), (3, .int l3)] [] := by
    intro KH4 hKH4 S l0 l1 l2 l3 h
    obtain ⟨v1, hv1⟩ : ∃ z : Int32, z = l3 + 1 := ⟨_, rfl⟩
    have h := h v1 hv1
    refine gd_iinc (pc := 29) (v := v1) X 3 dX5_countRivals_29 rfl (by rw [hv1]; rfl) (by decide) (E2 := [(3, .int v1), (0, rf l0), (1, rf l1), (2, .int l2)]) rfl ?_
    refine gd_goto (pc := 32) X 4 dX5_countRivals_32 (by decide) ?_
    refine gd_sub [1, 2, 3, 0] rfl ?_
    exact hKH4 _ _ _ _ _ h
  have g4 : ∀ (f : Nat) (S : MS) (l0 : Nat) (l1 : Nat) (l2 : Int32) (l3 : Int32), b_X5_countRivals_4 post f S l0 l1 l2 l3 → Gd p l e rm_X5_countRivals s m args below meth c 4 G (MQ below (QcM G (pI_ post)) args s rm_X5_countRivals.cells rm_X5_countRivals.slots (Ab G)) 0 0 S 4 [(0, rf l0), (1, rf l1), (2, .int l2), (3, .int l3)] [] := by
    intro f
    induction f with
    | zero => intro S l0 l1 l2 l3 h; exact h.elim
    | succ f ih =>
      intro S l0 l1 l2 l3 h
      refine gd_iload_n (pc := 4) X 3 dX5_countRivals_4 rfl ?_
      refine gd_aload_n (pc := 5) X 0 dX5_countRivals_5 rfl ?_
      obtain ⟨hk1, h⟩ := h
      refine gd_getI (pc := 6) (kf := 6) X ci5 (by decide) rfl tw_94 dX5_countRivals_6 hk1 ?_
      refine gd_icmp_ge (pc := 9) X 35 dX5_countRivals_9 (by decide) (fun hc8 => ?_) (fun hc8 => ?_)
      · have h := h.1 hc8
        refine gd_iload_n (pc := 35) X 2 dX5_countRivals_35 rfl ?_
        exact (gd_ret_i (pc := 36) X hr hlk rfl (by decide) (by decide) dX5_countRivals_36 ⟨_, rfl, h⟩)
      · have h := h.2 hc8
        refine gd_aload_n (pc := 12) X 0 dX5_countRivals_12 rfl ?_
        refine gd_aload_n (pc := 13) X 1 dX5_countRivals_13 rfl ?_
        refine gd_aload_n (pc := 14) X 0 dX5_countRivals_14 rfl ?_
        refine gd_getR (pc := 15) (kf := 1) X ci5 (by decide) rfl tw_89 dX5_countRivals_15 hk1 ?_
        refine gd_iload_n (pc := 18) X 3 dX5_countRivals_18 rfl ?_
        obtain ⟨hk2, h⟩ := h
        obtain ⟨hi3, h⟩ := h
        refine gd_aald (pc := 19) (t := 5) X rfl rfl (by decide) (by decide) dX5_countRivals_19 hk2 hi3 ?_
        refine gd_callV (pc := 20) (As := [rf l1, rf (sR S (sR S l0 1) (ix l3))]) (rest := []) X (ct_X5_isRival l G S l0 l1 (sR S (sR S l0 1) (ix l3)) _ h) mw_X5_isRival tw_605 ci5 rfl hk1 ⟨(Nat.le_of_ble_eq_true rfl), (Nat.le_of_ble_eq_true rfl)⟩ rfl rfl (Nat.le_of_ble_eq_true rfl) dX5_countRivals_20 ⟨Nat.le_of_ble_eq_true rfl, Nat.le_of_ble_eq_true rfl⟩ (kI (fun r5 S4 h => ?_))
        refine gd_wide (k2 := 0) (j2 := 0) (Nat.le_of_ble_eq_true rfl) (Nat.le_of_ble_eq_true rfl) ?_
        refine gd_if_eq (pc := 23) X 29 dX5_countRivals_23 (by decide) (fun hc7 => ?_) (fun hc7 => ?_)
        · have h := h.1 hc7
          exact g29 _ ih _ _ _ _ _ h
        · have h := h.2 hc7
          obtain ⟨v6, hv6⟩ : ∃ z : Int32, z = l2 + 1 := ⟨_, rfl⟩
          have h := h v6 hv6
          refine gd_iinc (pc := 26) (v := v6) X 2 dX5_countRivals_26 rfl (by rw [hv6]; rfl) (by decide) (E2 := [(2, .int v6), (0, rf l0), (1, rf l1), (3, .int l3)]) (by simp [rf_cat, lv1, int_cat] <;> decide) ?_
          refine gd_sub [1, 2, 0, 3] rfl ?_
          exact g29 _ ih _ _ _ _ _ h
  intro h
  refine gd_iconst (pc := 0) X (0) dX5_countRivals_0 (by decide) ?_
  refine gd_istore_n (pc := 1) X dX5_countRivals_1 (by decide) (E2 := [(2, .int 0), (0, rf a0), (1, rf a1)]) (by simp [rf_cat, lv1, int_cat] <;> decide) ?_
  refine gd_iconst (pc := 2) X (0) dX5_countRivals_2 (by decide) ?_
  refine gd_istore_n (pc := 3) X dX5_countRivals_3 (by decide) (E2 := [(3, .int 0), (2, .int 0), (0, rf a0), (1, rf a1)]) rfl ?_
  refine gd_sub [2, 3, 1, 0] rfl ?_
  obtain ⟨f4, h⟩ := h
  exact g4 f4 _ _ _ _ _ h
abbrev rm_X5_rivals : Room := { frames := 8, cells := 2, slots := 12, locals := 144 }
def w_X5_rivals (S : MS) (a0 : Nat) (a1 : Int32) (post : Int32 → MS → Prop) (xp : String → MS → Prop) : Prop := kT S a0 = 6 ∧ w_X5_findActive S a0 a1 (fun r3 S2 => kT S2 a0 = 6 ∧ w_X5_countRivals S2 a0 r3 (fun r6 S5 => post r6 S5)) xp
set_option maxHeartbeats 4000000 in
set_option maxRecDepth 100000 in
theorem ct_X5_rivals (l : Launch) (hfl : l.stackTraces = false) (G : GP) (S : MS) (a0 : Nat) (a1 : Int32) (post : Int32 → MS → Prop) (xp : String → MS → Prop) (h : w_X5_rivals S a0 a1 post xp) : MetX l yX5_rivals cX5_rivals 2 (some .int) rm_X5_rivals [rf a0, .int a1] G S (pI_ post) xp := by
  refine metX_of (by decide) (cat1_r (cat1_i cat1_n)) (Nat.le_of_ble_eq_true rfl) ?_
  intro p e s m args below meth c X hr hlk ht
  refine gd_aload_n (pc := 0) X 0 dX5_rivals_0 rfl ?_
  refine gd_aload_n (pc := 1) X 0 dX5_rivals_1 rfl ?_
  refine gd_iload_n (pc := 2) X 1 dX5_rivals_2 rfl ?_
  obtain ⟨hk1, h⟩ := h
  refine gd_callVX (pc := 3) (As := [.int a1]) (rest := [rf a0]) X (ct_X5_findActive l hfl G S a0 a1 _ _ h) mw_X5_findActive tw_672 ci5 rfl hk1 ⟨(Nat.le_of_ble_eq_true rfl), (Nat.le_of_ble_eq_true rfl)⟩ rfl rfl (Nat.le_of_ble_eq_true rfl) dX5_rivals_3 ⟨Nat.le_of_ble_eq_true rfl, Nat.le_of_ble_eq_true rfl⟩ (kR (fun r3 S2 h => ?_)) (fun Ex S9 hE hx H1 locs1 la q ce h1 h2 h3 h4 h5 h6 => gd_xout hlk ht (Nat.le_of_ble_eq_true rfl) (Nat.le_of_ble_eq_true rfl) hE hx h1 h2 h4 h5 h6)
  refine gd_wide (k2 := 2) (j2 := 12) (Nat.le_of_ble_eq_true rfl) (Nat.le_of_ble_eq_true rfl) ?_
  obtain ⟨hk4, h⟩ := h
  refine gd_callV (pc := 6) (As := [rf r3]) (rest := []) X (ct_X5_countRivals l G S2 a0 r3 _ h) mw_X5_countRivals tw_778 ci5 rfl hk4 ⟨(Nat.le_of_ble_eq_true rfl), (Nat.le_of_ble_eq_true rfl)⟩ rfl rfl (Nat.le_of_ble_eq_true rfl) dX5_rivals_6 ⟨Nat.le_of_ble_eq_true rfl, Nat.le_of_ble_eq_true rfl⟩ (kI (fun r6 S5 h => ?_))
  refine gd_wide (k2 := 2) (j2 := 12) (Nat.le_of_ble_eq_true rfl) (Nat.le_of_ble_eq_true rfl) ?_
  exact gd_x (gd_ret_i (pc := 9) X hr hlk rfl (by decide) (by decide) dX5_rivals_9 ⟨_, rfl, h⟩)
abbrev rm_X5_requireKey : Room := { frames := 6, cells := 1, slots := 6, locals := 100 }
def w_X5_requireKey (S : MS) (a0 : Int32) (post : MS → Prop) (xp : String → MS → Prop) : Prop := w_X5_isRange S a0 a0 (fun r2 S1 => ((¬ r2 = 0 → post S1) ∧ (r2 = 0 → xp "java/lang/IllegalArgumentException" S1)))
set_option maxHeartbeats 4000000 in
set_option maxRecDepth 100000 in
theorem ct_X5_requireKey (l : Launch) (hfl : l.stackTraces = false) (G : GP) (S : MS) (a0 : Int32) (post : MS → Prop) (xp : String → MS → Prop) (h : w_X5_requireKey S a0 post xp) : MetX l yX5_requireKey cX5_requireKey 1 none rm_X5_requireKey [.int a0] G S (pV_ post) xp := by
  refine metX_of (by decide) (cat1_i cat1_n) (Nat.le_of_ble_eq_true rfl) ?_
  intro p e s m args below meth c X hr hlk ht
  refine gd_iload_n (pc := 0) X 0 dX5_requireKey_0 rfl ?_
  refine gd_iload_n (pc := 1) X 0 dX5_requireKey_1 rfl ?_
  refine gd_callS (pc := 2) (As := [.int a0, .int a0]) (rest := []) X (ct_X5_isRange l G S a0 a0 _ h) mw_X5_isRange tw_792 ⟨(Nat.le_of_ble_eq_true rfl), (Nat.le_of_ble_eq_true rfl)⟩ rfl rfl (Nat.le_of_ble_eq_true rfl) dX5_requireKey_2 ⟨Nat.le_of_ble_eq_true rfl, Nat.le_of_ble_eq_true rfl⟩ (kI (fun r2 S1 h => ?_))
  refine gd_wide (k2 := 0) (j2 := 0) (Nat.le_of_ble_eq_true rfl) (Nat.le_of_ble_eq_true rfl) ?_
  refine gd_if_ne (pc := 5) X 19 dX5_requireKey_5 (by decide) (fun hc3 => ?_) (fun hc3 => ?_)
  · have h := h.1 hc3
    exact gd_x (gd_ret_v (pc := 19) X hr hlk (by decide) (by decide) dX5_requireKey_19 ⟨rfl, h⟩)
  · have h := h.2 hc3
    exact gd_throwW (pc := 8) hfl X hlk ht th_18 dX5_requireKey_8 dX5_requireKey_11 dX5_requireKey_12 dX5_requireKey_15 dX5_requireKey_18 (by decide) (by decide) (by decide) (by decide) h
abbrev rm_X5_value : Room := { frames := 7, cells := 1, slots := 6, locals := 120 }
def w_X5_value (S : MS) (a0 : Nat) (a1 : Int32) (post : Int32 → MS → Prop) (xp : String → MS → Prop) : Prop := w_X5_requireKey S a1 (fun S1 => kT S1 a0 = 6 ∧ kT S1 (sR S1 a0 0) = 2 ∧ w_X1_newest S1 (sR S1 a0 0) (fun r6 S5 => kT S5 r6 = 9 ∧ vp_in a1 (kL S5 r6) ∧ post (sI S5 r6 (ix a1)) S5)) xp
set_option maxHeartbeats 4000000 in
set_option maxRecDepth 100000 in
theorem ct_X5_value (l : Launch) (hfl : l.stackTraces = false) (G : GP) (S : MS) (a0 : Nat) (a1 : Int32) (post : Int32 → MS → Prop) (xp : String → MS → Prop) (h : w_X5_value S a0 a1 post xp) : MetX l yX5_value cX5_value 2 (some .int) rm_X5_value [rf a0, .int a1] G S (pI_ post) xp := by
  refine metX_of (by decide) (cat1_r (cat1_i cat1_n)) (Nat.le_of_ble_eq_true rfl) ?_
  intro p e s m args below meth c X hr hlk ht
  refine gd_iload_n (pc := 0) X 1 dX5_value_0 rfl ?_
  refine gd_callSX (pc := 1) (As := [.int a1]) (rest := []) X (ct_X5_requireKey l hfl G S a1 _ _ h) mw_X5_requireKey tw_789 ⟨(Nat.le_of_ble_eq_true rfl), (Nat.le_of_ble_eq_true rfl)⟩ rfl rfl (Nat.le_of_ble_eq_true rfl) dX5_value_1 ⟨Nat.le_of_ble_eq_true rfl, Nat.le_of_ble_eq_true rfl⟩ (kV (fun S1 h => ?_)) (fun Ex S9 hE hx H1 locs1 la q ce h1 h2 h3 h4 h5 h6 => gd_xout hlk ht (Nat.le_of_ble_eq_true rfl) (Nat.le_of_ble_eq_true rfl) hE hx h1 h2 h4 h5 h6)
  refine gd_wide (k2 := 1) (j2 := 6) (Nat.le_of_ble_eq_true rfl) (Nat.le_of_ble_eq_true rfl) ?_
  refine gd_aload_n (pc := 4) X 0 dX5_value_4 rfl ?_
  obtain ⟨hk3, h⟩ := h
  refine gd_getR (pc := 5) (kf := 0) X ci5 (by decide) rfl tw_88 dX5_value_5 hk3 ?_
  obtain ⟨hk4, h⟩ := h
  refine gd_callV (pc := 8) (As := []) (rest := []) X (ct_X1_newest l G S1 (sR S1 a0 0) _ h) mw_X1_newest tw_499 ci1 rfl hk4 ⟨(Nat.le_of_ble_eq_true rfl), (Nat.le_of_ble_eq_true rfl)⟩ rfl rfl (Nat.le_of_ble_eq_true rfl) dX5_value_8 ⟨Nat.le_of_ble_eq_true rfl, Nat.le_of_ble_eq_true rfl⟩ (kR (fun r6 S5 h => ?_))
  refine gd_wide (k2 := 1) (j2 := 6) (Nat.le_of_ble_eq_true rfl) (Nat.le_of_ble_eq_true rfl) ?_
  refine gd_iload_n (pc := 11) X 1 dX5_value_11 rfl ?_
  obtain ⟨hk7, h⟩ := h
  obtain ⟨hi8, h⟩ := h
  refine gd_iald (pc := 12) X dX5_value_12 hk7 hi8 ?_
  exact gd_x (gd_ret_i (pc := 13) X hr hlk rfl (by decide) (by decide) dX5_value_13 ⟨_, rfl, h⟩)
abbrev rm_X5_requireCommit : Room := { frames := 6, cells := 1, slots := 6, locals := 100 }
def w_X5_requireCommit (S : MS) (a0 : Nat) (a1 : Int32) (a2 : Int32) (post : MS → Prop) (xp : String → MS → Prop) : Prop := kT S a0 = 6 ∧ kT S (sR S a0 0) = 2 ∧ w_X5_isBetween S a1 a2 (sI S (sR S a0 0) 2) (fun r4 S3 => ((¬ r4 = 0 → post S3) ∧ (r4 = 0 → xp "java/lang/IndexOutOfBoundsException" S3)))
set_option maxHeartbeats 4000000 in
set_option maxRecDepth 100000 in
theorem ct_X5_requireCommit (l : Launch) (hfl : l.stackTraces = false) (G : GP) (S : MS) (a0 : Nat) (a1 : Int32) (a2 : Int32) (post : MS → Prop) (xp : String → MS → Prop) (h : w_X5_requireCommit S a0 a1 a2 post xp) : MetX l yX5_requireCommit cX5_requireCommit 3 none rm_X5_requireCommit [rf a0, .int a1, .int a2] G S (pV_ post) xp := by
  refine metX_of (by decide) (cat1_r (cat1_i (cat1_i cat1_n))) (Nat.le_of_ble_eq_true rfl) ?_
  intro p e s m args below meth c X hr hlk ht
  refine gd_iload_n (pc := 0) X 1 dX5_requireCommit_0 rfl ?_
  refine gd_iload_n (pc := 1) X 2 dX5_requireCommit_1 rfl ?_
  refine gd_aload_n (pc := 2) X 0 dX5_requireCommit_2 rfl ?_
  obtain ⟨hk1, h⟩ := h
  refine gd_getR (pc := 3) (kf := 0) X ci5 (by decide) rfl tw_88 dX5_requireCommit_3 hk1 ?_
  obtain ⟨hk2, h⟩ := h
  refine gd_getI (pc := 6) (kf := 2) X ci1 (by decide) rfl tw_45 dX5_requireCommit_6 hk2 ?_
  refine gd_callS (pc := 9) (As := [.int a1, .int a2, .int (sI S (sR S a0 0) 2)]) (rest := []) X (ct_X5_isBetween l G S a1 a2 (sI S (sR S a0 0) 2) _ h) mw_X5_isBetween tw_231 ⟨(Nat.le_of_ble_eq_true rfl), (Nat.le_of_ble_eq_true rfl)⟩ rfl rfl (Nat.le_of_ble_eq_true rfl) dX5_requireCommit_9 ⟨Nat.le_of_ble_eq_true rfl, Nat.le_of_ble_eq_true rfl⟩ (kI (fun r4 S3 h => ?_))
  refine gd_wide (k2 := 0) (j2 := 0) (Nat.le_of_ble_eq_true rfl) (Nat.le_of_ble_eq_true rfl) ?_
  refine gd_if_ne (pc := 12) X 26 dX5_requireCommit_12 (by decide) (fun hc5 => ?_) (fun hc5 => ?_)
  · have h := h.1 hc5
    exact gd_x (gd_ret_v (pc := 26) X hr hlk (by decide) (by decide) dX5_requireCommit_26 ⟨rfl, h⟩)
  · have h := h.2 hc5
    exact gd_throwW (pc := 15) hfl X hlk ht th_19 dX5_requireCommit_15 dX5_requireCommit_18 dX5_requireCommit_19 dX5_requireCommit_22 dX5_requireCommit_25 (by decide) (by decide) (by decide) (by decide) h
abbrev rm_X5_valueAt : Room := { frames := 7, cells := 2, slots := 12, locals := 122 }
def w_X5_valueAt (S : MS) (a0 : Nat) (a1 : Int32) (a2 : Int32) (post : Int32 → MS → Prop) (xp : String → MS → Prop) : Prop := w_X5_requireKey S a1 (fun S1 => kT S1 a0 = 6 ∧ w_X5_requireCommit S1 a0 a2 0 (fun S4 => kT S4 a0 = 6 ∧ kT S4 (sR S4 a0 0) = 2 ∧ w_X1_storeAfter S4 (sR S4 a0 0) a2 (fun r9 S8 => kT S8 r9 = 9 ∧ vp_in a1 (kL S8 r9) ∧ post (sI S8 r9 (ix a1)) S8)) xp) xp
set_option maxHeartbeats 4000000 in
set_option maxRecDepth 100000 in
theorem ct_X5_valueAt (l : Launch) (hfl : l.stackTraces = false) (G : GP) (S : MS) (a0 : Nat) (a1 : Int32) (a2 : Int32) (post : Int32 → MS → Prop) (xp : String → MS → Prop) (h : w_X5_valueAt S a0 a1 a2 post xp) : MetX l yX5_valueAt cX5_valueAt 3 (some .int) rm_X5_valueAt [rf a0, .int a1, .int a2] G S (pI_ post) xp := by
  refine metX_of (by decide) (cat1_r (cat1_i (cat1_i cat1_n))) (Nat.le_of_ble_eq_true rfl) ?_
  intro p e s m args below meth c X hr hlk ht
  refine gd_iload_n (pc := 0) X 1 dX5_valueAt_0 rfl ?_
  refine gd_callSX (pc := 1) (As := [.int a1]) (rest := []) X (ct_X5_requireKey l hfl G S a1 _ _ h) mw_X5_requireKey tw_789 ⟨(Nat.le_of_ble_eq_true rfl), (Nat.le_of_ble_eq_true rfl)⟩ rfl rfl (Nat.le_of_ble_eq_true rfl) dX5_valueAt_1 ⟨Nat.le_of_ble_eq_true rfl, Nat.le_of_ble_eq_true rfl⟩ (kV (fun S1 h => ?_)) (fun Ex S9 hE hx H1 locs1 la q ce h1 h2 h3 h4 h5 h6 => gd_xout hlk ht (Nat.le_of_ble_eq_true rfl) (Nat.le_of_ble_eq_true rfl) hE hx h1 h2 h4 h5 h6)
  refine gd_wide (k2 := 1) (j2 := 6) (Nat.le_of_ble_eq_true rfl) (Nat.le_of_ble_eq_true rfl) ?_
  refine gd_aload_n (pc := 4) X 0 dX5_valueAt_4 rfl ?_
  refine gd_iload_n (pc := 5) X 2 dX5_valueAt_5 rfl ?_
  refine gd_iconst (pc := 6) X (0) dX5_valueAt_6 (by decide) ?_
  obtain ⟨hk3, h⟩ := h
  refine gd_callVX (pc := 7) (As := [.int a2, .int 0]) (rest := []) X (ct_X5_requireCommit l hfl G S1 a0 a2 0 _ _ h) mw_X5_requireCommit tw_801 ci5 rfl hk3 ⟨(Nat.le_of_ble_eq_true rfl), (Nat.le_of_ble_eq_true rfl)⟩ rfl rfl (Nat.le_of_ble_eq_true rfl) dX5_valueAt_7 ⟨Nat.le_of_ble_eq_true rfl, Nat.le_of_ble_eq_true rfl⟩ (kV (fun S4 h => ?_)) (fun Ex S9 hE hx H1 locs1 la q ce h1 h2 h3 h4 h5 h6 => gd_xout hlk ht (Nat.le_of_ble_eq_true rfl) (Nat.le_of_ble_eq_true rfl) hE hx h1 h2 h4 h5 h6)
  refine gd_wide (k2 := 2) (j2 := 12) (Nat.le_of_ble_eq_true rfl) (Nat.le_of_ble_eq_true rfl) ?_
  refine gd_aload_n (pc := 10) X 0 dX5_valueAt_10 rfl ?_
  obtain ⟨hk6, h⟩ := h
  refine gd_getR (pc := 11) (kf := 0) X ci5 (by decide) rfl tw_88 dX5_valueAt_11 hk6 ?_
  refine gd_iload_n (pc := 14) X 2 dX5_valueAt_14 rfl ?_
  obtain ⟨hk7, h⟩ := h
  refine gd_callV (pc := 15) (As := [.int a2]) (rest := []) X (ct_X1_storeAfter l G S4 (sR S4 a0 0) a2 _ h) mw_X1_storeAfter tw_189 ci1 rfl hk7 ⟨(Nat.le_of_ble_eq_true rfl), (Nat.le_of_ble_eq_true rfl)⟩ rfl rfl (Nat.le_of_ble_eq_true rfl) dX5_valueAt_15 ⟨Nat.le_of_ble_eq_true rfl, Nat.le_of_ble_eq_true rfl⟩ (kR (fun r9 S8 h => ?_))
  refine gd_wide (k2 := 2) (j2 := 12) (Nat.le_of_ble_eq_true rfl) (Nat.le_of_ble_eq_true rfl) ?_
  refine gd_iload_n (pc := 18) X 1 dX5_valueAt_18 rfl ?_
  obtain ⟨hk10, h⟩ := h
  obtain ⟨hi11, h⟩ := h
  refine gd_iald (pc := 19) X dX5_valueAt_19 hk10 hi11 ?_
  exact gd_x (gd_ret_i (pc := 20) X hr hlk rfl (by decide) (by decide) dX5_valueAt_20 ⟨_, rfl, h⟩)
abbrev rm_X5_writerOf : Room := { frames := 7, cells := 1, slots := 6, locals := 120 }
def w_X5_writerOf (S : MS) (a0 : Nat) (a1 : Int32) (post : Int32 → MS → Prop) (xp : String → MS → Prop) : Prop := w_X5_requireKey S a1 (fun S1 => kT S1 a0 = 6 ∧ kT S1 (sR S1 a0 0) = 2 ∧ w_X1_latestWriter S1 (sR S1 a0 0) a1 (fun r6 S5 => post r6 S5)) xp
set_option maxHeartbeats 4000000 in
set_option maxRecDepth 100000 in
theorem ct_X5_writerOf (l : Launch) (hfl : l.stackTraces = false) (G : GP) (S : MS) (a0 : Nat) (a1 : Int32) (post : Int32 → MS → Prop) (xp : String → MS → Prop) (h : w_X5_writerOf S a0 a1 post xp) : MetX l yX5_writerOf cX5_writerOf 2 (some .int) rm_X5_writerOf [rf a0, .int a1] G S (pI_ post) xp := by
  refine metX_of (by decide) (cat1_r (cat1_i cat1_n)) (Nat.le_of_ble_eq_true rfl) ?_
  intro p e s m args below meth c X hr hlk ht
  refine gd_iload_n (pc := 0) X 1 dX5_writerOf_0 rfl ?_
  refine gd_callSX (pc := 1) (As := [.int a1]) (rest := []) X (ct_X5_requireKey l hfl G S a1 _ _ h) mw_X5_requireKey tw_789 ⟨(Nat.le_of_ble_eq_true rfl), (Nat.le_of_ble_eq_true rfl)⟩ rfl rfl (Nat.le_of_ble_eq_true rfl) dX5_writerOf_1 ⟨Nat.le_of_ble_eq_true rfl, Nat.le_of_ble_eq_true rfl⟩ (kV (fun S1 h => ?_)) (fun Ex S9 hE hx H1 locs1 la q ce h1 h2 h3 h4 h5 h6 => gd_xout hlk ht (Nat.le_of_ble_eq_true rfl) (Nat.le_of_ble_eq_true rfl) hE hx h1 h2 h4 h5 h6)
  refine gd_wide (k2 := 1) (j2 := 6) (Nat.le_of_ble_eq_true rfl) (Nat.le_of_ble_eq_true rfl) ?_
  refine gd_aload_n (pc := 4) X 0 dX5_writerOf_4 rfl ?_
  obtain ⟨hk3, h⟩ := h
  refine gd_getR (pc := 5) (kf := 0) X ci5 (by decide) rfl tw_88 dX5_writerOf_5 hk3 ?_
  refine gd_iload_n (pc := 8) X 1 dX5_writerOf_8 rfl ?_
  obtain ⟨hk4, h⟩ := h
  refine gd_callV (pc := 9) (As := [.int a1]) (rest := []) X (ct_X1_latestWriter l G S1 (sR S1 a0 0) a1 _ h) mw_X1_latestWriter tw_813 ci1 rfl hk4 ⟨(Nat.le_of_ble_eq_true rfl), (Nat.le_of_ble_eq_true rfl)⟩ rfl rfl (Nat.le_of_ble_eq_true rfl) dX5_writerOf_9 ⟨Nat.le_of_ble_eq_true rfl, Nat.le_of_ble_eq_true rfl⟩ (kI (fun r6 S5 h => ?_))
  refine gd_wide (k2 := 1) (j2 := 6) (Nat.le_of_ble_eq_true rfl) (Nat.le_of_ble_eq_true rfl) ?_
  exact gd_x (gd_ret_i (pc := 12) X hr hlk rfl (by decide) (by decide) dX5_writerOf_12 ⟨_, rfl, h⟩)
abbrev rm_X5_transactionOf : Room := { frames := 7, cells := 1, slots := 6, locals := 122 }
def b_X5_transactionOf_27 (post : Int32 → MS → Prop) (xp : String → MS → Prop) (S : MS) (l0 : Nat) (l1 : Int32) (l2 : Nat) (s0 : Int32) : Prop := post s0 S
def w_X5_transactionOf (S : MS) (a0 : Nat) (a1 : Int32) (post : Int32 → MS → Prop) (xp : String → MS → Prop) : Prop := kT S a0 = 6 ∧ w_X5_requireCommit S a0 a1 1 (fun S2 => kT S2 a0 = 6 ∧ kT S2 (sR S2 a0 0) = 2 ∧ w_X1_authorOf S2 (sR S2 a0 0) a1 (fun r7 S6 => ((¬ r7 = 0 → kT S6 r7 = 5 ∧ b_X5_transactionOf_27 post xp S6 a0 a1 r7 (sI S6 r7 0)) ∧ (r7 = 0 → b_X5_transactionOf_27 post xp S6 a0 a1 r7 ((-1)))))) xp
set_option maxHeartbeats 4000000 in
set_option maxRecDepth 100000 in
theorem ct_X5_transactionOf (l : Launch) (hfl : l.stackTraces = false) (G : GP) (S : MS) (a0 : Nat) (a1 : Int32) (post : Int32 → MS → Prop) (xp : String → MS → Prop) (h : w_X5_transactionOf S a0 a1 post xp) : MetX l yX5_transactionOf cX5_transactionOf 3 (some .int) rm_X5_transactionOf [rf a0, .int a1] G S (pI_ post) xp := by
  refine metX_of (by decide) (cat1_r (cat1_i cat1_n)) (Nat.le_of_ble_eq_true rfl) ?_
  intro p e s m args below meth c X hr hlk ht
  revert h
  have g27 : ∀ (S : MS) (l0 : Nat) (l1 : Int32) (l2 : Nat) (s0 : Int32), b_X5_transactionOf_27 post xp S l0 l1 l2 s0 → Gd p l e rm_X5_transactionOf s m args below meth c 3 G (vx_MQ below (QcM G (pI_ post)) (XcM G xp) args s rm_X5_transactionOf.cells rm_X5_transactionOf.slots (Ab G)) 1 6 S 27 [(0, rf l0), (1, .int l1), (2, rf l2)] [.int s0] := by
    intro S l0 l1 l2 s0 h
    exact gd_x (gd_ret_i (pc := 27) X hr hlk rfl (by decide) (by decide) dX5_transactionOf_27 ⟨_, rfl, h⟩)
  intro h
  refine gd_aload_n (pc := 0) X 0 dX5_transactionOf_0 rfl ?_
  refine gd_iload_n (pc := 1) X 1 dX5_transactionOf_1 rfl ?_
  refine gd_iconst (pc := 2) X (1) dX5_transactionOf_2 (by decide) ?_
  obtain ⟨hk1, h⟩ := h
  refine gd_callVX (pc := 3) (As := [.int a1, .int 1]) (rest := []) X (ct_X5_requireCommit l hfl G S a0 a1 1 _ _ h) mw_X5_requireCommit tw_801 ci5 rfl hk1 ⟨(Nat.le_of_ble_eq_true rfl), (Nat.le_of_ble_eq_true rfl)⟩ rfl rfl (Nat.le_of_ble_eq_true rfl) dX5_transactionOf_3 ⟨Nat.le_of_ble_eq_true rfl, Nat.le_of_ble_eq_true rfl⟩ (kV (fun S2 h => ?_)) (fun Ex S9 hE hx H1 locs1 la q ce h1 h2 h3 h4 h5 h6 => gd_xout hlk ht (Nat.le_of_ble_eq_true rfl) (Nat.le_of_ble_eq_true rfl) hE hx h1 h2 h4 h5 h6)
  refine gd_wide (k2 := 1) (j2 := 6) (Nat.le_of_ble_eq_true rfl) (Nat.le_of_ble_eq_true rfl) ?_
  refine gd_aload_n (pc := 6) X 0 dX5_transactionOf_6 rfl ?_
  obtain ⟨hk4, h⟩ := h
  refine gd_getR (pc := 7) (kf := 0) X ci5 (by decide) rfl tw_88 dX5_transactionOf_7 hk4 ?_
  refine gd_iload_n (pc := 10) X 1 dX5_transactionOf_10 rfl ?_
  obtain ⟨hk5, h⟩ := h
  refine gd_callV (pc := 11) (As := [.int a1]) (rest := []) X (ct_X1_authorOf l G S2 (sR S2 a0 0) a1 _ h) mw_X1_authorOf tw_185 ci1 rfl hk5 ⟨(Nat.le_of_ble_eq_true rfl), (Nat.le_of_ble_eq_true rfl)⟩ rfl rfl (Nat.le_of_ble_eq_true rfl) dX5_transactionOf_11 ⟨Nat.le_of_ble_eq_true rfl, Nat.le_of_ble_eq_true rfl⟩ (kR (fun r7 S6 h => ?_))
  refine gd_wide (k2 := 1) (j2 := 6) (Nat.le_of_ble_eq_true rfl) (Nat.le_of_ble_eq_true rfl) ?_
  refine gd_astore_n (pc := 14) X dX5_transactionOf_14 (by decide) (E2 := [(2, rf r7), (0, rf a0), (1, .int a1)]) rfl ?_
  refine gd_aload_n (pc := 15) X 0 dX5_transactionOf_15 rfl ?_
  refine gd_ifnonnull (pc := 16) X 23 dX5_transactionOf_16 (by decide) (fun hc9 => ?_) (fun hc9 => ?_)
  · have h := h.1 hc9
    refine gd_aload_n (pc := 23) X 0 dX5_transactionOf_23 rfl ?_
    obtain ⟨hk8, h⟩ := h
    refine gd_getI (pc := 24) (kf := 0) X ci4 (by decide) rfl tw_344 dX5_transactionOf_24 hk8 ?_
    refine gd_sub [1, 2, 0] rfl ?_
    exact g27 _ _ _ _ _ h
  · have h := h.2 hc9
    refine gd_iconst (pc := 19) X (-1) dX5_transactionOf_19 (by decide) ?_
    refine gd_goto (pc := 20) X 27 dX5_transactionOf_20 (by decide) ?_
    refine gd_sub [1, 2, 0] rfl ?_
    exact g27 _ _ _ _ _ h
abbrev rm_X5_dependency : Room := { frames := 7, cells := 3, slots := 18, locals := 122 }
def w_X5_dependency (S : MS) (a0 : Nat) (a1 : Int32) (a2 : Int32) (post : Int32 → MS → Prop) (xp : String → MS → Prop) : Prop := kT S a0 = 6 ∧ w_X5_requireCommit S a0 a1 1 (fun S2 => kT S2 a0 = 6 ∧ w_X5_requireCommit S2 a0 a2 1 (fun S5 => ((a1 < a2 → kT S5 a0 = 6 ∧ kT S5 (sR S5 a0 0) = 2 ∧ w_X1_link S5 (sR S5 a0 0) a1 a2 (fun r10 S9 => post r10 S9)) ∧ (¬ a1 < a2 → xp "java/lang/IllegalArgumentException" S5))) xp) xp
set_option maxHeartbeats 4000000 in
set_option maxRecDepth 100000 in
theorem ct_X5_dependency (l : Launch) (hfl : l.stackTraces = false) (G : GP) (S : MS) (a0 : Nat) (a1 : Int32) (a2 : Int32) (post : Int32 → MS → Prop) (xp : String → MS → Prop) (h : w_X5_dependency S a0 a1 a2 post xp) : MetX l yX5_dependency cX5_dependency 3 (some .int) rm_X5_dependency [rf a0, .int a1, .int a2] G S (pI_ post) xp := by
  refine metX_of (by decide) (cat1_r (cat1_i (cat1_i cat1_n))) (Nat.le_of_ble_eq_true rfl) ?_
  intro p e s m args below meth c X hr hlk ht
  refine gd_aload_n (pc := 0) X 0 dX5_dependency_0 rfl ?_
  refine gd_iload_n (pc := 1) X 1 dX5_dependency_1 rfl ?_
  refine gd_iconst (pc := 2) X (1) dX5_dependency_2 (by decide) ?_
  obtain ⟨hk1, h⟩ := h
  refine gd_callVX (pc := 3) (As := [.int a1, .int 1]) (rest := []) X (ct_X5_requireCommit l hfl G S a0 a1 1 _ _ h) mw_X5_requireCommit tw_801 ci5 rfl hk1 ⟨(Nat.le_of_ble_eq_true rfl), (Nat.le_of_ble_eq_true rfl)⟩ rfl rfl (Nat.le_of_ble_eq_true rfl) dX5_dependency_3 ⟨Nat.le_of_ble_eq_true rfl, Nat.le_of_ble_eq_true rfl⟩ (kV (fun S2 h => ?_)) (fun Ex S9 hE hx H1 locs1 la q ce h1 h2 h3 h4 h5 h6 => gd_xout hlk ht (Nat.le_of_ble_eq_true rfl) (Nat.le_of_ble_eq_true rfl) hE hx h1 h2 h4 h5 h6)
  refine gd_wide (k2 := 1) (j2 := 6) (Nat.le_of_ble_eq_true rfl) (Nat.le_of_ble_eq_true rfl) ?_
  refine gd_aload_n (pc := 6) X 0 dX5_dependency_6 rfl ?_
  refine gd_iload_n (pc := 7) X 2 dX5_dependency_7 rfl ?_
  refine gd_iconst (pc := 8) X (1) dX5_dependency_8 (by decide) ?_
  obtain ⟨hk4, h⟩ := h
  refine gd_callVX (pc := 9) (As := [.int a2, .int 1]) (rest := []) X (ct_X5_requireCommit l hfl G S2 a0 a2 1 _ _ h) mw_X5_requireCommit tw_801 ci5 rfl hk4 ⟨(Nat.le_of_ble_eq_true rfl), (Nat.le_of_ble_eq_true rfl)⟩ rfl rfl (Nat.le_of_ble_eq_true rfl) dX5_dependency_9 ⟨Nat.le_of_ble_eq_true rfl, Nat.le_of_ble_eq_true rfl⟩ (kV (fun S5 h => ?_)) (fun Ex S9 hE hx H1 locs1 la q ce h1 h2 h3 h4 h5 h6 => gd_xout hlk ht (Nat.le_of_ble_eq_true rfl) (Nat.le_of_ble_eq_true rfl) hE hx h1 h2 h4 h5 h6)
  refine gd_wide (k2 := 2) (j2 := 12) (Nat.le_of_ble_eq_true rfl) (Nat.le_of_ble_eq_true rfl) ?_
  refine gd_iload_n (pc := 12) X 1 dX5_dependency_12 rfl ?_
  refine gd_iload_n (pc := 13) X 2 dX5_dependency_13 rfl ?_
  refine gd_icmp_lt (pc := 14) X 27 dX5_dependency_14 (by decide) (fun hc11 => ?_) (fun hc11 => ?_)
  · have h := h.1 hc11
    refine gd_aload_n (pc := 27) X 0 dX5_dependency_27 rfl ?_
    obtain ⟨hk7, h⟩ := h
    refine gd_getR (pc := 28) (kf := 0) X ci5 (by decide) rfl tw_88 dX5_dependency_28 hk7 ?_
    refine gd_iload_n (pc := 31) X 1 dX5_dependency_31 rfl ?_
    refine gd_iload_n (pc := 32) X 2 dX5_dependency_32 rfl ?_
    obtain ⟨hk8, h⟩ := h
    refine gd_callV (pc := 33) (As := [.int a1, .int a2]) (rest := []) X (ct_X1_link l G S5 (sR S5 a0 0) a1 a2 _ h) mw_X1_link tw_145 ci1 rfl hk8 ⟨(Nat.le_of_ble_eq_true rfl), (Nat.le_of_ble_eq_true rfl)⟩ rfl rfl (Nat.le_of_ble_eq_true rfl) dX5_dependency_33 ⟨Nat.le_of_ble_eq_true rfl, Nat.le_of_ble_eq_true rfl⟩ (kI (fun r10 S9 h => ?_))
    refine gd_wide (k2 := 2) (j2 := 12) (Nat.le_of_ble_eq_true rfl) (Nat.le_of_ble_eq_true rfl) ?_
    exact gd_x (gd_ret_i (pc := 36) X hr hlk rfl (by decide) (by decide) dX5_dependency_36 ⟨_, rfl, h⟩)
  · have h := h.2 hc11
    exact gd_throw (pc := 17) hfl X hlk ht th_20 dX5_dependency_17 dX5_dependency_20 dX5_dependency_21 dX5_dependency_23 dX5_dependency_26 (by decide) (by decide) (by decide) (by decide) h
abbrev rm_X5_longestChain : Room := { frames := 4, cells := 0, slots := 0, locals := 100 }
def b_X5_longestChain_70 (KH4 : MS → Nat → Int32 → Int32 → Prop) (KH24 : MS → Nat → Int32 → Int32 → Int32 → Prop) (post : Int32 → MS → Prop) (S : MS) (l0 : Nat) (l1 : Int32) (l2 : Int32) (l3 : Int32) : Prop := ∀ v1 : Int32, v1 = l3 + 1 → KH24 S l0 l1 l2 v1
def b_X5_longestChain_24 (KH4 : MS → Nat → Int32 → Int32 → Prop) (post : Int32 → MS → Prop) : Nat → MS → Nat → Int32 → Int32 → Int32 → Prop
  | 0 => fun _ _ _ _ _ => False
  | f + 1 => fun S l0 l1 l2 l3 => ((l2 ≤ l3 → kT S l0 = 6 ∧ kT S (sR S l0 5) = 9 ∧ vp_in l2 (kL S (sR S l0 5)) ∧ ∀ v4 : Int32, v4 = (if l1 < (sI S (sR S l0 5) (ix l2)) then (sI S (sR S l0 5) (ix l2)) else l1) → ∀ v5 : Int32, v5 = l2 + 1 → KH4 S l0 v4 v5) ∧ (¬ l2 ≤ l3 → kT S l0 = 6 ∧ kT S (sR S l0 5) = 9 ∧ vp_in l3 (kL S (sR S l0 5)) ∧ vp_in l2 (kL S (sR S l0 5)) ∧ (((sI S (sR S l0 5) (ix l3)) < (sI S (sR S l0 5) (ix l2)) → b_X5_longestChain_70 KH4 (b_X5_longestChain_24 KH4 post f) post S l0 l1 l2 l3) ∧ (¬ (sI S (sR S l0 5) (ix l3)) < (sI S (sR S l0 5) (ix l2)) → kT S (sR S l0 0) = 2 ∧ w_X1_link S (sR S l0 0) l3 l2 (fun r12 S11 => ((r12 = 0 → b_X5_longestChain_70 KH4 (b_X5_longestChain_24 KH4 post f) post S11 l0 l1 l2 l3) ∧ (¬ r12 = 0 → kT S11 l0 = 6 ∧ kT S11 (sR S11 l0 5) = 9 ∧ vp_in l3 (kL S11 (sR S11 l0 5)) ∧ vp_in l2 (kL S11 (sR S11 l0 5)) ∧ ∀ S17 : MS, S17 = pI S11 (sR S11 l0 5) (ix l2) ((sI S11 (sR S11 l0 5) (ix l3)) + 1) → b_X5_longestChain_70 KH4 (b_X5_longestChain_24 KH4 post f) post S17 l0 l1 l2 l3)))))))
def b_X5_longestChain_4 (post : Int32 → MS → Prop) : Nat → MS → Nat → Int32 → Int32 → Prop
  | 0 => fun _ _ _ _ => False
  | f + 1 => fun S l0 l1 l2 => kT S l0 = 6 ∧ kT S (sR S l0 0) = 2 ∧ (((sI S (sR S l0 0) 2) < l2 → post l1 S) ∧ (¬ (sI S (sR S l0 0) 2) < l2 → kT S (sR S l0 5) = 9 ∧ vp_in l2 (kL S (sR S l0 5)) ∧ ∀ S5 : MS, S5 = pI S (sR S l0 5) (ix l2) 1 → ∃ f24, b_X5_longestChain_24 (b_X5_longestChain_4 post f) post f24 S5 l0 l1 l2 1))
def w_X5_longestChain (S : MS) (a0 : Nat) (post : Int32 → MS → Prop) : Prop := ∃ f4, b_X5_longestChain_4 post f4 S a0 0 1
set_option maxHeartbeats 4000000 in
set_option maxRecDepth 100000 in
theorem ct_X5_longestChain (l : Launch) (G : GP) (S : MS) (a0 : Nat) (post : Int32 → MS → Prop) (h : w_X5_longestChain S a0 post) : MetM l yX5_longestChain cX5_longestChain 4 (some .int) rm_X5_longestChain [rf a0] G S (pI_ post) := by
  refine met_of (by decide) (cat1_r cat1_n) (Nat.le_of_ble_eq_true rfl) ?_
  intro p e s m args below meth c X hr hlk hin
  revert h
  have g70 : ∀ (KH4 : MS → Nat → Int32 → Int32 → Prop) (hKH4 : ∀ (S : MS) (l0 : Nat) (l1 : Int32) (l2 : Int32), KH4 S l0 l1 l2 → Gd p l e rm_X5_longestChain s m args below meth c 4 G (MQ below (QcM G (pI_ post)) args s rm_X5_longestChain.cells rm_X5_longestChain.slots (Ab G)) 0 0 S 4 [(0, rf l0), (1, .int l1), (2, .int l2)] []) (KH24 : MS → Nat → Int32 → Int32 → Int32 → Prop) (hKH24 : ∀ (S : MS) (l0 : Nat) (l1 : Int32) (l2 : Int32) (l3 : Int32), KH24 S l0 l1 l2 l3 → Gd p l e rm_X5_longestChain s m args below meth c 4 G (MQ below (QcM G (pI_ post)) args s rm_X5_longestChain.cells rm_X5_longestChain.slots (Ab G)) 0 0 S 24 [(0, rf l0), (1, .int l1), (2, .int l2), (3, .int l3)] []) (S : MS) (l0 : Nat) (l1 : Int32) (l2 : Int32) (l3 : Int32), b_X5_longestChain_70 KH4 KH24 post S l0 l1 l2 l3 → Gd p l e rm_X5_longestChain s m args below meth c 4 G (MQ below (QcM G (pI_ post)) args s rm_X5_longestChain.cells rm_X5_longestChain.slots (Ab G)) 0 0 S 70 [(0, rf l0), (1, .int l1), (2, .int l2), (3, .int l3)] [] := by
    intro KH4 hKH4 KH24 hKH24 S l0 l1 l2 l3 h
    obtain ⟨v1, hv1⟩ : ∃ z : Int32, z = l3 + 1 := ⟨_, rfl⟩
    have h := h v1 hv1
    refine gd_iinc (pc := 70) (v := v1) X 3 dX5_longestChain_70 rfl (by rw [hv1]; rfl) (by decide) (E2 := [(3, .int v1), (0, rf l0), (1, .int l1), (2, .int l2)]) rfl ?_
    refine gd_goto (pc := 73) X 24 dX5_longestChain_73 (by decide) ?_
    refine gd_sub [1, 2, 3, 0] rfl ?_
    exact hKH24 _ _ _ _ _ h
  have g24 : ∀ (KH4 : MS → Nat → Int32 → Int32 → Prop) (hKH4 : ∀ (S : MS) (l0 : Nat) (l1 : Int32) (l2 : Int32), KH4 S l0 l1 l2 → Gd p l e rm_X5_longestChain s m args below meth c 4 G (MQ below (QcM G (pI_ post)) args s rm_X5_longestChain.cells rm_X5_longestChain.slots (Ab G)) 0 0 S 4 [(0, rf l0), (1, .int l1), (2, .int l2)] []) (f : Nat) (S : MS) (l0 : Nat) (l1 : Int32) (l2 : Int32) (l3 : Int32), b_X5_longestChain_24 KH4 post f S l0 l1 l2 l3 → Gd p l e rm_X5_longestChain s m args below meth c 4 G (MQ below (QcM G (pI_ post)) args s rm_X5_longestChain.cells rm_X5_longestChain.slots (Ab G)) 0 0 S 24 [(0, rf l0), (1, .int l1), (2, .int l2), (3, .int l3)] [] := by
    intro KH4 hKH4
    intro f
    induction f with
    | zero => intro S l0 l1 l2 l3 h; exact h.elim
    | succ f ih =>
      intro S l0 l1 l2 l3 h
      refine gd_iload_n (pc := 24) X 3 dX5_longestChain_24 rfl ?_
      refine gd_iload_n (pc := 25) X 2 dX5_longestChain_25 rfl ?_
      refine gd_icmp_ge (pc := 26) X 76 dX5_longestChain_26 (by decide) (fun hc22 => ?_) (fun hc22 => ?_)
      · have h := h.1 hc22
        refine gd_iload_n (pc := 76) X 1 dX5_longestChain_76 rfl ?_
        refine gd_aload_n (pc := 77) X 0 dX5_longestChain_77 rfl ?_
        obtain ⟨hk1, h⟩ := h
        refine gd_getR (pc := 78) (kf := 5) X ci5 (by decide) rfl tw_93 dX5_longestChain_78 hk1 ?_
        refine gd_iload_n (pc := 81) X 2 dX5_longestChain_81 rfl ?_
        obtain ⟨hk2, h⟩ := h
        obtain ⟨hi3, h⟩ := h
        refine gd_iald (pc := 82) X dX5_longestChain_82 hk2 hi3 ?_
        refine gd_max (pc := 83) X tw_178 mx_1 mx_2 mx_3 dX5_longestChain_83 ⟨(Nat.le_of_ble_eq_true rfl), (Nat.le_of_ble_eq_true rfl), (Nat.le_of_ble_eq_true rfl), (Nat.le_of_ble_eq_true rfl)⟩ (Nat.le_of_ble_eq_true rfl) ?_
        refine gd_topI (fun v4 hv4 => ?_)
        have h := h v4 hv4
        refine gd_istore_n (pc := 86) X dX5_longestChain_86 (by decide) (E2 := [(1, .int v4), (0, rf l0), (2, .int l2), (3, .int l3)]) (by simp [rf_cat, lv1, int_cat] <;> decide) ?_
        obtain ⟨v5, hv5⟩ : ∃ z : Int32, z = l2 + 1 := ⟨_, rfl⟩
        have h := h v5 hv5
        refine gd_iinc (pc := 87) (v := v5) X 2 dX5_longestChain_87 rfl (by rw [hv5]; rfl) (by decide) (E2 := [(2, .int v5), (1, .int v4), (0, rf l0), (3, .int l3)]) rfl ?_
        refine gd_goto (pc := 90) X 4 dX5_longestChain_90 (by decide) ?_
        refine gd_sub [2, 1, 0] rfl ?_
        exact hKH4 _ _ _ _ h
      · have h := h.2 hc22
        refine gd_aload_n (pc := 29) X 0 dX5_longestChain_29 rfl ?_
        obtain ⟨hk6, h⟩ := h
        refine gd_getR (pc := 30) (kf := 5) X ci5 (by decide) rfl tw_93 dX5_longestChain_30 hk6 ?_
        refine gd_iload_n (pc := 33) X 3 dX5_longestChain_33 rfl ?_
        obtain ⟨hk7, h⟩ := h
        obtain ⟨hi8, h⟩ := h
        refine gd_iald (pc := 34) X dX5_longestChain_34 hk7 hi8 ?_
        refine gd_aload_n (pc := 35) X 0 dX5_longestChain_35 rfl ?_
        refine gd_getR (pc := 36) (kf := 5) X ci5 (by decide) rfl tw_93 dX5_longestChain_36 hk6 ?_
        refine gd_iload_n (pc := 39) X 2 dX5_longestChain_39 rfl ?_
        obtain ⟨hi9, h⟩ := h
        refine gd_iald (pc := 40) X dX5_longestChain_40 hk7 hi9 ?_
        refine gd_icmp_lt (pc := 41) X 70 dX5_longestChain_41 (by decide) (fun hc21 => ?_) (fun hc21 => ?_)
        · have h := h.1 hc21
          exact g70 _ hKH4 _ ih _ _ _ _ _ h
        · have h := h.2 hc21
          refine gd_aload_n (pc := 44) X 0 dX5_longestChain_44 rfl ?_
          refine gd_getR (pc := 45) (kf := 0) X ci5 (by decide) rfl tw_88 dX5_longestChain_45 hk6 ?_
          refine gd_iload_n (pc := 48) X 3 dX5_longestChain_48 rfl ?_
          refine gd_iload_n (pc := 49) X 2 dX5_longestChain_49 rfl ?_
          obtain ⟨hk10, h⟩ := h
          refine gd_callV (pc := 50) (As := [.int l3, .int l2]) (rest := []) X (ct_X1_link l G S (sR S l0 0) l3 l2 _ h) mw_X1_link tw_145 ci1 rfl hk10 ⟨(Nat.le_of_ble_eq_true rfl), (Nat.le_of_ble_eq_true rfl)⟩ rfl rfl (Nat.le_of_ble_eq_true rfl) dX5_longestChain_50 ⟨Nat.le_of_ble_eq_true rfl, Nat.le_of_ble_eq_true rfl⟩ (kI (fun r12 S11 h => ?_))
          refine gd_wide (k2 := 0) (j2 := 0) (Nat.le_of_ble_eq_true rfl) (Nat.le_of_ble_eq_true rfl) ?_
          refine gd_if_eq (pc := 53) X 70 dX5_longestChain_53 (by decide) (fun hc20 => ?_) (fun hc20 => ?_)
          · have h := h.1 hc20
            exact g70 _ hKH4 _ ih _ _ _ _ _ h
          · have h := h.2 hc20
            refine gd_aload_n (pc := 56) X 0 dX5_longestChain_56 rfl ?_
            obtain ⟨hk13, h⟩ := h
            refine gd_getR (pc := 57) (kf := 5) X ci5 (by decide) rfl tw_93 dX5_longestChain_57 hk13 ?_
            refine gd_iload_n (pc := 60) X 2 dX5_longestChain_60 rfl ?_
            refine gd_aload_n (pc := 61) X 0 dX5_longestChain_61 rfl ?_
            refine gd_getR (pc := 62) (kf := 5) X ci5 (by decide) rfl tw_93 dX5_longestChain_62 hk13 ?_
            refine gd_iload_n (pc := 65) X 3 dX5_longestChain_65 rfl ?_
            obtain ⟨hk14, h⟩ := h
            obtain ⟨hi15, h⟩ := h
            refine gd_iald (pc := 66) X dX5_longestChain_66 hk14 hi15 ?_
            refine gd_iconst (pc := 67) X (1) dX5_longestChain_67 (by decide) ?_
            refine gd_iadd (pc := 68) X dX5_longestChain_68 ?_
            obtain ⟨hi16, h⟩ := h
            refine gd_iast (pc := 69) X dX5_longestChain_69 hk14 hi16 ?_
            refine gd_topS (fun S17 hS17 => ?_)
            have h := h S17 hS17
            have hk18 : kT S17 l0 = 6 := by rw [hS17]; exact hk13
            have hk19 : kT S17 (sR S11 l0 5) = 9 := by rw [hS17]; exact hk14
            exact g70 _ hKH4 _ ih _ _ _ _ _ h
  have g4 : ∀ (f : Nat) (S : MS) (l0 : Nat) (l1 : Int32) (l2 : Int32), b_X5_longestChain_4 post f S l0 l1 l2 → Gd p l e rm_X5_longestChain s m args below meth c 4 G (MQ below (QcM G (pI_ post)) args s rm_X5_longestChain.cells rm_X5_longestChain.slots (Ab G)) 0 0 S 4 [(0, rf l0), (1, .int l1), (2, .int l2)] [] := by
    intro f
    induction f with
    | zero => intro S l0 l1 l2 h; exact h.elim
    | succ f ih =>
      intro S l0 l1 l2 h
      refine gd_iload_n (pc := 4) X 2 dX5_longestChain_4 rfl ?_
      refine gd_aload_n (pc := 5) X 0 dX5_longestChain_5 rfl ?_
      obtain ⟨hk1, h⟩ := h
      refine gd_getR (pc := 6) (kf := 0) X ci5 (by decide) rfl tw_88 dX5_longestChain_6 hk1 ?_
      obtain ⟨hk2, h⟩ := h
      refine gd_getI (pc := 9) (kf := 2) X ci1 (by decide) rfl tw_45 dX5_longestChain_9 hk2 ?_
      refine gd_icmp_gt (pc := 12) X 93 dX5_longestChain_12 (by decide) (fun hc9 => ?_) (fun hc9 => ?_)
      · have h := h.1 hc9
        refine gd_iload_n (pc := 93) X 1 dX5_longestChain_93 rfl ?_
        exact (gd_ret_i (pc := 94) X hr hlk rfl (by decide) (by decide) dX5_longestChain_94 ⟨_, rfl, h⟩)
      · have h := h.2 hc9
        refine gd_aload_n (pc := 15) X 0 dX5_longestChain_15 rfl ?_
        refine gd_getR (pc := 16) (kf := 5) X ci5 (by decide) rfl tw_93 dX5_longestChain_16 hk1 ?_
        refine gd_iload_n (pc := 19) X 2 dX5_longestChain_19 rfl ?_
        refine gd_iconst (pc := 20) X (1) dX5_longestChain_20 (by decide) ?_
        obtain ⟨hk3, h⟩ := h
        obtain ⟨hi4, h⟩ := h
        refine gd_iast (pc := 21) X dX5_longestChain_21 hk3 hi4 ?_
        refine gd_topS (fun S5 hS5 => ?_)
        have h := h S5 hS5
        have hk6 : kT S5 l0 = 6 := by rw [hS5]; exact hk1
        have hk7 : kT S5 (sR S l0 0) = 2 := by rw [hS5]; exact hk2
        have hk8 : kT S5 (sR S l0 5) = 9 := by rw [hS5]; exact hk3
        refine gd_iconst (pc := 22) X (1) dX5_longestChain_22 (by decide) ?_
        refine gd_istore_n (pc := 23) X dX5_longestChain_23 (by decide) (E2 := [(3, .int 1), (0, rf l0), (1, .int l1), (2, .int l2)]) rfl ?_
        refine gd_sub [1, 2, 3, 0] rfl ?_
        obtain ⟨f24, h⟩ := h
        exact g24 _ ih f24 _ _ _ _ _ h
  intro h
  refine gd_iconst (pc := 0) X (0) dX5_longestChain_0 (by decide) ?_
  refine gd_istore_n (pc := 1) X dX5_longestChain_1 (by decide) (E2 := [(1, .int 0), (0, rf a0)]) (by simp [rf_cat, lv1, int_cat] <;> decide) ?_
  refine gd_iconst (pc := 2) X (1) dX5_longestChain_2 (by decide) ?_
  refine gd_istore_n (pc := 3) X dX5_longestChain_3 (by decide) (E2 := [(2, .int 1), (1, .int 0), (0, rf a0)]) rfl ?_
  refine gd_sub [2, 1, 0] rfl ?_
  obtain ⟨f4, h⟩ := h
  exact g4 f4 _ _ _ _ h
