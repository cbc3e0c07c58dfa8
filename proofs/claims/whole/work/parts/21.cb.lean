abbrev rm_X1_stalenessOf : Room := { frames := 3, cells := 0, slots := 0, locals := 67 }
def b_X1_stalenessOf_40 (post : Int32 → MS → Prop) : Nat → MS → Nat → Nat → Int32 → Prop
  | 0 => fun _ _ _ _ => False
  | f + 1 => fun S l0 l1 l2 => kT S l1 = 5 ∧ (((sI S l1 5) ≤ l2 → post 0 S) ∧ (¬ (sI S l1 5) ≤ l2 → kT S (sR S l1 2) = 12 ∧ vp_in l2 (kL S (sR S l1 2)) ∧ kT S l0 = 2 ∧ w_X1_isTouchedSince S l0 (sR S (sR S l1 2) (ix l2)) (fun r6 S5 => ((r6 = 0 → ∀ v7 : Int32, v7 = l2 + 1 → b_X1_stalenessOf_40 post f S5 l0 l1 v7) ∧ (¬ r6 = 0 → post 2 S5)))))
def b_X1_stalenessOf_32 (KH2 : MS → Nat → Nat → Int32 → Prop) (post : Int32 → MS → Prop) (S : MS) (l0 : Nat) (l1 : Nat) (l2 : Int32) : Prop := ∀ v1 : Int32, v1 = l2 + 1 → KH2 S l0 l1 v1
def b_X1_stalenessOf_2 (post : Int32 → MS → Prop) : Nat → MS → Nat → Nat → Int32 → Prop
  | 0 => fun _ _ _ _ => False
  | f + 1 => fun S l0 l1 l2 => ((32 ≤ l2 → ∃ f40, b_X1_stalenessOf_40 post f40 S l0 l1 0) ∧ (¬ 32 ≤ l2 → kT S l1 = 5 ∧ w_X4_hasRecorded S l1 l2 (fun r3 S2 => ((r3 = 0 → b_X1_stalenessOf_32 (b_X1_stalenessOf_2 post f) post S2 l0 l1 l2) ∧ (¬ r3 = 0 → kT S2 l0 = 2 ∧ w_X1_latestWriter S2 l0 l2 (fun r6 S5 => kT S5 l1 = 5 ∧ kT S5 (sR S5 l1 3) = 9 ∧ vp_in l2 (kL S5 (sR S5 l1 3)) ∧ ((r6 ≤ (sI S5 (sR S5 l1 3) (ix l2)) → b_X1_stalenessOf_32 (b_X1_stalenessOf_2 post f) post S5 l0 l1 l2) ∧ (¬ r6 ≤ (sI S5 (sR S5 l1 3) (ix l2)) → post 1 S5))))))))
def w_X1_stalenessOf (S : MS) (a0 : Nat) (a1 : Nat) (post : Int32 → MS → Prop) : Prop := ∃ f2, b_X1_stalenessOf_2 post f2 S a0 a1 0
set_option maxHeartbeats 4000000 in
set_option maxRecDepth 100000 in
theorem ct_X1_stalenessOf (l : Launch) (G : GP) (S : MS) (a0 : Nat) (a1 : Nat) (post : Int32 → MS → Prop) (h : w_X1_stalenessOf S a0 a1 post) : MetM l yX1_stalenessOf cX1_stalenessOf 3 (some .int) rm_X1_stalenessOf [rf a0, rf a1] G S (pI_ post) := by
  refine met_of (by decide) (cat1_r (cat1_r cat1_n)) (Nat.le_of_ble_eq_true rfl) ?_
  intro p e s m args below meth c X hr hlk hin
  revert h
  have g40 : ∀ (f : Nat) (S : MS) (l0 : Nat) (l1 : Nat) (l2 : Int32), b_X1_stalenessOf_40 post f S l0 l1 l2 → Gd p l e rm_X1_stalenessOf s m args below meth c 3 G (MQ below (QcM G (pI_ post)) args s rm_X1_stalenessOf.cells rm_X1_stalenessOf.slots (Ab G)) 0 0 S 40 [(0, rf l0), (1, rf l1), (2, .int l2)] [] := by
    intro f
    induction f with
    | zero => intro S l0 l1 l2 h; exact h.elim
    | succ f ih =>
      intro S l0 l1 l2 h
      refine gd_iload_n (pc := 40) X 2 dX1_stalenessOf_40 rfl ?_
      refine gd_aload_n (pc := 41) X 1 dX1_stalenessOf_41 rfl ?_
      obtain ⟨hk1, h⟩ := h
      refine gd_getI (pc := 42) (kf := 5) X ci4 (by decide) rfl tw_354 dX1_stalenessOf_42 hk1 ?_
      refine gd_icmp_ge (pc := 45) X 69 dX1_stalenessOf_45 (by decide) (fun hc9 => ?_) (fun hc9 => ?_)
      · have h := h.1 hc9
        refine gd_iconst (pc := 69) X (0) dX1_stalenessOf_69 (by decide) ?_
        exact (gd_ret_i (pc := 70) X hr hlk rfl (by decide) (by decide) dX1_stalenessOf_70 ⟨_, rfl, h⟩)
      · have h := h.2 hc9
        refine gd_aload_n (pc := 48) X 0 dX1_stalenessOf_48 rfl ?_
        refine gd_aload_n (pc := 49) X 1 dX1_stalenessOf_49 rfl ?_
        refine gd_getR (pc := 50) (kf := 2) X ci4 (by decide) rfl tw_348 dX1_stalenessOf_50 hk1 ?_
        refine gd_iload_n (pc := 53) X 2 dX1_stalenessOf_53 rfl ?_
        obtain ⟨hk2, h⟩ := h
        obtain ⟨hi3, h⟩ := h
        refine gd_aald (pc := 54) (t := 4) X rfl rfl (by decide) (by decide) dX1_stalenessOf_54 hk2 hi3 ?_
        obtain ⟨hk4, h⟩ := h
        refine gd_callV (pc := 55) (As := [rf (sR S (sR S l1 2) (ix l2))]) (rest := []) X (ct_X1_isTouchedSince l G S l0 (sR S (sR S l1 2) (ix l2)) _ h) mw_X1_isTouchedSince tw_623 ci1 rfl hk4 ⟨(Nat.le_of_ble_eq_true rfl), (Nat.le_of_ble_eq_true rfl)⟩ rfl rfl (Nat.le_of_ble_eq_true rfl) dX1_stalenessOf_55 ⟨Nat.le_of_ble_eq_true rfl, Nat.le_of_ble_eq_true rfl⟩ (kI (fun r6 S5 h => ?_))
        refine gd_wide (k2 := 0) (j2 := 0) (Nat.le_of_ble_eq_true rfl) (Nat.le_of_ble_eq_true rfl) ?_
        refine gd_if_eq (pc := 58) X 63 dX1_stalenessOf_58 (by decide) (fun hc8 => ?_) (fun hc8 => ?_)
        · have h := h.1 hc8
          obtain ⟨v7, hv7⟩ : ∃ z : Int32, z = l2 + 1 := ⟨_, rfl⟩
          have h := h v7 hv7
          refine gd_iinc (pc := 63) (v := v7) X 2 dX1_stalenessOf_63 rfl (by rw [hv7]; rfl) (by decide) (E2 := [(2, .int v7), (0, rf l0), (1, rf l1)]) (by simp [rf_cat, lv1, int_cat] <;> decide) ?_
          refine gd_goto (pc := 66) X 40 dX1_stalenessOf_66 (by decide) ?_
          refine gd_sub [1, 2, 0] rfl ?_
          exact ih _ _ _ _ h
        · have h := h.2 hc8
          refine gd_iconst (pc := 61) X (2) dX1_stalenessOf_61 (by decide) ?_
          exact (gd_ret_i (pc := 62) X hr hlk rfl (by decide) (by decide) dX1_stalenessOf_62 ⟨_, rfl, h⟩)
  have g32 : ∀ (KH2 : MS → Nat → Nat → Int32 → Prop) (hKH2 : ∀ (S : MS) (l0 : Nat) (l1 : Nat) (l2 : Int32), KH2 S l0 l1 l2 → Gd p l e rm_X1_stalenessOf s m args below meth c 3 G (MQ below (QcM G (pI_ post)) args s rm_X1_stalenessOf.cells rm_X1_stalenessOf.slots (Ab G)) 0 0 S 2 [(0, rf l0), (1, rf l1), (2, .int l2)] []) (S : MS) (l0 : Nat) (l1 : Nat) (l2 : Int32), b_X1_stalenessOf_32 KH2 post S l0 l1 l2 → Gd p l e rm_X1_stalenessOf s m args below meth c 3 G (MQ below (QcM G (pI_ post)) args s rm_X1_stalenessOf.cells rm_X1_stalenessOf.slots (Ab G)) 0 0 S 32 [(0, rf l0), (1, rf l1), (2, .int l2)] [] := by
    intro KH2 hKH2 S l0 l1 l2 h
    obtain ⟨v1, hv1⟩ : ∃ z : Int32, z = l2 + 1 := ⟨_, rfl⟩
    have h := h v1 hv1
    refine gd_iinc (pc := 32) (v := v1) X 2 dX1_stalenessOf_32 rfl (by rw [hv1]; rfl) (by decide) (E2 := [(2, .int v1), (0, rf l0), (1, rf l1)]) (by simp [rf_cat, lv1, int_cat] <;> decide) ?_
    refine gd_goto (pc := 35) X 2 dX1_stalenessOf_35 (by decide) ?_
    refine gd_sub [1, 2, 0] rfl ?_
    exact hKH2 _ _ _ _ h
  have g2 : ∀ (f : Nat) (S : MS) (l0 : Nat) (l1 : Nat) (l2 : Int32), b_X1_stalenessOf_2 post f S l0 l1 l2 → Gd p l e rm_X1_stalenessOf s m args below meth c 3 G (MQ below (QcM G (pI_ post)) args s rm_X1_stalenessOf.cells rm_X1_stalenessOf.slots (Ab G)) 0 0 S 2 [(0, rf l0), (1, rf l1), (2, .int l2)] [] := by
    intro f
    induction f with
    | zero => intro S l0 l1 l2 h; exact h.elim
    | succ f ih =>
      intro S l0 l1 l2 h
      refine gd_iload_n (pc := 2) X 2 dX1_stalenessOf_2 rfl ?_
      refine gd_bipush (pc := 3) X (32) dX1_stalenessOf_3 (by decide) ?_
      refine gd_icmp_ge (pc := 5) X 38 dX1_stalenessOf_5 (by decide) (fun hc12 => ?_) (fun hc12 => ?_)
      · have h := h.1 hc12
        refine gd_iconst (pc := 38) X (0) dX1_stalenessOf_38 (by decide) ?_
        refine gd_istore_n (pc := 39) X dX1_stalenessOf_39 (by decide) (E2 := [(2, .int 0), (0, rf l0), (1, rf l1)]) (by simp [rf_cat, lv1, int_cat] <;> decide) ?_
        refine gd_sub [1, 2, 0] rfl ?_
        obtain ⟨f40, h⟩ := h
        exact g40 f40 _ _ _ _ h
      · have h := h.2 hc12
        refine gd_aload_n (pc := 8) X 1 dX1_stalenessOf_8 rfl ?_
        refine gd_iload_n (pc := 9) X 2 dX1_stalenessOf_9 rfl ?_
        obtain ⟨hk1, h⟩ := h
        refine gd_callV (pc := 10) (As := [.int l2]) (rest := []) X (ct_X4_hasRecorded l G S l1 l2 _ h) mw_X4_hasRecorded tw_618 ci4 rfl hk1 ⟨(Nat.le_of_ble_eq_true rfl), (Nat.le_of_ble_eq_true rfl)⟩ rfl rfl (Nat.le_of_ble_eq_true rfl) dX1_stalenessOf_10 ⟨Nat.le_of_ble_eq_true rfl, Nat.le_of_ble_eq_true rfl⟩ (kI (fun r3 S2 h => ?_))
        refine gd_wide (k2 := 0) (j2 := 0) (Nat.le_of_ble_eq_true rfl) (Nat.le_of_ble_eq_true rfl) ?_
        refine gd_if_eq (pc := 13) X 32 dX1_stalenessOf_13 (by decide) (fun hc11 => ?_) (fun hc11 => ?_)
        · have h := h.1 hc11
          exact g32 _ ih _ _ _ _ h
        · have h := h.2 hc11
          refine gd_aload_n (pc := 16) X 0 dX1_stalenessOf_16 rfl ?_
          refine gd_iload_n (pc := 17) X 2 dX1_stalenessOf_17 rfl ?_
          obtain ⟨hk4, h⟩ := h
          refine gd_callV (pc := 18) (As := [.int l2]) (rest := []) X (ct_X1_latestWriter l G S2 l0 l2 _ h) mw_X1_latestWriter tw_619 ci1 rfl hk4 ⟨(Nat.le_of_ble_eq_true rfl), (Nat.le_of_ble_eq_true rfl)⟩ rfl rfl (Nat.le_of_ble_eq_true rfl) dX1_stalenessOf_18 ⟨Nat.le_of_ble_eq_true rfl, Nat.le_of_ble_eq_true rfl⟩ (kI (fun r6 S5 h => ?_))
          refine gd_wide (k2 := 0) (j2 := 0) (Nat.le_of_ble_eq_true rfl) (Nat.le_of_ble_eq_true rfl) ?_
          refine gd_aload_n (pc := 21) X 1 dX1_stalenessOf_21 rfl ?_
          obtain ⟨hk7, h⟩ := h
          refine gd_getR (pc := 22) (kf := 3) X ci4 (by decide) rfl tw_350 dX1_stalenessOf_22 hk7 ?_
          refine gd_iload_n (pc := 25) X 2 dX1_stalenessOf_25 rfl ?_
          obtain ⟨hk8, h⟩ := h
          obtain ⟨hi9, h⟩ := h
          refine gd_iald (pc := 26) X dX1_stalenessOf_26 hk8 hi9 ?_
          refine gd_icmp_le (pc := 27) X 32 dX1_stalenessOf_27 (by decide) (fun hc10 => ?_) (fun hc10 => ?_)
          · have h := h.1 hc10
            exact g32 _ ih _ _ _ _ h
          · have h := h.2 hc10
            refine gd_iconst (pc := 30) X (1) dX1_stalenessOf_30 (by decide) ?_
            exact (gd_ret_i (pc := 31) X hr hlk rfl (by decide) (by decide) dX1_stalenessOf_31 ⟨_, rfl, h⟩)
  intro h
  refine gd_iconst (pc := 0) X (0) dX1_stalenessOf_0 (by decide) ?_
  refine gd_istore_n (pc := 1) X dX1_stalenessOf_1 (by decide) (E2 := [(2, .int 0), (0, rf a0), (1, rf a1)]) (by simp [rf_cat, lv1, int_cat] <;> decide) ?_
  refine gd_sub [1, 2, 0] rfl ?_
  obtain ⟨f2, h⟩ := h
  exact g2 f2 _ _ _ _ h
abbrev rm_X1_readsFrom : Room := { frames := 1, cells := 0, slots := 0, locals := 22 }
def b_X1_readsFrom_49 (post : Int32 → MS → Prop) (S : MS) (l0 : Nat) (l1 : Int32) (l2 : Int32) (l3 : Int32) (l4 : Int32) (l5 : Int32) (s0 : Int32) : Prop := narrow .boolean (.int s0) = .int s0 ∧ post s0 S
def b_X1_readsFrom_14 (post : Int32 → MS → Prop) : Nat → MS → Nat → Int32 → Int32 → Int32 → Int32 → Int32 → Prop
  | 0 => fun _ _ _ _ _ _ _ => False
  | f + 1 => fun S l0 l1 l2 l3 l4 l5 => ((l2 ≤ l5 → ((l4 = 0 → b_X1_readsFrom_49 post S l0 l1 l2 l3 l4 l5 0) ∧ (¬ l4 = 0 → b_X1_readsFrom_49 post S l0 l1 l2 l3 l4 l5 1))) ∧ (¬ l2 ≤ l5 → kT S l0 = 2 ∧ w_X1_writtenBy S l0 l5 (fun r4 S3 => ∀ v5 : Int32, v5 = l4 &&& (r4 ^^^ ((-1))) → ∀ v6 : Int32, v6 = l5 + 1 → b_X1_readsFrom_14 post f S3 l0 l1 l2 l3 v5 v6)))
def w_X1_readsFrom (S : MS) (a0 : Nat) (a1 : Int32) (a2 : Int32) (a3 : Int32) (post : Int32 → MS → Prop) : Prop := kT S a0 = 2 ∧ w_X1_writtenBy S a0 a1 (fun r3 S2 => ∀ v4 : Int32, v4 = a3 &&& r3 → ∀ v5 : Int32, v5 = a1 + 1 → ∃ f14, b_X1_readsFrom_14 post f14 S2 a0 a1 a2 a3 v4 v5)
set_option maxHeartbeats 4000000 in
set_option maxRecDepth 100000 in
theorem ct_X1_readsFrom (l : Launch) (G : GP) (S : MS) (a0 : Nat) (a1 : Int32) (a2 : Int32) (a3 : Int32) (post : Int32 → MS → Prop) (h : w_X1_readsFrom S a0 a1 a2 a3 post) : MetM l yX1_readsFrom cX1_readsFrom 6 (some .boolean) rm_X1_readsFrom [rf a0, .int a1, .int a2, .int a3] G S (pI_ post) := by
  refine met_of (by decide) (cat1_r (cat1_i (cat1_i (cat1_i cat1_n)))) (Nat.le_of_ble_eq_true rfl) ?_
  intro p e s m args below meth c X hr hlk hin
  revert h
  have g49 : ∀ (S : MS) (l0 : Nat) (l1 : Int32) (l2 : Int32) (l3 : Int32) (l4 : Int32) (l5 : Int32) (s0 : Int32), b_X1_readsFrom_49 post S l0 l1 l2 l3 l4 l5 s0 → Gd p l e rm_X1_readsFrom s m args below meth c 6 G (MQ below (QcM G (pI_ post)) args s rm_X1_readsFrom.cells rm_X1_readsFrom.slots (Ab G)) 0 0 S 49 [(0, rf l0), (1, .int l1), (2, .int l2), (3, .int l3), (4, .int l4), (5, .int l5)] [.int s0] := by
    intro S l0 l1 l2 l3 l4 l5 s0 h
    obtain ⟨hnz, h⟩ := h
    exact (gd_ret_i (pc := 49) X hr hlk hnz (by decide) (by decide) dX1_readsFrom_49 ⟨_, rfl, h⟩)
  have g14 : ∀ (f : Nat) (S : MS) (l0 : Nat) (l1 : Int32) (l2 : Int32) (l3 : Int32) (l4 : Int32) (l5 : Int32), b_X1_readsFrom_14 post f S l0 l1 l2 l3 l4 l5 → Gd p l e rm_X1_readsFrom s m args below meth c 6 G (MQ below (QcM G (pI_ post)) args s rm_X1_readsFrom.cells rm_X1_readsFrom.slots (Ab G)) 0 0 S 14 [(0, rf l0), (1, .int l1), (2, .int l2), (3, .int l3), (4, .int l4), (5, .int l5)] [] := by
    intro f
    induction f with
    | zero => intro S l0 l1 l2 l3 l4 l5 h; exact h.elim
    | succ f ih =>
      intro S l0 l1 l2 l3 l4 l5 h
      refine gd_iload (pc := 14) X 5 dX1_readsFrom_14 rfl ?_
      refine gd_iload_n (pc := 16) X 2 dX1_readsFrom_16 rfl ?_
      refine gd_icmp_ge (pc := 17) X 39 dX1_readsFrom_17 (by decide) (fun hc7 => ?_) (fun hc7 => ?_)
      · have h := h.1 hc7
        refine gd_iload (pc := 39) X 4 dX1_readsFrom_39 rfl ?_
        refine gd_if_eq (pc := 41) X 48 dX1_readsFrom_41 (by decide) (fun hc1 => ?_) (fun hc1 => ?_)
        · have h := h.1 hc1
          refine gd_iconst (pc := 48) X (0) dX1_readsFrom_48 (by decide) ?_
          exact g49 _ _ _ _ _ _ _ _ h
        · have h := h.2 hc1
          refine gd_iconst (pc := 44) X (1) dX1_readsFrom_44 (by decide) ?_
          refine gd_goto (pc := 45) X 49 dX1_readsFrom_45 (by decide) ?_
          exact g49 _ _ _ _ _ _ _ _ h
      · have h := h.2 hc7
        refine gd_iload (pc := 20) X 4 dX1_readsFrom_20 rfl ?_
        refine gd_aload_n (pc := 22) X 0 dX1_readsFrom_22 rfl ?_
        refine gd_iload (pc := 23) X 5 dX1_readsFrom_23 rfl ?_
        obtain ⟨hk2, h⟩ := h
        refine gd_callV (pc := 25) (As := [.int l5]) (rest := [.int l4]) X (ct_X1_writtenBy l G S l0 l5 _ h) mw_X1_writtenBy tw_153 ci1 rfl hk2 ⟨(Nat.le_of_ble_eq_true rfl), (Nat.le_of_ble_eq_true rfl)⟩ rfl rfl (Nat.le_of_ble_eq_true rfl) dX1_readsFrom_25 ⟨Nat.le_of_ble_eq_true rfl, Nat.le_of_ble_eq_true rfl⟩ (kI (fun r4 S3 h => ?_))
        refine gd_wide (k2 := 0) (j2 := 0) (Nat.le_of_ble_eq_true rfl) (Nat.le_of_ble_eq_true rfl) ?_
        refine gd_iconst (pc := 28) X (-1) dX1_readsFrom_28 (by decide) ?_
        refine gd_ixor (pc := 29) X dX1_readsFrom_29 ?_
        refine gd_iand (pc := 30) X dX1_readsFrom_30 ?_
        refine gd_topI (fun v5 hv5 => ?_)
        have h := h v5 hv5
        refine gd_istore (pc := 31) X dX1_readsFrom_31 (by decide) (E2 := [(4, .int v5), (0, rf l0), (1, .int l1), (2, .int l2), (3, .int l3), (5, .int l5)]) rfl ?_
        obtain ⟨v6, hv6⟩ : ∃ z : Int32, z = l5 + 1 := ⟨_, rfl⟩
        have h := h v6 hv6
        refine gd_iinc (pc := 33) (v := v6) X 5 dX1_readsFrom_33 rfl (by rw [hv6]; rfl) (by decide) (E2 := [(5, .int v6), (4, .int v5), (0, rf l0), (1, .int l1), (2, .int l2), (3, .int l3)]) rfl ?_
        refine gd_goto (pc := 36) X 14 dX1_readsFrom_36 (by decide) ?_
        refine gd_sub [2, 3, 4, 5, 1, 0] rfl ?_
        exact ih _ _ _ _ _ _ _ h
  intro h
  refine gd_iload_n (pc := 0) X 3 dX1_readsFrom_0 rfl ?_
  refine gd_aload_n (pc := 1) X 0 dX1_readsFrom_1 rfl ?_
  refine gd_iload_n (pc := 2) X 1 dX1_readsFrom_2 rfl ?_
  obtain ⟨hk1, h⟩ := h
  refine gd_callV (pc := 3) (As := [.int a1]) (rest := [.int a3]) X (ct_X1_writtenBy l G S a0 a1 _ h) mw_X1_writtenBy tw_153 ci1 rfl hk1 ⟨(Nat.le_of_ble_eq_true rfl), (Nat.le_of_ble_eq_true rfl)⟩ rfl rfl (Nat.le_of_ble_eq_true rfl) dX1_readsFrom_3 ⟨Nat.le_of_ble_eq_true rfl, Nat.le_of_ble_eq_true rfl⟩ (kI (fun r3 S2 h => ?_))
  refine gd_wide (k2 := 0) (j2 := 0) (Nat.le_of_ble_eq_true rfl) (Nat.le_of_ble_eq_true rfl) ?_
  refine gd_iand (pc := 6) X dX1_readsFrom_6 ?_
  refine gd_topI (fun v4 hv4 => ?_)
  have h := h v4 hv4
  refine gd_istore (pc := 7) X dX1_readsFrom_7 (by decide) (E2 := [(4, .int v4), (0, rf a0), (1, .int a1), (2, .int a2), (3, .int a3)]) rfl ?_
  refine gd_iload_n (pc := 9) X 2 dX1_readsFrom_9 rfl ?_
  refine gd_iconst (pc := 10) X (1) dX1_readsFrom_10 (by decide) ?_
  refine gd_iadd (pc := 11) X dX1_readsFrom_11 ?_
  refine gd_topI (fun v5 hv5 => ?_)
  have h := h v5 hv5
  refine gd_istore (pc := 12) X dX1_readsFrom_12 (by decide) (E2 := [(5, .int v5), (4, .int v4), (0, rf a0), (1, .int a1), (2, .int a2), (3, .int a3)]) rfl ?_
  refine gd_sub [2, 3, 4, 5, 1, 0] rfl ?_
  obtain ⟨f14, h⟩ := h
  exact g14 f14 _ _ _ _ _ _ _ h
abbrev rm_X4_isHitBy : Room := { frames := 2, cells := 0, slots := 0, locals := 44 }
def b_X4_isHitBy_49 (KH16 : MS → Nat → Nat → Nat → Int32 → Prop) (post : Int32 → MS → Prop) (S : MS) (l0 : Nat) (l1 : Nat) (l2 : Nat) (l3 : Int32) (l4 : Nat) : Prop := ∀ v1 : Int32, v1 = l3 + 1 → KH16 S l0 l1 l2 v1
def b_X4_isHitBy_16 (post : Int32 → MS → Prop) : Nat → MS → Nat → Nat → Nat → Int32 → Prop
  | 0 => fun _ _ _ _ _ => False
  | f + 1 => fun S l0 l1 l2 l3 => kT S l0 = 5 ∧ (((sI S l0 5) ≤ l3 → post 0 S) ∧ (¬ (sI S l0 5) ≤ l3 → kT S (sR S l0 2) = 12 ∧ vp_in l3 (kL S (sR S l0 2)) ∧ ∀ r4 : Nat, r4 = sR S (sR S l0 2) (ix l3) → ((r4 = 0 → b_X4_isHitBy_49 (b_X4_isHitBy_16 post f) post S l0 l1 l2 l3 r4) ∧ (¬ r4 = 0 → kT S r4 = 3 ∧ w_X2_isTouchedBy S r4 l1 l2 (fun r7 S6 => ((r7 = 0 → b_X4_isHitBy_49 (b_X4_isHitBy_16 post f) post S6 l0 l1 l2 l3 r4) ∧ (¬ r7 = 0 → post 1 S6)))))))
def w_X4_isHitBy (S : MS) (a0 : Nat) (a1 : Nat) (a2 : Nat) (post : Int32 → MS → Prop) : Prop := kT S a0 = 5 ∧ kT S a1 = 5 ∧ ((((sI S a0 6) &&& (sI S a1 7)) = 0 → ∃ f16, b_X4_isHitBy_16 post f16 S a0 a1 a2 0) ∧ (¬ ((sI S a0 6) &&& (sI S a1 7)) = 0 → post 1 S))
set_option maxHeartbeats 4000000 in
set_option maxRecDepth 100000 in
theorem ct_X4_isHitBy (l : Launch) (G : GP) (S : MS) (a0 : Nat) (a1 : Nat) (a2 : Nat) (post : Int32 → MS → Prop) (h : w_X4_isHitBy S a0 a1 a2 post) : MetM l yX4_isHitBy cX4_isHitBy 5 (some .boolean) rm_X4_isHitBy [rf a0, rf a1, rf a2] G S (pI_ post) := by
  refine met_of (by decide) (cat1_r (cat1_r (cat1_r cat1_n))) (Nat.le_of_ble_eq_true rfl) ?_
  intro p e s m args below meth c X hr hlk hin
  revert h
  have g49 : ∀ (KH16 : MS → Nat → Nat → Nat → Int32 → Prop) (hKH16 : ∀ (S : MS) (l0 : Nat) (l1 : Nat) (l2 : Nat) (l3 : Int32), KH16 S l0 l1 l2 l3 → Gd p l e rm_X4_isHitBy s m args below meth c 5 G (MQ below (QcM G (pI_ post)) args s rm_X4_isHitBy.cells rm_X4_isHitBy.slots (Ab G)) 0 0 S 16 [(0, rf l0), (1, rf l1), (2, rf l2), (3, .int l3)] []) (S : MS) (l0 : Nat) (l1 : Nat) (l2 : Nat) (l3 : Int32) (l4 : Nat), b_X4_isHitBy_49 KH16 post S l0 l1 l2 l3 l4 → Gd p l e rm_X4_isHitBy s m args below meth c 5 G (MQ below (QcM G (pI_ post)) args s rm_X4_isHitBy.cells rm_X4_isHitBy.slots (Ab G)) 0 0 S 49 [(0, rf l0), (1, rf l1), (2, rf l2), (3, .int l3), (4, rf l4)] [] := by
    intro KH16 hKH16 S l0 l1 l2 l3 l4 h
    obtain ⟨v1, hv1⟩ : ∃ z : Int32, z = l3 + 1 := ⟨_, rfl⟩
    have h := h v1 hv1
    refine gd_iinc (pc := 49) (v := v1) X 3 dX4_isHitBy_49 rfl (by rw [hv1]; rfl) (by decide) (E2 := [(3, .int v1), (0, rf l0), (1, rf l1), (2, rf l2), (4, rf l4)]) (by simp [rf_cat, lv1, int_cat] <;> decide) ?_
    refine gd_goto (pc := 52) X 16 dX4_isHitBy_52 (by decide) ?_
    refine gd_sub [1, 2, 3, 0] rfl ?_
    exact hKH16 _ _ _ _ _ h
  have g16 : ∀ (f : Nat) (S : MS) (l0 : Nat) (l1 : Nat) (l2 : Nat) (l3 : Int32), b_X4_isHitBy_16 post f S l0 l1 l2 l3 → Gd p l e rm_X4_isHitBy s m args below meth c 5 G (MQ below (QcM G (pI_ post)) args s rm_X4_isHitBy.cells rm_X4_isHitBy.slots (Ab G)) 0 0 S 16 [(0, rf l0), (1, rf l1), (2, rf l2), (3, .int l3)] [] := by
    intro f
    induction f with
    | zero => intro S l0 l1 l2 l3 h; exact h.elim
    | succ f ih =>
      intro S l0 l1 l2 l3 h
      refine gd_iload_n (pc := 16) X 3 dX4_isHitBy_16 rfl ?_
      refine gd_aload_n (pc := 17) X 0 dX4_isHitBy_17 rfl ?_
      obtain ⟨hk1, h⟩ := h
      refine gd_getI (pc := 18) (kf := 5) X ci4 (by decide) rfl tw_353 dX4_isHitBy_18 hk1 ?_
      refine gd_icmp_ge (pc := 21) X 55 dX4_isHitBy_21 (by decide) (fun hc10 => ?_) (fun hc10 => ?_)
      · have h := h.1 hc10
        refine gd_iconst (pc := 55) X (0) dX4_isHitBy_55 (by decide) ?_
        exact (gd_ret_i (pc := 56) X hr hlk rfl (by decide) (by decide) dX4_isHitBy_56 ⟨_, rfl, h⟩)
      · have h := h.2 hc10
        refine gd_aload_n (pc := 24) X 0 dX4_isHitBy_24 rfl ?_
        refine gd_getR (pc := 25) (kf := 2) X ci4 (by decide) rfl tw_347 dX4_isHitBy_25 hk1 ?_
        refine gd_iload_n (pc := 28) X 3 dX4_isHitBy_28 rfl ?_
        obtain ⟨hk2, h⟩ := h
        obtain ⟨hi3, h⟩ := h
        refine gd_aald (pc := 29) (t := 4) X rfl rfl (by decide) (by decide) dX4_isHitBy_29 hk2 hi3 ?_
        refine gd_topR (fun r4 hr4 => ?_)
        have h := h r4 hr4
        refine gd_astore (pc := 30) X dX4_isHitBy_30 (by decide) (E2 := [(4, rf r4), (0, rf l0), (1, rf l1), (2, rf l2), (3, .int l3)]) rfl ?_
        refine gd_aload (pc := 32) X 0 dX4_isHitBy_32 rfl ?_
        refine gd_ifnull (pc := 34) X 49 dX4_isHitBy_34 (by decide) (fun hc9 => ?_) (fun hc9 => ?_)
        · have h := h.1 hc9
          refine gd_sub [1, 2, 3, 4, 0] rfl ?_
          exact g49 _ ih _ _ _ _ _ _ h
        · have h := h.2 hc9
          refine gd_aload (pc := 37) X 0 dX4_isHitBy_37 rfl ?_
          refine gd_aload_n (pc := 39) X 2 dX4_isHitBy_39 rfl ?_
          refine gd_aload_n (pc := 40) X 3 dX4_isHitBy_40 rfl ?_
          obtain ⟨hk5, h⟩ := h
          refine gd_callV (pc := 41) (As := [rf l1, rf l2]) (rest := []) X (ct_X2_isTouchedBy l G S r4 l1 l2 _ h) mw_X2_isTouchedBy tw_161 ci2 rfl hk5 ⟨(Nat.le_of_ble_eq_true rfl), (Nat.le_of_ble_eq_true rfl)⟩ rfl rfl (Nat.le_of_ble_eq_true rfl) dX4_isHitBy_41 ⟨Nat.le_of_ble_eq_true rfl, Nat.le_of_ble_eq_true rfl⟩ (kI (fun r7 S6 h => ?_))
          refine gd_wide (k2 := 0) (j2 := 0) (Nat.le_of_ble_eq_true rfl) (Nat.le_of_ble_eq_true rfl) ?_
          refine gd_if_eq (pc := 44) X 49 dX4_isHitBy_44 (by decide) (fun hc8 => ?_) (fun hc8 => ?_)
          · have h := h.1 hc8
            refine gd_sub [1, 2, 3, 4, 0] rfl ?_
            exact g49 _ ih _ _ _ _ _ _ h
          · have h := h.2 hc8
            refine gd_iconst (pc := 47) X (1) dX4_isHitBy_47 (by decide) ?_
            exact (gd_ret_i (pc := 48) X hr hlk rfl (by decide) (by decide) dX4_isHitBy_48 ⟨_, rfl, h⟩)
  intro h
  refine gd_aload_n (pc := 0) X 0 dX4_isHitBy_0 rfl ?_
  obtain ⟨hk1, h⟩ := h
  refine gd_getI (pc := 1) (kf := 6) X ci4 (by decide) rfl tw_356 dX4_isHitBy_1 hk1 ?_
  refine gd_aload_n (pc := 4) X 1 dX4_isHitBy_4 rfl ?_
  obtain ⟨hk2, h⟩ := h
  refine gd_getI (pc := 5) (kf := 7) X ci4 (by decide) rfl tw_359 dX4_isHitBy_5 hk2 ?_
  refine gd_iand (pc := 8) X dX4_isHitBy_8 ?_
  refine gd_if_eq (pc := 9) X 14 dX4_isHitBy_9 (by decide) (fun hc3 => ?_) (fun hc3 => ?_)
  · have h := h.1 hc3
    refine gd_iconst (pc := 14) X (0) dX4_isHitBy_14 (by decide) ?_
    refine gd_istore_n (pc := 15) X dX4_isHitBy_15 (by decide) (E2 := [(3, .int 0), (0, rf a0), (1, rf a1), (2, rf a2)]) (by simp [rf_cat, lv1, int_cat] <;> decide) ?_
    refine gd_sub [1, 2, 3, 0] rfl ?_
    obtain ⟨f16, h⟩ := h
    exact g16 f16 _ _ _ _ _ h
  · have h := h.2 hc3
    refine gd_iconst (pc := 12) X (1) dX4_isHitBy_12 (by decide) ?_
    exact (gd_ret_i (pc := 13) X hr hlk rfl (by decide) (by decide) dX4_isHitBy_13 ⟨_, rfl, h⟩)
abbrev rm_X1_link : Room := { frames := 3, cells := 0, slots := 0, locals := 68 }
def b_X1_link_82 (post : Int32 → MS → Prop) (S : MS) (l0 : Nat) (l1 : Int32) (l2 : Int32) (l3 : Nat) (l4 : Nat) (l5 : Int32) : Prop := post l5 S
def b_X1_link_62 (post : Int32 → MS → Prop) (S : MS) (l0 : Nat) (l1 : Int32) (l2 : Int32) (l3 : Nat) (l4 : Nat) (l5 : Int32) : Prop := kT S l0 = 2 ∧ kT S (sR S l0 0) = 14 ∧ vp_in (l2 - 1) (kL S (sR S l0 0)) ∧ kT S l3 = 5 ∧ w_X4_isHitBy S l3 l4 (sR S (sR S l0 0) (ix (l2 - 1))) (fun r6 S5 => ((r6 = 0 → b_X1_link_82 post S5 l0 l1 l2 l3 l4 l5) ∧ (¬ r6 = 0 → ∀ v7 : Int32, v7 = l5 + 4 → b_X1_link_82 post S5 l0 l1 l2 l3 l4 v7)))
def b_X1_link_46 (post : Int32 → MS → Prop) (S : MS) (l0 : Nat) (l1 : Int32) (l2 : Int32) (l3 : Nat) (l4 : Nat) (l5 : Int32) : Prop := kT S l3 = 5 ∧ kT S l4 = 5 ∧ ((((sI S l3 7) &&& (sI S l4 7)) = 0 → b_X1_link_62 post S l0 l1 l2 l3 l4 l5) ∧ (¬ ((sI S l3 7) &&& (sI S l4 7)) = 0 → ∀ v3 : Int32, v3 = l5 + 2 → b_X1_link_62 post S l0 l1 l2 l3 l4 v3))
def b_X1_link_24 (post : Int32 → MS → Prop) (S : MS) (l0 : Nat) (l1 : Int32) (l2 : Int32) (l3 : Nat) (l4 : Nat) : Prop := post 0 S
def w_X1_link (S : MS) (a0 : Nat) (a1 : Int32) (a2 : Int32) (post : Int32 → MS → Prop) : Prop := kT S a0 = 2 ∧ kT S (sR S a0 1) = 13 ∧ vp_in a1 (kL S (sR S a0 1)) ∧ ∀ r4 : Nat, r4 = sR S (sR S a0 1) (ix a1) → vp_in a2 (kL S (sR S a0 1)) ∧ ∀ r6 : Nat, r6 = sR S (sR S a0 1) (ix a2) → ((r4 = 0 → b_X1_link_24 post S a0 a1 a2 r4 r6) ∧ (¬ r4 = 0 → ((¬ r6 = 0 → kT S r6 = 5 ∧ w_X1_readsFrom S a0 a1 a2 (sI S r6 6) (fun r9 S8 => ((r9 = 0 → b_X1_link_46 post S8 a0 a1 a2 r4 r6 0) ∧ (¬ r9 = 0 → ∀ v10 : Int32, v10 = 0 + 1 → b_X1_link_46 post S8 a0 a1 a2 r4 r6 v10)))) ∧ (r6 = 0 → b_X1_link_24 post S a0 a1 a2 r4 r6))))
set_option maxHeartbeats 4000000 in
set_option maxRecDepth 100000 in
theorem ct_X1_link (l : Launch) (G : GP) (S : MS) (a0 : Nat) (a1 : Int32) (a2 : Int32) (post : Int32 → MS → Prop) (h : w_X1_link S a0 a1 a2 post) : MetM l yX1_link cX1_link 6 (some .int) rm_X1_link [rf a0, .int a1, .int a2] G S (pI_ post) := by
  refine met_of (by decide) (cat1_r (cat1_i (cat1_i cat1_n))) (Nat.le_of_ble_eq_true rfl) ?_
  intro p e s m args below meth c X hr hlk hin
  revert h
  have g82 : ∀ (S : MS) (l0 : Nat) (l1 : Int32) (l2 : Int32) (l3 : Nat) (l4 : Nat) (l5 : Int32), b_X1_link_82 post S l0 l1 l2 l3 l4 l5 → Gd p l e rm_X1_link s m args below meth c 6 G (MQ below (QcM G (pI_ post)) args s rm_X1_link.cells rm_X1_link.slots (Ab G)) 0 0 S 82 [(0, rf l0), (1, .int l1), (2, .int l2), (3, rf l3), (4, rf l4), (5, .int l5)] [] := by
    intro S l0 l1 l2 l3 l4 l5 h
    refine gd_iload (pc := 82) X 5 dX1_link_82 rfl ?_
    exact (gd_ret_i (pc := 84) X hr hlk rfl (by decide) (by decide) dX1_link_84 ⟨_, rfl, h⟩)
  have g62 : ∀ (S : MS) (l0 : Nat) (l1 : Int32) (l2 : Int32) (l3 : Nat) (l4 : Nat) (l5 : Int32), b_X1_link_62 post S l0 l1 l2 l3 l4 l5 → Gd p l e rm_X1_link s m args below meth c 6 G (MQ below (QcM G (pI_ post)) args s rm_X1_link.cells rm_X1_link.slots (Ab G)) 0 0 S 62 [(0, rf l0), (1, .int l1), (2, .int l2), (3, rf l3), (4, rf l4), (5, .int l5)] [] := by
    intro S l0 l1 l2 l3 l4 l5 h
    refine gd_aload_n (pc := 62) X 3 dX1_link_62 rfl ?_
    refine gd_aload (pc := 63) X 4 dX1_link_63 rfl ?_
    refine gd_aload_n (pc := 65) X 0 dX1_link_65 rfl ?_
    obtain ⟨hk1, h⟩ := h
    refine gd_getR (pc := 66) (kf := 0) X ci1 (by decide) rfl tw_42 dX1_link_66 hk1 ?_
    refine gd_iload_n (pc := 69) X 2 dX1_link_69 rfl ?_
    refine gd_iconst (pc := 70) X (1) dX1_link_70 (by decide) ?_
    refine gd_isub (pc := 71) X dX1_link_71 ?_
    obtain ⟨hk2, h⟩ := h
    obtain ⟨hi3, h⟩ := h
    refine gd_aald (pc := 72) (t := 6) X rfl rfl (by decide) (by decide) dX1_link_72 hk2 hi3 ?_
    obtain ⟨hk4, h⟩ := h
    refine gd_callV (pc := 73) (As := [rf l4, rf (sR S (sR S l0 0) (ix (l2 - 1)))]) (rest := []) X (ct_X4_isHitBy l G S l3 l4 (sR S (sR S l0 0) (ix (l2 - 1))) _ h) mw_X4_isHitBy tw_157 ci4 rfl hk4 ⟨(Nat.le_of_ble_eq_true rfl), (Nat.le_of_ble_eq_true rfl)⟩ rfl rfl (Nat.le_of_ble_eq_true rfl) dX1_link_73 ⟨Nat.le_of_ble_eq_true rfl, Nat.le_of_ble_eq_true rfl⟩ (kI (fun r6 S5 h => ?_))
    refine gd_wide (k2 := 0) (j2 := 0) (Nat.le_of_ble_eq_true rfl) (Nat.le_of_ble_eq_true rfl) ?_
    refine gd_if_eq (pc := 76) X 82 dX1_link_76 (by decide) (fun hc8 => ?_) (fun hc8 => ?_)
    · have h := h.1 hc8
      exact g82 _ _ _ _ _ _ _ h
    · have h := h.2 hc8
      obtain ⟨v7, hv7⟩ : ∃ z : Int32, z = l5 + 4 := ⟨_, rfl⟩
      have h := h v7 hv7
      refine gd_iinc (pc := 79) (v := v7) X 5 dX1_link_79 rfl (by rw [hv7]; rfl) (by decide) (E2 := [(5, .int v7), (0, rf l0), (1, .int l1), (2, .int l2), (3, rf l3), (4, rf l4)]) (by simp [rf_cat, lv1, int_cat] <;> decide) ?_
      refine gd_sub [1, 2, 3, 4, 5, 0] rfl ?_
      exact g82 _ _ _ _ _ _ _ h
  have g46 : ∀ (S : MS) (l0 : Nat) (l1 : Int32) (l2 : Int32) (l3 : Nat) (l4 : Nat) (l5 : Int32), b_X1_link_46 post S l0 l1 l2 l3 l4 l5 → Gd p l e rm_X1_link s m args below meth c 6 G (MQ below (QcM G (pI_ post)) args s rm_X1_link.cells rm_X1_link.slots (Ab G)) 0 0 S 46 [(0, rf l0), (1, .int l1), (2, .int l2), (3, rf l3), (4, rf l4), (5, .int l5)] [] := by
    intro S l0 l1 l2 l3 l4 l5 h
    refine gd_aload_n (pc := 46) X 3 dX1_link_46 rfl ?_
    obtain ⟨hk1, h⟩ := h
    refine gd_getI (pc := 47) (kf := 7) X ci4 (by decide) rfl tw_360 dX1_link_47 hk1 ?_
    refine gd_aload (pc := 50) X 4 dX1_link_50 rfl ?_
    obtain ⟨hk2, h⟩ := h
    refine gd_getI (pc := 52) (kf := 7) X ci4 (by decide) rfl tw_360 dX1_link_52 hk2 ?_
    refine gd_iand (pc := 55) X dX1_link_55 ?_
    refine gd_if_eq (pc := 56) X 62 dX1_link_56 (by decide) (fun hc4 => ?_) (fun hc4 => ?_)
    · have h := h.1 hc4
      exact g62 _ _ _ _ _ _ _ h
    · have h := h.2 hc4
      obtain ⟨v3, hv3⟩ : ∃ z : Int32, z = l5 + 2 := ⟨_, rfl⟩
      have h := h v3 hv3
      refine gd_iinc (pc := 59) (v := v3) X 5 dX1_link_59 rfl (by rw [hv3]; rfl) (by decide) (E2 := [(5, .int v3), (0, rf l0), (1, .int l1), (2, .int l2), (3, rf l3), (4, rf l4)]) (by simp [rf_cat, lv1, int_cat] <;> decide) ?_
      refine gd_sub [1, 2, 3, 4, 5, 0] rfl ?_
      exact g62 _ _ _ _ _ _ _ h
  have g24 : ∀ (S : MS) (l0 : Nat) (l1 : Int32) (l2 : Int32) (l3 : Nat) (l4 : Nat), b_X1_link_24 post S l0 l1 l2 l3 l4 → Gd p l e rm_X1_link s m args below meth c 6 G (MQ below (QcM G (pI_ post)) args s rm_X1_link.cells rm_X1_link.slots (Ab G)) 0 0 S 24 [(0, rf l0), (1, .int l1), (2, .int l2), (3, rf l3), (4, rf l4)] [] := by
    intro S l0 l1 l2 l3 l4 h
    refine gd_iconst (pc := 24) X (0) dX1_link_24 (by decide) ?_
    exact (gd_ret_i (pc := 25) X hr hlk rfl (by decide) (by decide) dX1_link_25 ⟨_, rfl, h⟩)
  intro h
  refine gd_aload_n (pc := 0) X 0 dX1_link_0 rfl ?_
  obtain ⟨hk1, h⟩ := h
  refine gd_getR (pc := 1) (kf := 1) X ci1 (by decide) rfl tw_43 dX1_link_1 hk1 ?_
  refine gd_iload_n (pc := 4) X 1 dX1_link_4 rfl ?_
  obtain ⟨hk2, h⟩ := h
  obtain ⟨hi3, h⟩ := h
  refine gd_aald (pc := 5) (t := 5) X rfl rfl (by decide) (by decide) dX1_link_5 hk2 hi3 ?_
  refine gd_topR (fun r4 hr4 => ?_)
  have h := h r4 hr4
  refine gd_astore_n (pc := 6) X dX1_link_6 (by decide) (E2 := [(3, rf r4), (0, rf a0), (1, .int a1), (2, .int a2)]) rfl ?_
  refine gd_aload_n (pc := 7) X 1 dX1_link_7 rfl ?_
  refine gd_getR (pc := 8) (kf := 1) X ci1 (by decide) rfl tw_43 dX1_link_8 hk1 ?_
  refine gd_iload_n (pc := 11) X 3 dX1_link_11 rfl ?_
  obtain ⟨hi5, h⟩ := h
  refine gd_aald (pc := 12) (t := 5) X rfl rfl (by decide) (by decide) dX1_link_12 hk2 hi5 ?_
  refine gd_topR (fun r6 hr6 => ?_)
  have h := h r6 hr6
  refine gd_astore (pc := 13) X dX1_link_13 (by decide) (E2 := [(4, rf r6), (3, rf r4), (0, rf a0), (1, .int a1), (2, .int a2)]) (by simp [rf_cat, lv1, int_cat] <;> decide) ?_
  refine gd_aload_n (pc := 15) X 1 dX1_link_15 rfl ?_
  refine gd_ifnull (pc := 16) X 24 dX1_link_16 (by decide) (fun hc13 => ?_) (fun hc13 => ?_)
  · have h := h.1 hc13
    refine gd_sub [2, 3, 4, 1, 0] rfl ?_
    exact g24 _ _ _ _ _ _ h
  · have h := h.2 hc13
    refine gd_aload (pc := 19) X 0 dX1_link_19 rfl ?_
    refine gd_ifnonnull (pc := 21) X 26 dX1_link_21 (by decide) (fun hc12 => ?_) (fun hc12 => ?_)
    · have h := h.1 hc12
      refine gd_iconst (pc := 26) X (0) dX1_link_26 (by decide) ?_
      refine gd_istore (pc := 27) X dX1_link_27 (by decide) (E2 := [(5, .int 0), (4, rf r6), (3, rf r4), (0, rf a0), (1, .int a1), (2, .int a2)]) (by simp [rf_cat, lv1, int_cat] <;> decide) ?_
      refine gd_aload_n (pc := 29) X 3 dX1_link_29 rfl ?_
      refine gd_iload_n (pc := 30) X 4 dX1_link_30 rfl ?_
      refine gd_iload_n (pc := 31) X 5 dX1_link_31 rfl ?_
      refine gd_aload (pc := 32) X 1 dX1_link_32 rfl ?_
      obtain ⟨hk7, h⟩ := h
      refine gd_getI (pc := 34) (kf := 6) X ci4 (by decide) rfl tw_357 dX1_link_34 hk7 ?_
      refine gd_callV (pc := 37) (As := [.int a1, .int a2, .int (sI S r6 6)]) (rest := []) X (ct_X1_readsFrom l G S a0 a1 a2 (sI S r6 6) _ h) mw_X1_readsFrom tw_149 ci1 rfl hk1 ⟨(Nat.le_of_ble_eq_true rfl), (Nat.le_of_ble_eq_true rfl)⟩ rfl rfl (Nat.le_of_ble_eq_true rfl) dX1_link_37 ⟨Nat.le_of_ble_eq_true rfl, Nat.le_of_ble_eq_true rfl⟩ (kI (fun r9 S8 h => ?_))
      refine gd_wide (k2 := 0) (j2 := 0) (Nat.le_of_ble_eq_true rfl) (Nat.le_of_ble_eq_true rfl) ?_
      refine gd_if_eq (pc := 40) X 46 dX1_link_40 (by decide) (fun hc11 => ?_) (fun hc11 => ?_)
      · have h := h.1 hc11
        refine gd_sub [3, 4, 5, 2, 1, 0] rfl ?_
        exact g46 _ _ _ _ _ _ _ h
      · have h := h.2 hc11
        obtain ⟨v10, hv10⟩ : ∃ z : Int32, z = 0 + 1 := ⟨_, rfl⟩
        have h := h v10 hv10
        refine gd_iinc (pc := 43) (v := v10) X 0 dX1_link_43 rfl (by rw [hv10]; rfl) (by decide) (E2 := [(5, .int v10), (4, rf r6), (3, rf r4), (0, rf a0), (1, .int a1), (2, .int a2)]) (by simp [rf_cat, lv1, int_cat] <;> decide) ?_
        refine gd_sub [3, 4, 5, 2, 1, 0] rfl ?_
        exact g46 _ _ _ _ _ _ _ h
    · have h := h.2 hc12
      refine gd_sub [2, 3, 4, 1, 0] rfl ?_
      exact g24 _ _ _ _ _ _ h
abbrev rm_X2_init : Room := { frames := 1, cells := 0, slots := 0, locals := 20 }
def w_X2_init (S : MS) (a0 : Nat) (a1 : Int32) (a2 : Int32) (a3 : Int32) (a4 : Int32) (post : MS → Prop) : Prop := kT S a0 = 3 ∧ ∀ S2 : MS, S2 = pI S a0 0 a1 → ∀ S4 : MS, S4 = pI S2 a0 1 a2 → ∀ S6 : MS, S6 = pI S4 a0 2 a3 → ∀ S8 : MS, S8 = pI S6 a0 3 a4 → post S8
set_option maxHeartbeats 4000000 in
set_option maxRecDepth 100000 in
theorem ct_X2_init (l : Launch) (G : GP) (S : MS) (a0 : Nat) (a1 : Int32) (a2 : Int32) (a3 : Int32) (a4 : Int32) (post : MS → Prop) (h : w_X2_init S a0 a1 a2 a3 a4 post) : MetM l yX2_init cX2_init 5 none rm_X2_init [rf a0, .int a1, .int a2, .int a3, .int a4] G S (pV_ post) := by
  refine met_of (by decide) (cat1_r (cat1_i (cat1_i (cat1_i (cat1_i cat1_n))))) (Nat.le_of_ble_eq_true rfl) ?_
  intro p e s m args below meth c X hr hlk hin
  refine gd_aload_n (pc := 0) X 0 dX2_init_0 rfl ?_
  obtain ⟨hk1, h⟩ := h
  refine gd_objInit (pc := 1) X (by rw [hk1]; decide) tw_455 oi_1 oi_2 dX2_init_1 (Nat.le_of_ble_eq_true rfl) ⟨(Nat.le_of_ble_eq_true rfl), (Nat.le_of_ble_eq_true rfl)⟩ ?_
  refine gd_aload_n (pc := 4) X 0 dX2_init_4 rfl ?_
  refine gd_iload_n (pc := 5) X 1 dX2_init_5 rfl ?_
  refine gd_putFI (pc := 6) (kf := 0) X ci2 (by decide) rfl rfl hin rfl tw_456 rfl rfl dX2_init_6 hk1 ?_
  refine gd_topS (fun S2 hS2 => ?_)
  have h := h S2 hS2
  have hk3 : kT S2 a0 = 3 := by rw [hS2]; exact hk1
  refine gd_aload_n (pc := 9) X 0 dX2_init_9 rfl ?_
  refine gd_iload_n (pc := 10) X 2 dX2_init_10 rfl ?_
  refine gd_putFI (pc := 11) (kf := 1) X ci2 (by decide) rfl rfl hin rfl tw_457 rfl rfl dX2_init_11 hk3 ?_
  refine gd_topS (fun S4 hS4 => ?_)
  have h := h S4 hS4
  have hk5 : kT S4 a0 = 3 := by rw [hS4]; exact hk3
  refine gd_aload_n (pc := 14) X 0 dX2_init_14 rfl ?_
  refine gd_iload_n (pc := 15) X 3 dX2_init_15 rfl ?_
  refine gd_putFI (pc := 16) (kf := 2) X ci2 (by decide) rfl rfl hin rfl tw_459 rfl rfl dX2_init_16 hk5 ?_
  refine gd_topS (fun S6 hS6 => ?_)
  have h := h S6 hS6
  have hk7 : kT S6 a0 = 3 := by rw [hS6]; exact hk5
  refine gd_aload_n (pc := 19) X 0 dX2_init_19 rfl ?_
  refine gd_iload (pc := 20) X 4 dX2_init_20 rfl ?_
  refine gd_putFI (pc := 22) (kf := 3) X ci2 (by decide) rfl rfl hin rfl tw_460 rfl rfl dX2_init_22 hk7 ?_
  refine gd_topS (fun S8 hS8 => ?_)
  have h := h S8 hS8
  have hk9 : kT S8 a0 = 3 := by rw [hS8]; exact hk7
  exact (gd_ret_v (pc := 25) X hr hlk (by decide) (by decide) dX2_init_25 ⟨rfl, h⟩)
abbrev rm_X5_isRange : Room := { frames := 0, cells := 0, slots := 0, locals := 0 }
def b_X5_isRange_20 (post : Int32 → MS → Prop) (S : MS) (l0 : Int32) (l1 : Int32) (s0 : Int32) : Prop := narrow .boolean (.int s0) = .int s0 ∧ post s0 S
def b_X5_isRange_19 (post : Int32 → MS → Prop) (S : MS) (l0 : Int32) (l1 : Int32) : Prop := b_X5_isRange_20 post S l0 l1 0
def w_X5_isRange (S : MS) (a0 : Int32) (a1 : Int32) (post : Int32 → MS → Prop) : Prop := ((a0 < 0 → b_X5_isRange_19 post S a0 a1) ∧ (¬ a0 < 0 → ((a1 < a0 → b_X5_isRange_19 post S a0 a1) ∧ (¬ a1 < a0 → ((32 ≤ a1 → b_X5_isRange_19 post S a0 a1) ∧ (¬ 32 ≤ a1 → b_X5_isRange_20 post S a0 a1 1))))))
set_option maxHeartbeats 4000000 in
set_option maxRecDepth 100000 in
theorem ct_X5_isRange (l : Launch) (G : GP) (S : MS) (a0 : Int32) (a1 : Int32) (post : Int32 → MS → Prop) (h : w_X5_isRange S a0 a1 post) : MetM l yX5_isRange cX5_isRange 2 (some .boolean) rm_X5_isRange [.int a0, .int a1] G S (pI_ post) := by
  refine met_of (by decide) (cat1_i (cat1_i cat1_n)) (Nat.le_of_ble_eq_true rfl) ?_
  intro p e s m args below meth c X hr hlk hin
  revert h
  have g20 : ∀ (S : MS) (l0 : Int32) (l1 : Int32) (s0 : Int32), b_X5_isRange_20 post S l0 l1 s0 → Gd p l e rm_X5_isRange s m args below meth c 2 G (MQ below (QcM G (pI_ post)) args s rm_X5_isRange.cells rm_X5_isRange.slots (Ab G)) 0 0 S 20 [(0, .int l0), (1, .int l1)] [.int s0] := by
    intro S l0 l1 s0 h
    obtain ⟨hnz, h⟩ := h
    exact (gd_ret_i (pc := 20) X hr hlk hnz (by decide) (by decide) dX5_isRange_20 ⟨_, rfl, h⟩)
  have g19 : ∀ (S : MS) (l0 : Int32) (l1 : Int32), b_X5_isRange_19 post S l0 l1 → Gd p l e rm_X5_isRange s m args below meth c 2 G (MQ below (QcM G (pI_ post)) args s rm_X5_isRange.cells rm_X5_isRange.slots (Ab G)) 0 0 S 19 [(0, .int l0), (1, .int l1)] [] := by
    intro S l0 l1 h
    refine gd_iconst (pc := 19) X (0) dX5_isRange_19 (by decide) ?_
    exact g20 _ _ _ _ h
  intro h
  refine gd_iload_n (pc := 0) X 0 dX5_isRange_0 rfl ?_
  refine gd_if_lt (pc := 1) X 19 dX5_isRange_1 (by decide) (fun hc3 => ?_) (fun hc3 => ?_)
  · have h := h.1 hc3
    exact g19 _ _ _ h
  · have h := h.2 hc3
    refine gd_iload_n (pc := 4) X 0 dX5_isRange_4 rfl ?_
    refine gd_iload_n (pc := 5) X 1 dX5_isRange_5 rfl ?_
    refine gd_icmp_gt (pc := 6) X 19 dX5_isRange_6 (by decide) (fun hc2 => ?_) (fun hc2 => ?_)
    · have h := h.1 hc2
      exact g19 _ _ _ h
    · have h := h.2 hc2
      refine gd_iload_n (pc := 9) X 1 dX5_isRange_9 rfl ?_
      refine gd_bipush (pc := 10) X (32) dX5_isRange_10 (by decide) ?_
      refine gd_icmp_ge (pc := 12) X 19 dX5_isRange_12 (by decide) (fun hc1 => ?_) (fun hc1 => ?_)
      · have h := h.1 hc1
        exact g19 _ _ _ h
      · have h := h.2 hc1
        refine gd_iconst (pc := 15) X (1) dX5_isRange_15 (by decide) ?_
        refine gd_goto (pc := 16) X 20 dX5_isRange_16 (by decide) ?_
        exact g20 _ _ _ _ h
abbrev rm_X5_isBetween : Room := { frames := 0, cells := 0, slots := 0, locals := 0 }
def b_X5_isBetween_15 (post : Int32 → MS → Prop) (S : MS) (l0 : Int32) (l1 : Int32) (l2 : Int32) (s0 : Int32) : Prop := narrow .boolean (.int s0) = .int s0 ∧ post s0 S
def b_X5_isBetween_14 (post : Int32 → MS → Prop) (S : MS) (l0 : Int32) (l1 : Int32) (l2 : Int32) : Prop := b_X5_isBetween_15 post S l0 l1 l2 0
def w_X5_isBetween (S : MS) (a0 : Int32) (a1 : Int32) (a2 : Int32) (post : Int32 → MS → Prop) : Prop := ((a0 < a1 → b_X5_isBetween_14 post S a0 a1 a2) ∧ (¬ a0 < a1 → ((a2 < a0 → b_X5_isBetween_14 post S a0 a1 a2) ∧ (¬ a2 < a0 → b_X5_isBetween_15 post S a0 a1 a2 1))))
set_option maxHeartbeats 4000000 in
set_option maxRecDepth 100000 in
theorem ct_X5_isBetween (l : Launch) (G : GP) (S : MS) (a0 : Int32) (a1 : Int32) (a2 : Int32) (post : Int32 → MS → Prop) (h : w_X5_isBetween S a0 a1 a2 post) : MetM l yX5_isBetween cX5_isBetween 3 (some .boolean) rm_X5_isBetween [.int a0, .int a1, .int a2] G S (pI_ post) := by
  refine met_of (by decide) (cat1_i (cat1_i (cat1_i cat1_n))) (Nat.le_of_ble_eq_true rfl) ?_
  intro p e s m args below meth c X hr hlk hin
  revert h
  have g15 : ∀ (S : MS) (l0 : Int32) (l1 : Int32) (l2 : Int32) (s0 : Int32), b_X5_isBetween_15 post S l0 l1 l2 s0 → Gd p l e rm_X5_isBetween s m args below meth c 3 G (MQ below (QcM G (pI_ post)) args s rm_X5_isBetween.cells rm_X5_isBetween.slots (Ab G)) 0 0 S 15 [(0, .int l0), (1, .int l1), (2, .int l2)] [.int s0] := by
    intro S l0 l1 l2 s0 h
    obtain ⟨hnz, h⟩ := h
    exact (gd_ret_i (pc := 15) X hr hlk hnz (by decide) (by decide) dX5_isBetween_15 ⟨_, rfl, h⟩)
  have g14 : ∀ (S : MS) (l0 : Int32) (l1 : Int32) (l2 : Int32), b_X5_isBetween_14 post S l0 l1 l2 → Gd p l e rm_X5_isBetween s m args below meth c 3 G (MQ below (QcM G (pI_ post)) args s rm_X5_isBetween.cells rm_X5_isBetween.slots (Ab G)) 0 0 S 14 [(0, .int l0), (1, .int l1), (2, .int l2)] [] := by
    intro S l0 l1 l2 h
    refine gd_iconst (pc := 14) X (0) dX5_isBetween_14 (by decide) ?_
    exact g15 _ _ _ _ _ h
  intro h
  refine gd_iload_n (pc := 0) X 0 dX5_isBetween_0 rfl ?_
  refine gd_iload_n (pc := 1) X 1 dX5_isBetween_1 rfl ?_
  refine gd_icmp_lt (pc := 2) X 14 dX5_isBetween_2 (by decide) (fun hc2 => ?_) (fun hc2 => ?_)
  · have h := h.1 hc2
    exact g14 _ _ _ _ h
  · have h := h.2 hc2
    refine gd_iload_n (pc := 5) X 0 dX5_isBetween_5 rfl ?_
    refine gd_iload_n (pc := 6) X 2 dX5_isBetween_6 rfl ?_
    refine gd_icmp_gt (pc := 7) X 14 dX5_isBetween_7 (by decide) (fun hc1 => ?_) (fun hc1 => ?_)
    · have h := h.1 hc1
      exact g14 _ _ _ _ h
    · have h := h.2 hc1
      refine gd_iconst (pc := 10) X (1) dX5_isBetween_10 (by decide) ?_
      refine gd_goto (pc := 11) X 15 dX5_isBetween_11 (by decide) ?_
      exact g15 _ _ _ _ _ h
abbrev rm_X2_isWellFormed : Room := { frames := 1, cells := 0, slots := 0, locals := 22 }
def b_X2_isWellFormed_35 (post : Int32 → MS → Prop) (S : MS) (l0 : Nat) (s0 : Int32) : Prop := narrow .boolean (.int s0) = .int s0 ∧ post s0 S
def b_X2_isWellFormed_34 (post : Int32 → MS → Prop) (S : MS) (l0 : Nat) : Prop := b_X2_isWellFormed_35 post S l0 0
def w_X2_isWellFormed (S : MS) (a0 : Nat) (post : Int32 → MS → Prop) : Prop := kT S a0 = 3 ∧ w_X5_isRange S (sI S a0 1) (sI S a0 2) (fun r3 S2 => ((r3 = 0 → b_X2_isWellFormed_34 post S2 a0) ∧ (¬ r3 = 0 → kT S2 a0 = 3 ∧ w_X5_isBetween S2 (sI S2 a0 3) ((-999)) 999 (fun r6 S5 => ((r6 = 0 → b_X2_isWellFormed_34 post S5 a0) ∧ (¬ r6 = 0 → b_X2_isWellFormed_35 post S5 a0 1))))))
set_option maxHeartbeats 4000000 in
set_option maxRecDepth 100000 in
theorem ct_X2_isWellFormed (l : Launch) (G : GP) (S : MS) (a0 : Nat) (post : Int32 → MS → Prop) (h : w_X2_isWellFormed S a0 post) : MetM l yX2_isWellFormed cX2_isWellFormed 1 (some .boolean) rm_X2_isWellFormed [rf a0] G S (pI_ post) := by
  refine met_of (by decide) (cat1_r cat1_n) (Nat.le_of_ble_eq_true rfl) ?_
  intro p e s m args below meth c X hr hlk hin
  revert h
  have g35 : ∀ (S : MS) (l0 : Nat) (s0 : Int32), b_X2_isWellFormed_35 post S l0 s0 → Gd p l e rm_X2_isWellFormed s m args below meth c 1 G (MQ below (QcM G (pI_ post)) args s rm_X2_isWellFormed.cells rm_X2_isWellFormed.slots (Ab G)) 0 0 S 35 [(0, rf l0)] [.int s0] := by
    intro S l0 s0 h
    obtain ⟨hnz, h⟩ := h
    exact (gd_ret_i (pc := 35) X hr hlk hnz (by decide) (by decide) dX2_isWellFormed_35 ⟨_, rfl, h⟩)
  have g34 : ∀ (S : MS) (l0 : Nat), b_X2_isWellFormed_34 post S l0 → Gd p l e rm_X2_isWellFormed s m args below meth c 1 G (MQ below (QcM G (pI_ post)) args s rm_X2_isWellFormed.cells rm_X2_isWellFormed.slots (Ab G)) 0 0 S 34 [(0, rf l0)] [] := by
    intro S l0 h
    refine gd_iconst (pc := 34) X (0) dX2_isWellFormed_34 (by decide) ?_
    exact g35 _ _ _ h
  intro h
  refine gd_aload_n (pc := 0) X 0 dX2_isWellFormed_0 rfl ?_
  obtain ⟨hk1, h⟩ := h
  refine gd_getI (pc := 1) (kf := 1) X ci2 (by decide) rfl tw_457 dX2_isWellFormed_1 hk1 ?_
  refine gd_aload_n (pc := 4) X 0 dX2_isWellFormed_4 rfl ?_
  refine gd_getI (pc := 5) (kf := 2) X ci2 (by decide) rfl tw_459 dX2_isWellFormed_5 hk1 ?_
  refine gd_callSN (host := "OptimisticStore") (pc := 8) (As := [.int (sI S a0 1), .int (sI S a0 2)]) (rest := []) X (ct_X5_isRange l G S (sI S a0 1) (sI S a0 2) _ h) mw_X5_isRange (by decide) ⟨(Nat.le_of_ble_eq_true rfl), (Nat.le_of_ble_eq_true rfl)⟩ rfl rfl (Nat.le_of_ble_eq_true rfl) dX2_isWellFormed_8 ⟨Nat.le_of_ble_eq_true rfl, Nat.le_of_ble_eq_true rfl⟩ (kI (fun r3 S2 h => ?_))
  refine gd_wide (k2 := 0) (j2 := 0) (Nat.le_of_ble_eq_true rfl) (Nat.le_of_ble_eq_true rfl) ?_
  refine gd_if_eq (pc := 11) X 34 dX2_isWellFormed_11 (by decide) (fun hc8 => ?_) (fun hc8 => ?_)
  · have h := h.1 hc8
    exact g34 _ _ h
  · have h := h.2 hc8
    refine gd_aload_n (pc := 14) X 0 dX2_isWellFormed_14 rfl ?_
    obtain ⟨hk4, h⟩ := h
    refine gd_getI (pc := 15) (kf := 3) X ci2 (by decide) rfl tw_460 dX2_isWellFormed_15 hk4 ?_
    refine gd_sipush (pc := 18) X (-999) dX2_isWellFormed_18 (by decide) ?_
    refine gd_sipush (pc := 21) X (999) dX2_isWellFormed_21 (by decide) ?_
    refine gd_callSN (host := "OptimisticStore") (pc := 24) (As := [.int (sI S2 a0 3), .int ((-999)), .int 999]) (rest := []) X (ct_X5_isBetween l G S2 (sI S2 a0 3) ((-999)) 999 _ h) mw_X5_isBetween (by decide) ⟨(Nat.le_of_ble_eq_true rfl), (Nat.le_of_ble_eq_true rfl)⟩ rfl rfl (Nat.le_of_ble_eq_true rfl) dX2_isWellFormed_24 ⟨Nat.le_of_ble_eq_true rfl, Nat.le_of_ble_eq_true rfl⟩ (kI (fun r6 S5 h => ?_))
    refine gd_wide (k2 := 0) (j2 := 0) (Nat.le_of_ble_eq_true rfl) (Nat.le_of_ble_eq_true rfl) ?_
    refine gd_if_eq (pc := 27) X 34 dX2_isWellFormed_27 (by decide) (fun hc7 => ?_) (fun hc7 => ?_)
    · have h := h.1 hc7
      exact g34 _ _ h
    · have h := h.2 hc7
      refine gd_iconst (pc := 30) X (1) dX2_isWellFormed_30 (by decide) ?_
      refine gd_goto (pc := 31) X 35 dX2_isWellFormed_31 (by decide) ?_
      exact g35 _ _ _ h
abbrev rm_X2_makesRead : Room := { frames := 0, cells := 0, slots := 0, locals := 0 }
def b_X2_makesRead_20 (post : Int32 → MS → Prop) (S : MS) (l0 : Nat) (s0 : Int32) : Prop := narrow .boolean (.int s0) = .int s0 ∧ post s0 S
def b_X2_makesRead_15 (post : Int32 → MS → Prop) (S : MS) (l0 : Nat) : Prop := b_X2_makesRead_20 post S l0 1
def w_X2_makesRead (S : MS) (a0 : Nat) (post : Int32 → MS → Prop) : Prop := kT S a0 = 3 ∧ (((sI S a0 0) = 0 → b_X2_makesRead_15 post S a0) ∧ (¬ (sI S a0 0) = 0 → ((¬ (sI S a0 0) = 5 → b_X2_makesRead_20 post S a0 0) ∧ ((sI S a0 0) = 5 → b_X2_makesRead_15 post S a0))))
set_option maxHeartbeats 4000000 in
set_option maxRecDepth 100000 in
theorem ct_X2_makesRead (l : Launch) (G : GP) (S : MS) (a0 : Nat) (post : Int32 → MS → Prop) (h : w_X2_makesRead S a0 post) : MetM l yX2_makesRead cX2_makesRead 1 (some .boolean) rm_X2_makesRead [rf a0] G S (pI_ post) := by
  refine met_of (by decide) (cat1_r cat1_n) (Nat.le_of_ble_eq_true rfl) ?_
  intro p e s m args below meth c X hr hlk hin
  revert h
  have g20 : ∀ (S : MS) (l0 : Nat) (s0 : Int32), b_X2_makesRead_20 post S l0 s0 → Gd p l e rm_X2_makesRead s m args below meth c 1 G (MQ below (QcM G (pI_ post)) args s rm_X2_makesRead.cells rm_X2_makesRead.slots (Ab G)) 0 0 S 20 [(0, rf l0)] [.int s0] := by
    intro S l0 s0 h
    obtain ⟨hnz, h⟩ := h
    exact (gd_ret_i (pc := 20) X hr hlk hnz (by decide) (by decide) dX2_makesRead_20 ⟨_, rfl, h⟩)
  have g15 : ∀ (S : MS) (l0 : Nat), b_X2_makesRead_15 post S l0 → Gd p l e rm_X2_makesRead s m args below meth c 1 G (MQ below (QcM G (pI_ post)) args s rm_X2_makesRead.cells rm_X2_makesRead.slots (Ab G)) 0 0 S 15 [(0, rf l0)] [] := by
    intro S l0 h
    refine gd_iconst (pc := 15) X (1) dX2_makesRead_15 (by decide) ?_
    refine gd_goto (pc := 16) X 20 dX2_makesRead_16 (by decide) ?_
    exact g20 _ _ _ h
  intro h
  refine gd_aload_n (pc := 0) X 0 dX2_makesRead_0 rfl ?_
  obtain ⟨hk1, h⟩ := h
  refine gd_getI (pc := 1) (kf := 0) X ci2 (by decide) rfl tw_456 dX2_makesRead_1 hk1 ?_
  refine gd_if_eq (pc := 4) X 15 dX2_makesRead_4 (by decide) (fun hc3 => ?_) (fun hc3 => ?_)
  · have h := h.1 hc3
    exact g15 _ _ h
  · have h := h.2 hc3
    refine gd_aload_n (pc := 7) X 0 dX2_makesRead_7 rfl ?_
    refine gd_getI (pc := 8) (kf := 0) X ci2 (by decide) rfl tw_456 dX2_makesRead_8 hk1 ?_
    refine gd_iconst (pc := 11) X (5) dX2_makesRead_11 (by decide) ?_
    refine gd_icmp_ne (pc := 12) X 19 dX2_makesRead_12 (by decide) (fun hc2 => ?_) (fun hc2 => ?_)
    · have h := h.1 hc2
      refine gd_iconst (pc := 19) X (0) dX2_makesRead_19 (by decide) ?_
      exact g20 _ _ _ h
    · have h := h.2 hc2
      exact g15 _ _ h
abbrev rm_X2_makesWrite : Room := { frames := 0, cells := 0, slots := 0, locals := 0 }
def b_X2_makesWrite_29 (post : Int32 → MS → Prop) (S : MS) (l0 : Nat) (s0 : Int32) : Prop := narrow .boolean (.int s0) = .int s0 ∧ post s0 S
def b_X2_makesWrite_24 (post : Int32 → MS → Prop) (S : MS) (l0 : Nat) : Prop := b_X2_makesWrite_29 post S l0 1
def w_X2_makesWrite (S : MS) (a0 : Nat) (post : Int32 → MS → Prop) : Prop := kT S a0 = 3 ∧ (((sI S a0 0) = 3 → b_X2_makesWrite_24 post S a0) ∧ (¬ (sI S a0 0) = 3 → (((sI S a0 0) = 4 → b_X2_makesWrite_24 post S a0) ∧ (¬ (sI S a0 0) = 4 → ((¬ (sI S a0 0) = 5 → b_X2_makesWrite_29 post S a0 0) ∧ ((sI S a0 0) = 5 → b_X2_makesWrite_24 post S a0))))))
set_option maxHeartbeats 4000000 in
set_option maxRecDepth 100000 in
theorem ct_X2_makesWrite (l : Launch) (G : GP) (S : MS) (a0 : Nat) (post : Int32 → MS → Prop) (h : w_X2_makesWrite S a0 post) : MetM l yX2_makesWrite cX2_makesWrite 1 (some .boolean) rm_X2_makesWrite [rf a0] G S (pI_ post) := by
  refine met_of (by decide) (cat1_r cat1_n) (Nat.le_of_ble_eq_true rfl) ?_
  intro p e s m args below meth c X hr hlk hin
  revert h
  have g29 : ∀ (S : MS) (l0 : Nat) (s0 : Int32), b_X2_makesWrite_29 post S l0 s0 → Gd p l e rm_X2_makesWrite s m args below meth c 1 G (MQ below (QcM G (pI_ post)) args s rm_X2_makesWrite.cells rm_X2_makesWrite.slots (Ab G)) 0 0 S 29 [(0, rf l0)] [.int s0] := by
    intro S l0 s0 h
    obtain ⟨hnz, h⟩ := h
    exact (gd_ret_i (pc := 29) X hr hlk hnz (by decide) (by decide) dX2_makesWrite_29 ⟨_, rfl, h⟩)
  have g24 : ∀ (S : MS) (l0 : Nat), b_X2_makesWrite_24 post S l0 → Gd p l e rm_X2_makesWrite s m args below meth c 1 G (MQ below (QcM G (pI_ post)) args s rm_X2_makesWrite.cells rm_X2_makesWrite.slots (Ab G)) 0 0 S 24 [(0, rf l0)] [] := by
    intro S l0 h
    refine gd_iconst (pc := 24) X (1) dX2_makesWrite_24 (by decide) ?_
    refine gd_goto (pc := 25) X 29 dX2_makesWrite_25 (by decide) ?_
    exact g29 _ _ _ h
  intro h
  refine gd_aload_n (pc := 0) X 0 dX2_makesWrite_0 rfl ?_
  obtain ⟨hk1, h⟩ := h
  refine gd_getI (pc := 1) (kf := 0) X ci2 (by decide) rfl tw_456 dX2_makesWrite_1 hk1 ?_
  refine gd_iconst (pc := 4) X (3) dX2_makesWrite_4 (by decide) ?_
  refine gd_icmp_eq (pc := 5) X 24 dX2_makesWrite_5 (by decide) (fun hc4 => ?_) (fun hc4 => ?_)
  · have h := h.1 hc4
    exact g24 _ _ h
  · have h := h.2 hc4
    refine gd_aload_n (pc := 8) X 0 dX2_makesWrite_8 rfl ?_
    refine gd_getI (pc := 9) (kf := 0) X ci2 (by decide) rfl tw_456 dX2_makesWrite_9 hk1 ?_
    refine gd_iconst (pc := 12) X (4) dX2_makesWrite_12 (by decide) ?_
    refine gd_icmp_eq (pc := 13) X 24 dX2_makesWrite_13 (by decide) (fun hc3 => ?_) (fun hc3 => ?_)
    · have h := h.1 hc3
      exact g24 _ _ h
    · have h := h.2 hc3
      refine gd_aload_n (pc := 16) X 0 dX2_makesWrite_16 rfl ?_
      refine gd_getI (pc := 17) (kf := 0) X ci2 (by decide) rfl tw_456 dX2_makesWrite_17 hk1 ?_
      refine gd_iconst (pc := 20) X (5) dX2_makesWrite_20 (by decide) ?_
      refine gd_icmp_ne (pc := 21) X 28 dX2_makesWrite_21 (by decide) (fun hc2 => ?_) (fun hc2 => ?_)
      · have h := h.1 hc2
        refine gd_iconst (pc := 28) X (0) dX2_makesWrite_28 (by decide) ?_
        exact g29 _ _ _ h
      · have h := h.2 hc2
        exact g24 _ _ h
abbrev rm_X2_sumWith : Room := { frames := 0, cells := 0, slots := 0, locals := 0 }
def b_X2_sumWith_12 (post : Int32 → MS → Prop) (S : MS) (l0 : Nat) (l1 : Int32) (s0 : Int32) : Prop := kT S l0 = 3 ∧ post (s0 + (sI S l0 3)) S
def w_X2_sumWith (S : MS) (a0 : Nat) (a1 : Int32) (post : Int32 → MS → Prop) : Prop := ((¬ a1 = ((-1000)) → b_X2_sumWith_12 post S a0 a1 a1) ∧ (a1 = ((-1000)) → b_X2_sumWith_12 post S a0 a1 0))
set_option maxHeartbeats 4000000 in
set_option maxRecDepth 100000 in
theorem ct_X2_sumWith (l : Launch) (G : GP) (S : MS) (a0 : Nat) (a1 : Int32) (post : Int32 → MS → Prop) (h : w_X2_sumWith S a0 a1 post) : MetM l yX2_sumWith cX2_sumWith 2 (some .int) rm_X2_sumWith [rf a0, .int a1] G S (pI_ post) := by
  refine met_of (by decide) (cat1_r (cat1_i cat1_n)) (Nat.le_of_ble_eq_true rfl) ?_
  intro p e s m args below meth c X hr hlk hin
  revert h
  have g12 : ∀ (S : MS) (l0 : Nat) (l1 : Int32) (s0 : Int32), b_X2_sumWith_12 post S l0 l1 s0 → Gd p l e rm_X2_sumWith s m args below meth c 2 G (MQ below (QcM G (pI_ post)) args s rm_X2_sumWith.cells rm_X2_sumWith.slots (Ab G)) 0 0 S 12 [(0, rf l0), (1, .int l1)] [.int s0] := by
    intro S l0 l1 s0 h
    refine gd_aload_n (pc := 12) X 0 dX2_sumWith_12 rfl ?_
    obtain ⟨hk1, h⟩ := h
    refine gd_getI (pc := 13) (kf := 3) X ci2 (by decide) rfl tw_460 dX2_sumWith_13 hk1 ?_
    refine gd_iadd (pc := 16) X dX2_sumWith_16 ?_
    exact (gd_ret_i (pc := 17) X hr hlk rfl (by decide) (by decide) dX2_sumWith_17 ⟨_, rfl, h⟩)
  intro h
  refine gd_iload_n (pc := 0) X 1 dX2_sumWith_0 rfl ?_
  refine gd_sipush (pc := 1) X (-1000) dX2_sumWith_1 (by decide) ?_
  refine gd_icmp_ne (pc := 4) X 11 dX2_sumWith_4 (by decide) (fun hc1 => ?_) (fun hc1 => ?_)
  · have h := h.1 hc1
    refine gd_iload_n (pc := 11) X 1 dX2_sumWith_11 rfl ?_
    exact g12 _ _ _ _ h
  · have h := h.2 hc1
    refine gd_iconst (pc := 7) X (0) dX2_sumWith_7 (by decide) ?_
    refine gd_goto (pc := 8) X 12 dX2_sumWith_8 (by decide) ?_
    exact g12 _ _ _ _ h
abbrev rm_X2_staysInRange : Room := { frames := 1, cells := 0, slots := 0, locals := 22 }
def b_X2_staysInRange_35 (post : Int32 → MS → Prop) (S : MS) (l0 : Nat) (l1 : Nat) (s0 : Int32) : Prop := narrow .boolean (.int s0) = .int s0 ∧ post s0 S
def b_X2_staysInRange_30 (post : Int32 → MS → Prop) (S : MS) (l0 : Nat) (l1 : Nat) : Prop := b_X2_staysInRange_35 post S l0 l1 1
def w_X2_staysInRange (S : MS) (a0 : Nat) (a1 : Nat) (post : Int32 → MS → Prop) : Prop := kT S a0 = 3 ∧ ((¬ (sI S a0 0) = 5 → b_X2_staysInRange_30 post S a0 a1) ∧ ((sI S a0 0) = 5 → kT S a1 = 9 ∧ vp_in (sI S a0 1) (kL S a1) ∧ w_X2_sumWith S a0 (sI S a1 (ix (sI S a0 1))) (fun r5 S4 => w_X5_isBetween S4 r5 ((-999)) 999 (fun r7 S6 => ((r7 = 0 → b_X2_staysInRange_35 post S6 a0 a1 0) ∧ (¬ r7 = 0 → b_X2_staysInRange_30 post S6 a0 a1))))))
set_option maxHeartbeats 4000000 in
set_option maxRecDepth 100000 in
theorem ct_X2_staysInRange (l : Launch) (G : GP) (S : MS) (a0 : Nat) (a1 : Nat) (post : Int32 → MS → Prop) (h : w_X2_staysInRange S a0 a1 post) : MetM l yX2_staysInRange cX2_staysInRange 2 (some .boolean) rm_X2_staysInRange [rf a0, rf a1] G S (pI_ post) := by
  refine met_of (by decide) (cat1_r (cat1_r cat1_n)) (Nat.le_of_ble_eq_true rfl) ?_
  intro p e s m args below meth c X hr hlk hin
  revert h
  have g35 : ∀ (S : MS) (l0 : Nat) (l1 : Nat) (s0 : Int32), b_X2_staysInRange_35 post S l0 l1 s0 → Gd p l e rm_X2_staysInRange s m args below meth c 2 G (MQ below (QcM G (pI_ post)) args s rm_X2_staysInRange.cells rm_X2_staysInRange.slots (Ab G)) 0 0 S 35 [(0, rf l0), (1, rf l1)] [.int s0] := by
    intro S l0 l1 s0 h
    obtain ⟨hnz, h⟩ := h
    exact (gd_ret_i (pc := 35) X hr hlk hnz (by decide) (by decide) dX2_staysInRange_35 ⟨_, rfl, h⟩)
  have g30 : ∀ (S : MS) (l0 : Nat) (l1 : Nat), b_X2_staysInRange_30 post S l0 l1 → Gd p l e rm_X2_staysInRange s m args below meth c 2 G (MQ below (QcM G (pI_ post)) args s rm_X2_staysInRange.cells rm_X2_staysInRange.slots (Ab G)) 0 0 S 30 [(0, rf l0), (1, rf l1)] [] := by
    intro S l0 l1 h
    refine gd_iconst (pc := 30) X (1) dX2_staysInRange_30 (by decide) ?_
    refine gd_goto (pc := 31) X 35 dX2_staysInRange_31 (by decide) ?_
    exact g35 _ _ _ _ h
  intro h
  refine gd_aload_n (pc := 0) X 0 dX2_staysInRange_0 rfl ?_
  obtain ⟨hk1, h⟩ := h
  refine gd_getI (pc := 1) (kf := 0) X ci2 (by decide) rfl tw_456 dX2_staysInRange_1 hk1 ?_
  refine gd_iconst (pc := 4) X (5) dX2_staysInRange_4 (by decide) ?_
  refine gd_icmp_ne (pc := 5) X 30 dX2_staysInRange_5 (by decide) (fun hc9 => ?_) (fun hc9 => ?_)
  · have h := h.1 hc9
    exact g30 _ _ _ h
  · have h := h.2 hc9
    refine gd_aload_n (pc := 8) X 0 dX2_staysInRange_8 rfl ?_
    refine gd_aload_n (pc := 9) X 1 dX2_staysInRange_9 rfl ?_
    refine gd_aload_n (pc := 10) X 0 dX2_staysInRange_10 rfl ?_
    refine gd_getI (pc := 11) (kf := 1) X ci2 (by decide) rfl tw_457 dX2_staysInRange_11 hk1 ?_
    obtain ⟨hk2, h⟩ := h
    obtain ⟨hi3, h⟩ := h
    refine gd_iald (pc := 14) X dX2_staysInRange_14 hk2 hi3 ?_
    refine gd_callV (pc := 15) (As := [.int (sI S a1 (ix (sI S a0 1)))]) (rest := []) X (ct_X2_sumWith l G S a0 (sI S a1 (ix (sI S a0 1))) _ h) mw_X2_sumWith tw_210 ci2 rfl hk1 ⟨(Nat.le_of_ble_eq_true rfl), (Nat.le_of_ble_eq_true rfl)⟩ rfl rfl (Nat.le_of_ble_eq_true rfl) dX2_staysInRange_15 ⟨Nat.le_of_ble_eq_true rfl, Nat.le_of_ble_eq_true rfl⟩ (kI (fun r5 S4 h => ?_))
    refine gd_wide (k2 := 0) (j2 := 0) (Nat.le_of_ble_eq_true rfl) (Nat.le_of_ble_eq_true rfl) ?_
    refine gd_sipush (pc := 18) X (-999) dX2_staysInRange_18 (by decide) ?_
    refine gd_sipush (pc := 21) X (999) dX2_staysInRange_21 (by decide) ?_
    refine gd_callSN (host := "OptimisticStore") (pc := 24) (As := [.int r5, .int ((-999)), .int 999]) (rest := []) X (ct_X5_isBetween l G S4 r5 ((-999)) 999 _ h) mw_X5_isBetween (by decide) ⟨(Nat.le_of_ble_eq_true rfl), (Nat.le_of_ble_eq_true rfl)⟩ rfl rfl (Nat.le_of_ble_eq_true rfl) dX2_staysInRange_24 ⟨Nat.le_of_ble_eq_true rfl, Nat.le_of_ble_eq_true rfl⟩ (kI (fun r7 S6 h => ?_))
    refine gd_wide (k2 := 0) (j2 := 0) (Nat.le_of_ble_eq_true rfl) (Nat.le_of_ble_eq_true rfl) ?_
    refine gd_if_eq (pc := 27) X 34 dX2_staysInRange_27 (by decide) (fun hc8 => ?_) (fun hc8 => ?_)
    · have h := h.1 hc8
      refine gd_iconst (pc := 34) X (0) dX2_staysInRange_34 (by decide) ?_
      exact g35 _ _ _ _ h
    · have h := h.2 hc8
      exact g30 _ _ _ h
abbrev rm_X2_carryOut : Room := { frames := 1, cells := 0, slots := 0, locals := 25 }
def b_X2_carryOut_117 (post : Int32 → MS → Prop) (S : MS) (l0 : Nat) (l1 : Nat) : Prop := kT S l0 = 3 ∧ kT S l1 = 9 ∧ vp_in (sI S l0 1) (kL S l1) ∧ ∀ S4 : MS, S4 = pI S l1 (ix (sI S l0 1)) (sI S l0 3) → post (sI S4 l0 3) S4
def w_X2_carryOut (S : MS) (a0 : Nat) (a1 : Nat) (post : Int32 → MS → Prop) : Prop := kT S a0 = 3 ∧ (((sI S a0 0).toInt = 0 → kT S a1 = 9 ∧ vp_in (sI S a0 1) (kL S a1) ∧ post (sI S a1 (ix (sI S a0 1))) S) ∧ ((sI S a0 0).toInt = 1 → w_X5_countIn S a1 (sI S a0 1) (sI S a0 2) (sI S a0 3) (fun r5 S4 => post r5 S4)) ∧ ((sI S a0 0).toInt = 2 → w_X5_totalIn S a1 (sI S a0 1) (sI S a0 2) (fun r7 S6 => post r7 S6)) ∧ ((sI S a0 0).toInt = 3 → b_X2_carryOut_117 post S a0 a1) ∧ ((sI S a0 0).toInt = 4 → kT S a1 = 9 ∧ vp_in (sI S a0 1) (kL S a1) ∧ ∀ S10 : MS, S10 = pI S a1 (ix (sI S a0 1)) ((-1000)) → post ((-1000)) S10) ∧ ((sI S a0 0).toInt = 5 → kT S a1 = 9 ∧ vp_in (sI S a0 1) (kL S a1) ∧ w_X2_sumWith S a0 (sI S a1 (ix (sI S a0 1))) (fun r16 S15 => kT S15 a1 = 9 ∧ vp_in (sI S a0 1) (kL S15 a1) ∧ ∀ S19 : MS, S19 = pI S15 a1 (ix (sI S a0 1)) r16 → kT S19 a0 = 3 ∧ vp_in (sI S19 a0 1) (kL S19 a1) ∧ post (sI S19 a1 (ix (sI S19 a0 1))) S19)) ∧ ((sI S a0 0).toInt < 0 ∨ 5 < (sI S a0 0).toInt → b_X2_carryOut_117 post S a0 a1))
set_option maxHeartbeats 4000000 in
set_option maxRecDepth 100000 in
theorem ct_X2_carryOut (l : Launch) (G : GP) (S : MS) (a0 : Nat) (a1 : Nat) (post : Int32 → MS → Prop) (h : w_X2_carryOut S a0 a1 post) : MetM l yX2_carryOut cX2_carryOut 2 (some .int) rm_X2_carryOut [rf a0, rf a1] G S (pI_ post) := by
  refine met_of (by decide) (cat1_r (cat1_r cat1_n)) (Nat.le_of_ble_eq_true rfl) ?_
  intro p e s m args below meth c X hr hlk hin
  revert h
  have g117 : ∀ (S : MS) (l0 : Nat) (l1 : Nat), b_X2_carryOut_117 post S l0 l1 → Gd p l e rm_X2_carryOut s m args below meth c 2 G (MQ below (QcM G (pI_ post)) args s rm_X2_carryOut.cells rm_X2_carryOut.slots (Ab G)) 0 0 S 117 [(0, rf l0), (1, rf l1)] [] := by
    intro S l0 l1 h
    refine gd_aload_n (pc := 117) X 1 dX2_carryOut_117 rfl ?_
    refine gd_aload_n (pc := 118) X 0 dX2_carryOut_118 rfl ?_
    obtain ⟨hk1, h⟩ := h
    refine gd_getI (pc := 119) (kf := 1) X ci2 (by decide) rfl tw_457 dX2_carryOut_119 hk1 ?_
    refine gd_aload_n (pc := 122) X 0 dX2_carryOut_122 rfl ?_
    refine gd_getI (pc := 123) (kf := 3) X ci2 (by decide) rfl tw_460 dX2_carryOut_123 hk1 ?_
    obtain ⟨hk2, h⟩ := h
    obtain ⟨hi3, h⟩ := h
    refine gd_iast (pc := 126) X dX2_carryOut_126 hk2 hi3 ?_
    refine gd_topS (fun S4 hS4 => ?_)
    have h := h S4 hS4
    have hk5 : kT S4 l0 = 3 := by rw [hS4]; exact hk1
    have hk6 : kT S4 l1 = 9 := by rw [hS4]; exact hk2
    refine gd_aload_n (pc := 127) X 0 dX2_carryOut_127 rfl ?_
    refine gd_getI (pc := 128) (kf := 3) X ci2 (by decide) rfl tw_460 dX2_carryOut_128 hk5 ?_
    exact (gd_ret_i (pc := 131) X hr hlk rfl (by decide) (by decide) dX2_carryOut_131 ⟨_, rfl, h⟩)
  intro h
  refine gd_aload_n (pc := 0) X 0 dX2_carryOut_0 rfl ?_
  obtain ⟨hk1, h⟩ := h
  refine gd_getI (pc := 1) (kf := 0) X ci2 (by decide) rfl tw_456 dX2_carryOut_1 hk1 ?_
  by_cases hout : (sI S a0 0).toInt < 0 ∨ 5 < (sI S a0 0).toInt
  · have h := h.2.2.2.2.2.2 hout
    refine gd_tableOut (pc := 4) X 117 dX2_carryOut_4 hout (by decide) ?_
    exact g117 _ _ _ h
  · rcases (show (sI S a0 0).toInt = 0 ∨ (sI S a0 0).toInt = 1 ∨ (sI S a0 0).toInt = 2 ∨ (sI S a0 0).toInt = 3 ∨ (sI S a0 0).toInt = 4 ∨ (sI S a0 0).toInt = 5 by omega) with hx | hx | hx | hx | hx | hx
    · have h := h.1 hx
      refine gd_tableIn (pc := 4) X 44 dX2_carryOut_4 (by omega) (by omega) (by rw [hx]; rfl) (by decide) ?_
      refine gd_aload_n (pc := 44) X 1 dX2_carryOut_44 rfl ?_
      refine gd_aload_n (pc := 45) X 0 dX2_carryOut_45 rfl ?_
      refine gd_getI (pc := 46) (kf := 1) X ci2 (by decide) rfl tw_457 dX2_carryOut_46 hk1 ?_
      obtain ⟨hk2, h⟩ := h
      obtain ⟨hi3, h⟩ := h
      refine gd_iald (pc := 49) X dX2_carryOut_49 hk2 hi3 ?_
      exact (gd_ret_i (pc := 50) X hr hlk rfl (by decide) (by decide) dX2_carryOut_50 ⟨_, rfl, h⟩)
    · have h := h.2.1 hx
      refine gd_tableIn (pc := 4) X 51 dX2_carryOut_4 (by omega) (by omega) (by rw [hx]; rfl) (by decide) ?_
      refine gd_aload_n (pc := 51) X 1 dX2_carryOut_51 rfl ?_
      refine gd_aload_n (pc := 52) X 0 dX2_carryOut_52 rfl ?_
      refine gd_getI (pc := 53) (kf := 1) X ci2 (by decide) rfl tw_457 dX2_carryOut_53 hk1 ?_
      refine gd_aload_n (pc := 56) X 0 dX2_carryOut_56 rfl ?_
      refine gd_getI (pc := 57) (kf := 2) X ci2 (by decide) rfl tw_459 dX2_carryOut_57 hk1 ?_
      refine gd_aload_n (pc := 60) X 0 dX2_carryOut_60 rfl ?_
      refine gd_getI (pc := 61) (kf := 3) X ci2 (by decide) rfl tw_460 dX2_carryOut_61 hk1 ?_
      refine gd_callSN (host := "OptimisticStore") (pc := 64) (As := [rf a1, .int (sI S a0 1), .int (sI S a0 2), .int (sI S a0 3)]) (rest := []) X (ct_X5_countIn l G S a1 (sI S a0 1) (sI S a0 2) (sI S a0 3) _ h) mw_X5_countIn (by decide) ⟨(Nat.le_of_ble_eq_true rfl), (Nat.le_of_ble_eq_true rfl)⟩ rfl rfl (Nat.le_of_ble_eq_true rfl) dX2_carryOut_64 ⟨Nat.le_of_ble_eq_true rfl, Nat.le_of_ble_eq_true rfl⟩ (kI (fun r5 S4 h => ?_))
      refine gd_wide (k2 := 0) (j2 := 0) (Nat.le_of_ble_eq_true rfl) (Nat.le_of_ble_eq_true rfl) ?_
      exact (gd_ret_i (pc := 67) X hr hlk rfl (by decide) (by decide) dX2_carryOut_67 ⟨_, rfl, h⟩)
    · have h := h.2.2.1 hx
      refine gd_tableIn (pc := 4) X 68 dX2_carryOut_4 (by omega) (by omega) (by rw [hx]; rfl) (by decide) ?_
      refine gd_aload_n (pc := 68) X 1 dX2_carryOut_68 rfl ?_
      refine gd_aload_n (pc := 69) X 0 dX2_carryOut_69 rfl ?_
      refine gd_getI (pc := 70) (kf := 1) X ci2 (by decide) rfl tw_457 dX2_carryOut_70 hk1 ?_
      refine gd_aload_n (pc := 73) X 0 dX2_carryOut_73 rfl ?_
      refine gd_getI (pc := 74) (kf := 2) X ci2 (by decide) rfl tw_459 dX2_carryOut_74 hk1 ?_
      refine gd_callSN (host := "OptimisticStore") (pc := 77) (As := [rf a1, .int (sI S a0 1), .int (sI S a0 2)]) (rest := []) X (ct_X5_totalIn l G S a1 (sI S a0 1) (sI S a0 2) _ h) mw_X5_totalIn (by decide) ⟨(Nat.le_of_ble_eq_true rfl), (Nat.le_of_ble_eq_true rfl)⟩ rfl rfl (Nat.le_of_ble_eq_true rfl) dX2_carryOut_77 ⟨Nat.le_of_ble_eq_true rfl, Nat.le_of_ble_eq_true rfl⟩ (kI (fun r7 S6 h => ?_))
      refine gd_wide (k2 := 0) (j2 := 0) (Nat.le_of_ble_eq_true rfl) (Nat.le_of_ble_eq_true rfl) ?_
      exact (gd_ret_i (pc := 80) X hr hlk rfl (by decide) (by decide) dX2_carryOut_80 ⟨_, rfl, h⟩)
    · have h := h.2.2.2.1 hx
      refine gd_tableIn (pc := 4) X 117 dX2_carryOut_4 (by omega) (by omega) (by rw [hx]; rfl) (by decide) ?_
      exact g117 _ _ _ h
    · have h := h.2.2.2.2.1 hx
      refine gd_tableIn (pc := 4) X 81 dX2_carryOut_4 (by omega) (by omega) (by rw [hx]; rfl) (by decide) ?_
      refine gd_aload_n (pc := 81) X 1 dX2_carryOut_81 rfl ?_
      refine gd_aload_n (pc := 82) X 0 dX2_carryOut_82 rfl ?_
      refine gd_getI (pc := 83) (kf := 1) X ci2 (by decide) rfl tw_457 dX2_carryOut_83 hk1 ?_
      refine gd_sipush (pc := 86) X (-1000) dX2_carryOut_86 (by decide) ?_
      obtain ⟨hk8, h⟩ := h
      obtain ⟨hi9, h⟩ := h
      refine gd_iast (pc := 89) X dX2_carryOut_89 hk8 hi9 ?_
      refine gd_topS (fun S10 hS10 => ?_)
      have h := h S10 hS10
      have hk11 : kT S10 a0 = 3 := by rw [hS10]; exact hk1
      have hk12 : kT S10 a1 = 9 := by rw [hS10]; exact hk8
      refine gd_sipush (pc := 90) X (-1000) dX2_carryOut_90 (by decide) ?_
      exact (gd_ret_i (pc := 93) X hr hlk rfl (by decide) (by decide) dX2_carryOut_93 ⟨_, rfl, h⟩)
    · have h := h.2.2.2.2.2.1 hx
      refine gd_tableIn (pc := 4) X 94 dX2_carryOut_4 (by omega) (by omega) (by rw [hx]; rfl) (by decide) ?_
      refine gd_aload_n (pc := 94) X 1 dX2_carryOut_94 rfl ?_
      refine gd_aload_n (pc := 95) X 0 dX2_carryOut_95 rfl ?_
      refine gd_getI (pc := 96) (kf := 1) X ci2 (by decide) rfl tw_457 dX2_carryOut_96 hk1 ?_
      refine gd_aload_n (pc := 99) X 0 dX2_carryOut_99 rfl ?_
      refine gd_aload_n (pc := 100) X 1 dX2_carryOut_100 rfl ?_
      refine gd_aload_n (pc := 101) X 0 dX2_carryOut_101 rfl ?_
      refine gd_getI (pc := 102) (kf := 1) X ci2 (by decide) rfl tw_457 dX2_carryOut_102 hk1 ?_
      obtain ⟨hk13, h⟩ := h
      obtain ⟨hi14, h⟩ := h
      refine gd_iald (pc := 105) X dX2_carryOut_105 hk13 hi14 ?_
      refine gd_callV (pc := 106) (As := [.int (sI S a1 (ix (sI S a0 1)))]) (rest := [.int (sI S a0 1), rf a1]) X (ct_X2_sumWith l G S a0 (sI S a1 (ix (sI S a0 1))) _ h) mw_X2_sumWith tw_210 ci2 rfl hk1 ⟨(Nat.le_of_ble_eq_true rfl), (Nat.le_of_ble_eq_true rfl)⟩ rfl rfl (Nat.le_of_ble_eq_true rfl) dX2_carryOut_106 ⟨Nat.le_of_ble_eq_true rfl, Nat.le_of_ble_eq_true rfl⟩ (kI (fun r16 S15 h => ?_))
      refine gd_wide (k2 := 0) (j2 := 0) (Nat.le_of_ble_eq_true rfl) (Nat.le_of_ble_eq_true rfl) ?_
      obtain ⟨hk17, h⟩ := h
      obtain ⟨hi18, h⟩ := h
      refine gd_iast (pc := 109) X dX2_carryOut_109 hk17 hi18 ?_
      refine gd_topS (fun S19 hS19 => ?_)
      have h := h S19 hS19
      have hk20 : kT S19 a1 = 9 := by rw [hS19]; exact hk17
      refine gd_aload_n (pc := 110) X 1 dX2_carryOut_110 rfl ?_
      refine gd_aload_n (pc := 111) X 0 dX2_carryOut_111 rfl ?_
      obtain ⟨hk21, h⟩ := h
      refine gd_getI (pc := 112) (kf := 1) X ci2 (by decide) rfl tw_457 dX2_carryOut_112 hk21 ?_
      obtain ⟨hi22, h⟩ := h
      refine gd_iald (pc := 115) X dX2_carryOut_115 hk20 hi22 ?_
      exact (gd_ret_i (pc := 116) X hr hlk rfl (by decide) (by decide) dX2_carryOut_116 ⟨_, rfl, h⟩)
abbrev rm_X3_init : Room := { frames := 1, cells := 2, slots := 90, locals := 20 }
def w_X3_init (S : MS) (a0 : Nat) (post : MS → Prop) : Prop := kT S a0 = 4 ∧ ∀ q2 : Nat, kT S q2 = 0 → ¬ q2 = 0 → ∀ S3 : MS, S3 = nw S q2 8 60 → ∀ S6 : MS, S6 = pR S3 a0 0 q2 → ∀ q9 : Nat, kT S6 q9 = 0 → ¬ q9 = 0 → ∀ S10 : MS, S10 = nw S6 q9 12 30 → ∀ S14 : MS, S14 = pR S10 a0 1 q9 → ∀ S18 : MS, S18 = pI S14 a0 5 ((-1)) → post S18
set_option maxHeartbeats 4000000 in
set_option maxRecDepth 100000 in
theorem ct_X3_init (l : Launch) (G : GP) (S : MS) (a0 : Nat) (post : MS → Prop) (h : w_X3_init S a0 post) : MetM l yX3_init cX3_init 1 none rm_X3_init [rf a0] G S (pV_ post) := by
  refine met_of (by decide) (cat1_r cat1_n) (Nat.le_of_ble_eq_true rfl) ?_
  intro p e s m args below meth c X hr hlk hin
  refine gd_aload_n (pc := 0) X 0 dX3_init_0 rfl ?_
  obtain ⟨hk1, h⟩ := h
  refine gd_objInit (pc := 1) X (by rw [hk1]; decide) tw_62 oi_1 oi_2 dX3_init_1 (Nat.le_of_ble_eq_true rfl) ⟨(Nat.le_of_ble_eq_true rfl), (Nat.le_of_ble_eq_true rfl)⟩ ?_
  refine gd_aload_n (pc := 4) X 0 dX3_init_4 rfl ?_
  refine gd_bipush (pc := 5) X (60) dX3_init_5 (by decide) ?_
  refine gd_newaC (pc := 7) (N := 60) X tw_87 (by decide) (by decide) (by decide) dX3_init_7 ⟨Nat.le_of_ble_eq_true rfl, Nat.le_of_ble_eq_true rfl⟩ (fun q2 hzq2 hnq2 => ?_)
  have h := h q2 hzq2 hnq2
  refine gd_wide (k2 := 1) (j2 := 60) (Nat.le_of_ble_eq_true rfl) (Nat.le_of_ble_eq_true rfl) ?_
  refine gd_topS (fun S3 hS3 => ?_)
  have h := h S3 hS3
  have hk4 : kT S3 a0 = 4 := by rw [hS3]; exact kT_nwo hk1 hzq2 (by decide)
  have hk5 : kT S3 q2 = 8 := by rw [hS3]; exact kT_nw _ _ _ _
  refine gd_putFR (pc := 9) (kf := 0) X ci3 (by decide) rfl rfl hin rfl tw_65 (rf_nar (by decide) q2) (rf_fit (by decide) q2) dX3_init_9 hk4 ?_
  refine gd_topS (fun S6 hS6 => ?_)
  have h := h S6 hS6
  have hk7 : kT S6 a0 = 4 := by rw [hS6]; exact hk4
  have hk8 : kT S6 q2 = 8 := by rw [hS6]; exact hk5
  refine gd_aload_n (pc := 12) X 0 dX3_init_12 rfl ?_
  refine gd_bipush (pc := 13) X (30) dX3_init_13 (by decide) ?_
  refine gd_anew (pc := 15) (t := 4) (N := 30) X tw_63 (by decide) rfl (by decide) (by decide) (by decide) (by decide) (by decide) dX3_init_15 ⟨Nat.le_of_ble_eq_true rfl, Nat.le_of_ble_eq_true rfl⟩ (fun q9 hzq9 hnq9 => ?_)
  have h := h q9 hzq9 hnq9
  refine gd_wide (k2 := 2) (j2 := 90) (Nat.le_of_ble_eq_true rfl) (Nat.le_of_ble_eq_true rfl) ?_
  refine gd_topS (fun S10 hS10 => ?_)
  have h := h S10 hS10
  have hk11 : kT S10 a0 = 4 := by rw [hS10]; exact kT_nwo hk7 hzq9 (by decide)
  have hk12 : kT S10 q2 = 8 := by rw [hS10]; exact kT_nwo hk8 hzq9 (by decide)
  have hk13 : kT S10 q9 = 12 := by rw [hS10]; exact kT_nw _ _ _ _
  refine gd_putFR (pc := 18) (kf := 1) X ci3 (by decide) rfl rfl hin rfl tw_66 (rf_nar (by decide) q9) (rf_fit (by decide) q9) dX3_init_18 hk11 ?_
  refine gd_topS (fun S14 hS14 => ?_)
  have h := h S14 hS14
  have hk15 : kT S14 a0 = 4 := by rw [hS14]; exact hk11
  have hk16 : kT S14 q2 = 8 := by rw [hS14]; exact hk12
  have hk17 : kT S14 q9 = 12 := by rw [hS14]; exact hk13
  refine gd_aload_n (pc := 21) X 0 dX3_init_21 rfl ?_
  refine gd_iconst (pc := 22) X (-1) dX3_init_22 (by decide) ?_
  refine gd_putI (pc := 23) (kf := 5) X ci3 (by decide) rfl rfl tw_72 rfl rfl dX3_init_23 hk15 ?_
  refine gd_topS (fun S18 hS18 => ?_)
  have h := h S18 hS18
  have hk19 : kT S18 a0 = 4 := by rw [hS18]; exact hk15
  have hk20 : kT S18 q2 = 8 := by rw [hS18]; exact hk16
  have hk21 : kT S18 q9 = 12 := by rw [hS18]; exact hk17
  exact (gd_ret_v (pc := 26) X hr hlk (by decide) (by decide) dX3_init_26 ⟨rfl, h⟩)
abbrev rm_X3_extend : Room := { frames := 0, cells := 0, slots := 0, locals := 0 }
def b_X3_extend_29 (post : Int32 → MS → Prop) (S : MS) (l0 : Nat) (l1 : Int32) : Prop := kT S l0 = 4 ∧ post (sI S l0 3) S
def w_X3_extend (S : MS) (a0 : Nat) (a1 : Int32) (post : Int32 → MS → Prop) : Prop := kT S a0 = 4 ∧ ((60 ≤ (sI S a0 3) → b_X3_extend_29 post S a0 a1) ∧ (¬ 60 ≤ (sI S a0 3) → kT S (sR S a0 0) = 8 ∧ vp_in (sI S a0 3) (kL S (sR S a0 0)) ∧ ∀ S4 : MS, S4 = pI S (sR S a0 0) (ix (sI S a0 3)) (vp_nar .char a1) → ∀ S7 : MS, S7 = pI S4 a0 3 ((sI S4 a0 3) + 1) → b_X3_extend_29 post S7 a0 a1))
set_option maxHeartbeats 4000000 in
set_option maxRecDepth 100000 in
theorem ct_X3_extend (l : Launch) (G : GP) (S : MS) (a0 : Nat) (a1 : Int32) (post : Int32 → MS → Prop) (h : w_X3_extend S a0 a1 post) : MetM l yX3_extend cX3_extend 2 (some .int) rm_X3_extend [rf a0, .int a1] G S (pI_ post) := by
  refine met_of (by decide) (cat1_r (cat1_i cat1_n)) (Nat.le_of_ble_eq_true rfl) ?_
  intro p e s m args below meth c X hr hlk hin
  revert h
  have g29 : ∀ (S : MS) (l0 : Nat) (l1 : Int32), b_X3_extend_29 post S l0 l1 → Gd p l e rm_X3_extend s m args below meth c 2 G (MQ below (QcM G (pI_ post)) args s rm_X3_extend.cells rm_X3_extend.slots (Ab G)) 0 0 S 29 [(0, rf l0), (1, .int l1)] [] := by
    intro S l0 l1 h
    refine gd_aload_n (pc := 29) X 0 dX3_extend_29 rfl ?_
    obtain ⟨hk1, h⟩ := h
    refine gd_getI (pc := 30) (kf := 3) X ci3 (by decide) rfl tw_68 dX3_extend_30 hk1 ?_
    exact (gd_ret_i (pc := 33) X hr hlk rfl (by decide) (by decide) dX3_extend_33 ⟨_, rfl, h⟩)
  intro h
  refine gd_aload_n (pc := 0) X 0 dX3_extend_0 rfl ?_
  obtain ⟨hk1, h⟩ := h
  refine gd_getI (pc := 1) (kf := 3) X ci3 (by decide) rfl tw_68 dX3_extend_1 hk1 ?_
  refine gd_bipush (pc := 4) X (60) dX3_extend_4 (by decide) ?_
  refine gd_icmp_ge (pc := 6) X 29 dX3_extend_6 (by decide) (fun hc10 => ?_) (fun hc10 => ?_)
  · have h := h.1 hc10
    exact g29 _ _ _ h
  · have h := h.2 hc10
    refine gd_aload_n (pc := 9) X 0 dX3_extend_9 rfl ?_
    refine gd_getR (pc := 10) (kf := 0) X ci3 (by decide) rfl tw_65 dX3_extend_10 hk1 ?_
    refine gd_aload_n (pc := 13) X 0 dX3_extend_13 rfl ?_
    refine gd_getI (pc := 14) (kf := 3) X ci3 (by decide) rfl tw_68 dX3_extend_14 hk1 ?_
    refine gd_iload_n (pc := 17) X 1 dX3_extend_17 rfl ?_
    obtain ⟨hk2, h⟩ := h
    obtain ⟨hi3, h⟩ := h
    refine gd_cast (pc := 18) X dX3_extend_18 hk2 hi3 ?_
    refine gd_topS (fun S4 hS4 => ?_)
    have h := h S4 hS4
    have hk5 : kT S4 a0 = 4 := by rw [hS4]; exact hk1
    have hk6 : kT S4 (sR S a0 0) = 8 := by rw [hS4]; exact hk2
    refine gd_aload_n (pc := 19) X 0 dX3_extend_19 rfl ?_
    refine gd_dupR (pc := 20) X dX3_extend_20 ?_
    refine gd_getI (pc := 21) (kf := 3) X ci3 (by decide) rfl tw_68 dX3_extend_21 hk5 ?_
    refine gd_iconst (pc := 24) X (1) dX3_extend_24 (by decide) ?_
    refine gd_iadd (pc := 25) X dX3_extend_25 ?_
    refine gd_putI (pc := 26) (kf := 3) X ci3 (by decide) rfl rfl tw_68 rfl rfl dX3_extend_26 hk5 ?_
    refine gd_topS (fun S7 hS7 => ?_)
    have h := h S7 hS7
    have hk8 : kT S7 a0 = 4 := by rw [hS7]; exact hk5
    have hk9 : kT S7 (sR S a0 0) = 8 := by rw [hS7]; exact hk6
    exact g29 _ _ _ h
abbrev rm_X3_stepAt : Room := { frames := 0, cells := 0, slots := 0, locals := 0 }
def b_X3_stepAt_22 (post : Nat → MS → Prop) (S : MS) (l0 : Nat) (l1 : Int32) (s0 : Nat) : Prop := post s0 S
def b_X3_stepAt_21 (post : Nat → MS → Prop) (S : MS) (l0 : Nat) (l1 : Int32) : Prop := b_X3_stepAt_22 post S l0 l1 0
def w_X3_stepAt (S : MS) (a0 : Nat) (a1 : Int32) (post : Nat → MS → Prop) : Prop := ((a1 < 0 → b_X3_stepAt_21 post S a0 a1) ∧ (¬ a1 < 0 → kT S a0 = 4 ∧ (((sI S a0 4) ≤ a1 → b_X3_stepAt_21 post S a0 a1) ∧ (¬ (sI S a0 4) ≤ a1 → kT S (sR S a0 1) = 12 ∧ vp_in a1 (kL S (sR S a0 1)) ∧ b_X3_stepAt_22 post S a0 a1 (sR S (sR S a0 1) (ix a1))))))
set_option maxHeartbeats 4000000 in
set_option maxRecDepth 100000 in
theorem ct_X3_stepAt (l : Launch) (G : GP) (S : MS) (a0 : Nat) (a1 : Int32) (post : Nat → MS → Prop) (h : w_X3_stepAt S a0 a1 post) : MetM l yX3_stepAt cX3_stepAt 2 (some (.object "OptimisticStore$Operation")) rm_X3_stepAt [rf a0, .int a1] G S (pR_ post) := by
  refine met_of (by decide) (cat1_r (cat1_i cat1_n)) (Nat.le_of_ble_eq_true rfl) ?_
  intro p e s m args below meth c X hr hlk hin
  revert h
  have g22 : ∀ (S : MS) (l0 : Nat) (l1 : Int32) (s0 : Nat), b_X3_stepAt_22 post S l0 l1 s0 → Gd p l e rm_X3_stepAt s m args below meth c 2 G (MQ below (QcM G (pR_ post)) args s rm_X3_stepAt.cells rm_X3_stepAt.slots (Ab G)) 0 0 S 22 [(0, rf l0), (1, .int l1)] [rf s0] := by
    intro S l0 l1 s0 h
    exact (gd_ret_a (pc := 22) X hr (Or.inl ⟨_, rfl⟩) hlk (by decide) (by decide) dX3_stepAt_22 ⟨_, rfl, h⟩)
  have g21 : ∀ (S : MS) (l0 : Nat) (l1 : Int32), b_X3_stepAt_21 post S l0 l1 → Gd p l e rm_X3_stepAt s m args below meth c 2 G (MQ below (QcM G (pR_ post)) args s rm_X3_stepAt.cells rm_X3_stepAt.slots (Ab G)) 0 0 S 21 [(0, rf l0), (1, .int l1)] [] := by
    intro S l0 l1 h
    refine gd_null (pc := 21) X dX3_stepAt_21 ?_
    exact g22 _ _ _ _ h
  intro h
  refine gd_iload_n (pc := 0) X 1 dX3_stepAt_0 rfl ?_
  refine gd_if_lt (pc := 1) X 21 dX3_stepAt_1 (by decide) (fun hc5 => ?_) (fun hc5 => ?_)
  · have h := h.1 hc5
    exact g21 _ _ _ h
  · have h := h.2 hc5
    refine gd_iload_n (pc := 4) X 1 dX3_stepAt_4 rfl ?_
    refine gd_aload_n (pc := 5) X 0 dX3_stepAt_5 rfl ?_
    obtain ⟨hk1, h⟩ := h
    refine gd_getI (pc := 6) (kf := 4) X ci3 (by decide) rfl tw_70 dX3_stepAt_6 hk1 ?_
    refine gd_icmp_ge (pc := 9) X 21 dX3_stepAt_9 (by decide) (fun hc4 => ?_) (fun hc4 => ?_)
    · have h := h.1 hc4
      exact g21 _ _ _ h
    · have h := h.2 hc4
      refine gd_aload_n (pc := 12) X 0 dX3_stepAt_12 rfl ?_
      refine gd_getR (pc := 13) (kf := 1) X ci3 (by decide) rfl tw_66 dX3_stepAt_13 hk1 ?_
      refine gd_iload_n (pc := 16) X 1 dX3_stepAt_16 rfl ?_
      obtain ⟨hk2, h⟩ := h
      obtain ⟨hi3, h⟩ := h
      refine gd_aald (pc := 17) (t := 4) X rfl rfl (by decide) (by decide) dX3_stepAt_17 hk2 hi3 ?_
      refine gd_goto (pc := 18) X 22 dX3_stepAt_18 (by decide) ?_
      exact g22 _ _ _ _ h
abbrev rm_X3_current : Room := { frames := 0, cells := 0, slots := 0, locals := 0 }
def b_X3_current_24 (post : Int32 → MS → Prop) (S : MS) (l0 : Nat) (s0 : Int32) : Prop := narrow .char (.int s0) = .int s0 ∧ post s0 S
def w_X3_current (S : MS) (a0 : Nat) (post : Int32 → MS → Prop) : Prop := kT S a0 = 4 ∧ (((sI S a0 3) ≤ (sI S a0 2) → b_X3_current_24 post S a0 0) ∧ (¬ (sI S a0 3) ≤ (sI S a0 2) → kT S (sR S a0 0) = 8 ∧ vp_in (sI S a0 2) (kL S (sR S a0 0)) ∧ b_X3_current_24 post S a0 (sI S (sR S a0 0) (ix (sI S a0 2)))))
set_option maxHeartbeats 4000000 in
set_option maxRecDepth 100000 in
theorem ct_X3_current (l : Launch) (G : GP) (S : MS) (a0 : Nat) (post : Int32 → MS → Prop) (h : w_X3_current S a0 post) : MetM l yX3_current cX3_current 1 (some .char) rm_X3_current [rf a0] G S (pI_ post) := by
  refine met_of (by decide) (cat1_r cat1_n) (Nat.le_of_ble_eq_true rfl) ?_
  intro p e s m args below meth c X hr hlk hin
  revert h
  have g24 : ∀ (S : MS) (l0 : Nat) (s0 : Int32), b_X3_current_24 post S l0 s0 → Gd p l e rm_X3_current s m args below meth c 1 G (MQ below (QcM G (pI_ post)) args s rm_X3_current.cells rm_X3_current.slots (Ab G)) 0 0 S 24 [(0, rf l0)] [.int s0] := by
    intro S l0 s0 h
    obtain ⟨hnz, h⟩ := h
    exact (gd_ret_i (pc := 24) X hr hlk hnz (by decide) (by decide) dX3_current_24 ⟨_, rfl, h⟩)
  intro h
  refine gd_aload_n (pc := 0) X 0 dX3_current_0 rfl ?_
  obtain ⟨hk1, h⟩ := h
  refine gd_getI (pc := 1) (kf := 2) X ci3 (by decide) rfl tw_67 dX3_current_1 hk1 ?_
  refine gd_aload_n (pc := 4) X 0 dX3_current_4 rfl ?_
  refine gd_getI (pc := 5) (kf := 3) X ci3 (by decide) rfl tw_68 dX3_current_5 hk1 ?_
  refine gd_icmp_ge (pc := 8) X 23 dX3_current_8 (by decide) (fun hc4 => ?_) (fun hc4 => ?_)
  · have h := h.1 hc4
    refine gd_iconst (pc := 23) X (0) dX3_current_23 (by decide) ?_
    exact g24 _ _ _ h
  · have h := h.2 hc4
    refine gd_aload_n (pc := 11) X 0 dX3_current_11 rfl ?_
    refine gd_getR (pc := 12) (kf := 0) X ci3 (by decide) rfl tw_65 dX3_current_12 hk1 ?_
    refine gd_aload_n (pc := 15) X 0 dX3_current_15 rfl ?_
    refine gd_getI (pc := 16) (kf := 2) X ci3 (by decide) rfl tw_67 dX3_current_16 hk1 ?_
    obtain ⟨hk2, h⟩ := h
    obtain ⟨hi3, h⟩ := h
    refine gd_cald (pc := 19) X dX3_current_19 hk2 hi3 ?_
    refine gd_goto (pc := 20) X 24 dX3_current_20 (by decide) ?_
    exact g24 _ _ _ h
abbrev rm_X3_kindOf : Room := { frames := 0, cells := 0, slots := 0, locals := 0 }
def b_X3_kindOf_43 (post : Int32 → MS → Prop) (S : MS) (l0 : Int32) (s0 : Int32) : Prop := post s0 S
def w_X3_kindOf (S : MS) (a0 : Int32) (post : Int32 → MS → Prop) : Prop := ((¬ a0 = 114 → ((¬ a0 = 119 → ((¬ a0 = 100 → ((¬ a0 = 97 → ((¬ a0 = 115 → b_X3_kindOf_43 post S a0 ((-1))) ∧ (a0 = 115 → b_X3_kindOf_43 post S a0 2))) ∧ (a0 = 97 → post 5 S))) ∧ (a0 = 100 → post 4 S))) ∧ (a0 = 119 → post 3 S))) ∧ (a0 = 114 → post 0 S))
set_option maxHeartbeats 4000000 in
set_option maxRecDepth 100000 in
theorem ct_X3_kindOf (l : Launch) (G : GP) (S : MS) (a0 : Int32) (post : Int32 → MS → Prop) (h : w_X3_kindOf S a0 post) : MetM l yX3_kindOf cX3_kindOf 1 (some .int) rm_X3_kindOf [.int a0] G S (pI_ post) := by
  refine met_of (by decide) (cat1_i cat1_n) (Nat.le_of_ble_eq_true rfl) ?_
  intro p e s m args below meth c X hr hlk hin
  revert h
  have g43 : ∀ (S : MS) (l0 : Int32) (s0 : Int32), b_X3_kindOf_43 post S l0 s0 → Gd p l e rm_X3_kindOf s m args below meth c 1 G (MQ below (QcM G (pI_ post)) args s rm_X3_kindOf.cells rm_X3_kindOf.slots (Ab G)) 0 0 S 43 [(0, .int l0)] [.int s0] := by
    intro S l0 s0 h
    exact (gd_ret_i (pc := 43) X hr hlk rfl (by decide) (by decide) dX3_kindOf_43 ⟨_, rfl, h⟩)
  intro h
  refine gd_iload_n (pc := 0) X 0 dX3_kindOf_0 rfl ?_
  refine gd_bipush (pc := 1) X (114) dX3_kindOf_1 (by decide) ?_
  refine gd_icmp_ne (pc := 3) X 8 dX3_kindOf_3 (by decide) (fun hc5 => ?_) (fun hc5 => ?_)
  · have h := h.1 hc5
    refine gd_iload_n (pc := 8) X 0 dX3_kindOf_8 rfl ?_
    refine gd_bipush (pc := 9) X (119) dX3_kindOf_9 (by decide) ?_
    refine gd_icmp_ne (pc := 11) X 16 dX3_kindOf_11 (by decide) (fun hc4 => ?_) (fun hc4 => ?_)
    · have h := h.1 hc4
      refine gd_iload_n (pc := 16) X 0 dX3_kindOf_16 rfl ?_
      refine gd_bipush (pc := 17) X (100) dX3_kindOf_17 (by decide) ?_
      refine gd_icmp_ne (pc := 19) X 24 dX3_kindOf_19 (by decide) (fun hc3 => ?_) (fun hc3 => ?_)
      · have h := h.1 hc3
        refine gd_iload_n (pc := 24) X 0 dX3_kindOf_24 rfl ?_
        refine gd_bipush (pc := 25) X (97) dX3_kindOf_25 (by decide) ?_
        refine gd_icmp_ne (pc := 27) X 32 dX3_kindOf_27 (by decide) (fun hc2 => ?_) (fun hc2 => ?_)
        · have h := h.1 hc2
          refine gd_iload_n (pc := 32) X 0 dX3_kindOf_32 rfl ?_
          refine gd_bipush (pc := 33) X (115) dX3_kindOf_33 (by decide) ?_
          refine gd_icmp_ne (pc := 35) X 42 dX3_kindOf_35 (by decide) (fun hc1 => ?_) (fun hc1 => ?_)
          · have h := h.1 hc1
            refine gd_iconst (pc := 42) X (-1) dX3_kindOf_42 (by decide) ?_
            exact g43 _ _ _ h
          · have h := h.2 hc1
            refine gd_iconst (pc := 38) X (2) dX3_kindOf_38 (by decide) ?_
            refine gd_goto (pc := 39) X 43 dX3_kindOf_39 (by decide) ?_
            exact g43 _ _ _ h
        · have h := h.2 hc2
          refine gd_iconst (pc := 30) X (5) dX3_kindOf_30 (by decide) ?_
          exact (gd_ret_i (pc := 31) X hr hlk rfl (by decide) (by decide) dX3_kindOf_31 ⟨_, rfl, h⟩)
      · have h := h.2 hc3
        refine gd_iconst (pc := 22) X (4) dX3_kindOf_22 (by decide) ?_
        exact (gd_ret_i (pc := 23) X hr hlk rfl (by decide) (by decide) dX3_kindOf_23 ⟨_, rfl, h⟩)
    · have h := h.2 hc4
      refine gd_iconst (pc := 14) X (3) dX3_kindOf_14 (by decide) ?_
      exact (gd_ret_i (pc := 15) X hr hlk rfl (by decide) (by decide) dX3_kindOf_15 ⟨_, rfl, h⟩)
  · have h := h.2 hc5
    refine gd_iconst (pc := 6) X (0) dX3_kindOf_6 (by decide) ?_
    exact (gd_ret_i (pc := 7) X hr hlk rfl (by decide) (by decide) dX3_kindOf_7 ⟨_, rfl, h⟩)
abbrev rm_X3_isDigit : Room := { frames := 0, cells := 0, slots := 0, locals := 0 }
def b_X3_isDigit_17 (post : Int32 → MS → Prop) (S : MS) (l0 : Int32) (s0 : Int32) : Prop := narrow .boolean (.int s0) = .int s0 ∧ post s0 S
def b_X3_isDigit_16 (post : Int32 → MS → Prop) (S : MS) (l0 : Int32) : Prop := b_X3_isDigit_17 post S l0 0
def w_X3_isDigit (S : MS) (a0 : Int32) (post : Int32 → MS → Prop) : Prop := ((a0 < 48 → b_X3_isDigit_16 post S a0) ∧ (¬ a0 < 48 → ((57 < a0 → b_X3_isDigit_16 post S a0) ∧ (¬ 57 < a0 → b_X3_isDigit_17 post S a0 1))))
set_option maxHeartbeats 4000000 in
set_option maxRecDepth 100000 in
theorem ct_X3_isDigit (l : Launch) (G : GP) (S : MS) (a0 : Int32) (post : Int32 → MS → Prop) (h : w_X3_isDigit S a0 post) : MetM l yX3_isDigit cX3_isDigit 1 (some .boolean) rm_X3_isDigit [.int a0] G S (pI_ post) := by
  refine met_of (by decide) (cat1_i cat1_n) (Nat.le_of_ble_eq_true rfl) ?_
  intro p e s m args below meth c X hr hlk hin
  revert h
  have g17 : ∀ (S : MS) (l0 : Int32) (s0 : Int32), b_X3_isDigit_17 post S l0 s0 → Gd p l e rm_X3_isDigit s m args below meth c 1 G (MQ below (QcM G (pI_ post)) args s rm_X3_isDigit.cells rm_X3_isDigit.slots (Ab G)) 0 0 S 17 [(0, .int l0)] [.int s0] := by
    intro S l0 s0 h
    obtain ⟨hnz, h⟩ := h
    exact (gd_ret_i (pc := 17) X hr hlk hnz (by decide) (by decide) dX3_isDigit_17 ⟨_, rfl, h⟩)
  have g16 : ∀ (S : MS) (l0 : Int32), b_X3_isDigit_16 post S l0 → Gd p l e rm_X3_isDigit s m args below meth c 1 G (MQ below (QcM G (pI_ post)) args s rm_X3_isDigit.cells rm_X3_isDigit.slots (Ab G)) 0 0 S 16 [(0, .int l0)] [] := by
    intro S l0 h
    refine gd_iconst (pc := 16) X (0) dX3_isDigit_16 (by decide) ?_
    exact g17 _ _ _ h
  intro h
  refine gd_iload_n (pc := 0) X 0 dX3_isDigit_0 rfl ?_
  refine gd_bipush (pc := 1) X (48) dX3_isDigit_1 (by decide) ?_
  refine gd_icmp_lt (pc := 3) X 16 dX3_isDigit_3 (by decide) (fun hc2 => ?_) (fun hc2 => ?_)
  · have h := h.1 hc2
    exact g16 _ _ h
  · have h := h.2 hc2
    refine gd_iload_n (pc := 6) X 0 dX3_isDigit_6 rfl ?_
    refine gd_bipush (pc := 7) X (57) dX3_isDigit_7 (by decide) ?_
    refine gd_icmp_gt (pc := 9) X 16 dX3_isDigit_9 (by decide) (fun hc1 => ?_) (fun hc1 => ?_)
    · have h := h.1 hc1
      exact g16 _ _ h
    · have h := h.2 hc1
      refine gd_iconst (pc := 12) X (1) dX3_isDigit_12 (by decide) ?_
      refine gd_goto (pc := 13) X 17 dX3_isDigit_13 (by decide) ?_
      exact g17 _ _ _ h
