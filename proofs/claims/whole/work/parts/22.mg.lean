abbrev rm_X6_digits : Room := { frames := 2, cells := 0, slots := 0, locals := 42 }
def b_X6_digits_74 (post : Int32 → MS → Prop) (S : MS) (l0 : Nat) (l1 : Int32) (l2 : Int32) (l3 : Int32) (l4 : Int32) : Prop := post l3 S
def b_X6_digits_16 (post : Int32 → MS → Prop) : Nat → MS → Nat → Int32 → Int32 → Int32 → Int32 → Prop
  | 0 => fun _ _ _ _ _ _ => False
  | f + 1 => fun S l0 l1 l2 l3 l4 => ((l1 ≤ l4 → b_X6_digits_74 post S l0 l1 l2 l3 l4) ∧ (¬ l1 ≤ l4 → kT S l0 = 7 ∧ w_X6_isDigit S l0 (fun r3 S2 => ((r3 = 0 → b_X6_digits_74 post S2 l0 l1 l2 l3 l4) ∧ (¬ r3 = 0 → kT S2 l0 = 7 ∧ w_X6_sign S2 l0 (fun r6 S5 => ((l2 < (((10 * l3) + r6) - 48) → b_X6_digits_74 post S5 l0 l1 l2 l3 l4) ∧ (¬ l2 < (((10 * l3) + r6) - 48) → kT S5 l0 = 7 ∧ w_X6_sign S5 l0 (fun r9 S8 => ∀ v10 : Int32, v10 = ((10 * l3) + r9) - 48 → kT S8 l0 = 7 ∧ ∀ S12 : MS, S12 = pI S8 l0 27 ((sI S8 l0 27) + 1) → ∀ v14 : Int32, v14 = l4 + 1 → b_X6_digits_16 post f S12 l0 l1 l2 v10 v14)))))))))
def b_X6_digits_11 (post : Int32 → MS → Prop) (S : MS) (l0 : Nat) (l1 : Int32) (l2 : Int32) : Prop := ∃ f16, b_X6_digits_16 post f16 S l0 l1 l2 0 0
def w_X6_digits (S : MS) (a0 : Nat) (a1 : Int32) (a2 : Int32) (post : Int32 → MS → Prop) : Prop := kT S a0 = 7 ∧ w_X6_isDigit S a0 (fun r3 S2 => ((¬ r3 = 0 → b_X6_digits_11 post S2 a0 a1 a2) ∧ (r3 = 0 → kT S2 a0 = 7 ∧ w_X6_fault S2 a0 (fun S5 => b_X6_digits_11 post S5 a0 a1 a2))))
set_option maxHeartbeats 4000000 in
set_option maxRecDepth 100000 in
theorem ct_X6_digits (l : Launch) (G : GP) (S : MS) (a0 : Nat) (a1 : Int32) (a2 : Int32) (post : Int32 → MS → Prop) (h : w_X6_digits S a0 a1 a2 post) : MetM l yX6_digits cX6_digits 5 (some .int) rm_X6_digits [rf a0, .int a1, .int a2] G S (pI_ post) := by
  refine met_of (by decide) (cat1_r (cat1_i (cat1_i cat1_n))) (Nat.le_of_ble_eq_true rfl) ?_
  intro p e s m args below meth c X hr hlk hin
  revert h
  have g74 : ∀ (S : MS) (l0 : Nat) (l1 : Int32) (l2 : Int32) (l3 : Int32) (l4 : Int32), b_X6_digits_74 post S l0 l1 l2 l3 l4 → Gd p l e rm_X6_digits s m args below meth c 5 G (MQ below (QcM G (pI_ post)) args s rm_X6_digits.cells rm_X6_digits.slots (Ab G)) 0 0 S 74 [(0, rf l0), (1, .int l1), (2, .int l2), (3, .int l3), (4, .int l4)] [] := by
    intro S l0 l1 l2 l3 l4 h
    refine gd_iload_n (pc := 74) X 3 dX6_digits_74 rfl ?_
    exact (gd_ret_i (pc := 75) X hr hlk rfl (by decide) (by decide) dX6_digits_75 ⟨_, rfl, h⟩)
  have g16 : ∀ (f : Nat) (S : MS) (l0 : Nat) (l1 : Int32) (l2 : Int32) (l3 : Int32) (l4 : Int32), b_X6_digits_16 post f S l0 l1 l2 l3 l4 → Gd p l e rm_X6_digits s m args below meth c 5 G (MQ below (QcM G (pI_ post)) args s rm_X6_digits.cells rm_X6_digits.slots (Ab G)) 0 0 S 16 [(0, rf l0), (1, .int l1), (2, .int l2), (3, .int l3), (4, .int l4)] [] := by
    intro f
    induction f with
    | zero => intro S l0 l1 l2 l3 l4 h; exact h.elim
    | succ f ih =>
      intro S l0 l1 l2 l3 l4 h
      refine gd_iload (pc := 16) X 4 dX6_digits_16 rfl ?_
      refine gd_iload_n (pc := 18) X 1 dX6_digits_18 rfl ?_
      refine gd_icmp_ge (pc := 19) X 74 dX6_digits_19 (by decide) (fun hc17 => ?_) (fun hc17 => ?_)
      · have h := h.1 hc17
        exact g74 _ _ _ _ _ _ h
      · have h := h.2 hc17
        refine gd_aload_n (pc := 22) X 0 dX6_digits_22 rfl ?_
        obtain ⟨hk1, h⟩ := h
        refine gd_callV (pc := 23) (As := []) (rest := []) X (ct_X6_isDigit l G S l0 _ h) mw_X6_isDigit tw_1408 ci6 rfl hk1 ⟨(Nat.le_of_ble_eq_true rfl), (Nat.le_of_ble_eq_true rfl)⟩ rfl rfl (Nat.le_of_ble_eq_true rfl) dX6_digits_23 ⟨Nat.le_of_ble_eq_true rfl, Nat.le_of_ble_eq_true rfl⟩ (kI (fun r3 S2 h => ?_))
        refine gd_wide (k2 := 0) (j2 := 0) (Nat.le_of_ble_eq_true rfl) (Nat.le_of_ble_eq_true rfl) ?_
        refine gd_if_eq (pc := 26) X 74 dX6_digits_26 (by decide) (fun hc16 => ?_) (fun hc16 => ?_)
        · have h := h.1 hc16
          exact g74 _ _ _ _ _ _ h
        · have h := h.2 hc16
          refine gd_bipush (pc := 29) X (10) dX6_digits_29 (by decide) ?_
          refine gd_iload_n (pc := 31) X 3 dX6_digits_31 rfl ?_
          refine gd_imul (pc := 32) X dX6_digits_32 ?_
          refine gd_aload_n (pc := 33) X 0 dX6_digits_33 rfl ?_
          obtain ⟨hk4, h⟩ := h
          refine gd_callV (pc := 34) (As := []) (rest := [.int (10 * l3)]) X (ct_X6_sign l G S2 l0 _ h) mw_X6_sign tw_1392 ci6 rfl hk4 ⟨(Nat.le_of_ble_eq_true rfl), (Nat.le_of_ble_eq_true rfl)⟩ rfl rfl (Nat.le_of_ble_eq_true rfl) dX6_digits_34 ⟨Nat.le_of_ble_eq_true rfl, Nat.le_of_ble_eq_true rfl⟩ (kI (fun r6 S5 h => ?_))
          refine gd_wide (k2 := 0) (j2 := 0) (Nat.le_of_ble_eq_true rfl) (Nat.le_of_ble_eq_true rfl) ?_
          refine gd_iadd (pc := 37) X dX6_digits_37 ?_
          refine gd_bipush (pc := 38) X (48) dX6_digits_38 (by decide) ?_
          refine gd_isub (pc := 40) X dX6_digits_40 ?_
          refine gd_iload_n (pc := 41) X 2 dX6_digits_41 rfl ?_
          refine gd_icmp_gt (pc := 42) X 74 dX6_digits_42 (by decide) (fun hc15 => ?_) (fun hc15 => ?_)
          · have h := h.1 hc15
            exact g74 _ _ _ _ _ _ h
          · have h := h.2 hc15
            refine gd_bipush (pc := 45) X (10) dX6_digits_45 (by decide) ?_
            refine gd_iload_n (pc := 47) X 3 dX6_digits_47 rfl ?_
            refine gd_imul (pc := 48) X dX6_digits_48 ?_
            refine gd_aload_n (pc := 49) X 0 dX6_digits_49 rfl ?_
            obtain ⟨hk7, h⟩ := h
            refine gd_callV (pc := 50) (As := []) (rest := [.int (10 * l3)]) X (ct_X6_sign l G S5 l0 _ h) mw_X6_sign tw_1392 ci6 rfl hk7 ⟨(Nat.le_of_ble_eq_true rfl), (Nat.le_of_ble_eq_true rfl)⟩ rfl rfl (Nat.le_of_ble_eq_true rfl) dX6_digits_50 ⟨Nat.le_of_ble_eq_true rfl, Nat.le_of_ble_eq_true rfl⟩ (kI (fun r9 S8 h => ?_))
            refine gd_wide (k2 := 0) (j2 := 0) (Nat.le_of_ble_eq_true rfl) (Nat.le_of_ble_eq_true rfl) ?_
            refine gd_iadd (pc := 53) X dX6_digits_53 ?_
            refine gd_bipush (pc := 54) X (48) dX6_digits_54 (by decide) ?_
            refine gd_isub (pc := 56) X dX6_digits_56 ?_
            refine gd_topI (fun v10 hv10 => ?_)
            have h := h v10 hv10
            refine gd_istore_n (pc := 57) X dX6_digits_57 (by decide) (E2 := [(3, .int v10), (0, rf l0), (1, .int l1), (2, .int l2), (4, .int l4)]) rfl ?_
            refine gd_aload_n (pc := 58) X 1 dX6_digits_58 rfl ?_
            refine gd_dupR (pc := 59) X dX6_digits_59 ?_
            obtain ⟨hk11, h⟩ := h
            refine gd_getI (pc := 60) (kf := 27) X ci6 (by decide) rfl tw_1010 dX6_digits_60 hk11 ?_
            refine gd_iconst (pc := 63) X (1) dX6_digits_63 (by decide) ?_
            refine gd_iadd (pc := 64) X dX6_digits_64 ?_
            refine gd_putI (pc := 65) (kf := 27) X ci6 (by decide) rfl rfl tw_1010 rfl rfl dX6_digits_65 hk11 ?_
            refine gd_topS (fun S12 hS12 => ?_)
            have h := h S12 hS12
            have hk13 : kT S12 l0 = 7 := by rw [hS12]; exact hk11
            obtain ⟨v14, hv14⟩ : ∃ z : Int32, z = l4 + 1 := ⟨_, rfl⟩
            have h := h v14 hv14
            refine gd_iinc (pc := 68) (v := v14) X 4 dX6_digits_68 rfl (by rw [hv14]; rfl) (by decide) (E2 := [(4, .int v14), (3, .int v10), (0, rf l0), (1, .int l1), (2, .int l2)]) rfl ?_
            refine gd_goto (pc := 71) X 16 dX6_digits_71 (by decide) ?_
            refine gd_sub [2, 3, 4, 1, 0] rfl ?_
            exact ih _ _ _ _ _ _ h
  have g11 : ∀ (S : MS) (l0 : Nat) (l1 : Int32) (l2 : Int32), b_X6_digits_11 post S l0 l1 l2 → Gd p l e rm_X6_digits s m args below meth c 5 G (MQ below (QcM G (pI_ post)) args s rm_X6_digits.cells rm_X6_digits.slots (Ab G)) 0 0 S 11 [(0, rf l0), (1, .int l1), (2, .int l2)] [] := by
    intro S l0 l1 l2 h
    refine gd_iconst (pc := 11) X (0) dX6_digits_11 (by decide) ?_
    refine gd_istore_n (pc := 12) X dX6_digits_12 (by decide) (E2 := [(3, .int 0), (0, rf l0), (1, .int l1), (2, .int l2)]) rfl ?_
    refine gd_iconst (pc := 13) X (0) dX6_digits_13 (by decide) ?_
    refine gd_istore (pc := 14) X dX6_digits_14 (by decide) (E2 := [(4, .int 0), (3, .int 0), (0, rf l0), (1, .int l1), (2, .int l2)]) rfl ?_
    refine gd_sub [2, 3, 4, 1, 0] rfl ?_
    obtain ⟨f16, h⟩ := h
    exact g16 f16 _ _ _ _ _ _ h
  intro h
  refine gd_aload_n (pc := 0) X 0 dX6_digits_0 rfl ?_
  obtain ⟨hk1, h⟩ := h
  refine gd_callV (pc := 1) (As := []) (rest := []) X (ct_X6_isDigit l G S a0 _ h) mw_X6_isDigit tw_1408 ci6 rfl hk1 ⟨(Nat.le_of_ble_eq_true rfl), (Nat.le_of_ble_eq_true rfl)⟩ rfl rfl (Nat.le_of_ble_eq_true rfl) dX6_digits_1 ⟨Nat.le_of_ble_eq_true rfl, Nat.le_of_ble_eq_true rfl⟩ (kI (fun r3 S2 h => ?_))
  refine gd_wide (k2 := 0) (j2 := 0) (Nat.le_of_ble_eq_true rfl) (Nat.le_of_ble_eq_true rfl) ?_
  refine gd_if_ne (pc := 4) X 11 dX6_digits_4 (by decide) (fun hc7 => ?_) (fun hc7 => ?_)
  · have h := h.1 hc7
    exact g11 _ _ _ _ h
  · have h := h.2 hc7
    refine gd_aload_n (pc := 7) X 0 dX6_digits_7 rfl ?_
    obtain ⟨hk4, h⟩ := h
    refine gd_callV (pc := 8) (As := []) (rest := []) X (ct_X6_fault l G S2 a0 _ h) mw_X6_fault tw_1396 ci6 rfl hk4 ⟨(Nat.le_of_ble_eq_true rfl), (Nat.le_of_ble_eq_true rfl)⟩ rfl rfl (Nat.le_of_ble_eq_true rfl) dX6_digits_8 ⟨Nat.le_of_ble_eq_true rfl, Nat.le_of_ble_eq_true rfl⟩ (kV (fun S5 h => ?_))
    refine gd_wide (k2 := 0) (j2 := 0) (Nat.le_of_ble_eq_true rfl) (Nat.le_of_ble_eq_true rfl) ?_
    exact g11 _ _ _ _ h
abbrev rm_X6_readKey : Room := { frames := 3, cells := 0, slots := 0, locals := 66 }
def w_X6_readKey (S : MS) (a0 : Nat) (post : Int32 → MS → Prop) : Prop := kT S a0 = 7 ∧ w_X6_digits S a0 2 31 (fun r3 S2 => post r3 S2)
set_option maxHeartbeats 4000000 in
set_option maxRecDepth 100000 in
theorem ct_X6_readKey (l : Launch) (G : GP) (S : MS) (a0 : Nat) (post : Int32 → MS → Prop) (h : w_X6_readKey S a0 post) : MetM l yX6_readKey cX6_readKey 1 (some .int) rm_X6_readKey [rf a0] G S (pI_ post) := by
  refine met_of (by decide) (cat1_r cat1_n) (Nat.le_of_ble_eq_true rfl) ?_
  intro p e s m args below meth c X hr hlk hin
  refine gd_aload_n (pc := 0) X 0 dX6_readKey_0 rfl ?_
  refine gd_iconst (pc := 1) X (2) dX6_readKey_1 (by decide) ?_
  refine gd_bipush (pc := 2) X (31) dX6_readKey_2 (by decide) ?_
  obtain ⟨hk1, h⟩ := h
  refine gd_callV (pc := 4) (As := [.int 2, .int 31]) (rest := []) X (ct_X6_digits l G S a0 2 31 _ h) mw_X6_digits tw_1404 ci6 rfl hk1 ⟨(Nat.le_of_ble_eq_true rfl), (Nat.le_of_ble_eq_true rfl)⟩ rfl rfl (Nat.le_of_ble_eq_true rfl) dX6_readKey_4 ⟨Nat.le_of_ble_eq_true rfl, Nat.le_of_ble_eq_true rfl⟩ (kI (fun r3 S2 h => ?_))
  refine gd_wide (k2 := 0) (j2 := 0) (Nat.le_of_ble_eq_true rfl) (Nat.le_of_ble_eq_true rfl) ?_
  exact (gd_ret_i (pc := 7) X hr hlk rfl (by decide) (by decide) dX6_readKey_7 ⟨_, rfl, h⟩)
abbrev rm_X6_readStep : Room := { frames := 4, cells := 0, slots := 0, locals := 86 }
def b_X6_readStep_233 (post : MS → Prop) (S : MS) (l0 : Nat) (l1 : Int32) (l2 : Int32) : Prop := kT S l0 = 7 ∧ ∀ S2 : MS, S2 = pI S l0 30 ((sI S l0 30) + 1) → post S2
def b_X6_readStep_189 (post : MS → Prop) (S : MS) (l0 : Nat) (l1 : Int32) (l2 : Int32) (l3 : Int32) : Prop := kT S l0 = 7 ∧ w_X6_digits S l0 3 999 (fun r3 S2 => kT S2 (sR S l0 29) = 9 ∧ vp_in (l1 + 2) (kL S2 (sR S l0 29)) ∧ ∀ S6 : MS, S6 = pI S2 (sR S l0 29) (ix (l1 + 2)) (l3 * r3) → b_X6_readStep_233 post S6 l0 l1 l2)
def b_X6_readStep_178 (post : MS → Prop) (S : MS) (l0 : Nat) (l1 : Int32) (l2 : Int32) (s0 : Int32) : Prop := ((0 ≤ s0 → b_X6_readStep_189 post S l0 l1 l2 s0) ∧ (¬ 0 ≤ s0 → kT S l0 = 7 ∧ w_X6_expect S l0 45 (fun S2 => b_X6_readStep_189 post S2 l0 l1 l2 s0)))
def b_X6_readStep_137 (post : MS → Prop) (S : MS) (l0 : Nat) (l1 : Int32) (l2 : Int32) (s0 : Int32) : Prop := kT S l0 = 7 ∧ w_X6_digits S l0 3 999 (fun r3 S2 => kT S2 (sR S l0 29) = 9 ∧ vp_in (l1 + 2) (kL S2 (sR S l0 29)) ∧ ∀ S6 : MS, S6 = pI S2 (sR S l0 29) (ix (l1 + 2)) (s0 * r3) → b_X6_readStep_233 post S6 l0 l1 l2)
def b_X6_readStep_73 (post : MS → Prop) (S : MS) (l0 : Nat) (l1 : Int32) (s0 : Int32) : Prop := ((¬ s0 = ((-1)) → kT S l0 = 7 ∧ kT S (sR S l0 29) = 9 ∧ vp_in l1 (kL S (sR S l0 29)) ∧ ∀ S4 : MS, S4 = pI S (sR S l0 29) (ix l1) s0 → w_X6_readKey S4 l0 (fun r8 S7 => kT S7 (sR S4 l0 29) = 9 ∧ vp_in (l1 + 1) (kL S7 (sR S4 l0 29)) ∧ ∀ S11 : MS, S11 = pI S7 (sR S4 l0 29) (ix (l1 + 1)) r8 → kT S11 l0 = 7 ∧ kT S11 (sR S11 l0 29) = 9 ∧ vp_in (l1 + 2) (kL S11 (sR S11 l0 29)) ∧ ∀ S16 : MS, S16 = pI S11 (sR S11 l0 29) (ix (l1 + 2)) 0 → ((¬ s0 = 3 → ((¬ s0 = 5 → ((¬ s0 = 2 → b_X6_readStep_233 post S16 l0 l1 s0) ∧ (s0 = 2 → w_X6_expect S16 l0 45 (fun S20 => kT S20 l0 = 7 ∧ w_X6_readKey S20 l0 (fun r24 S23 => kT S23 (sR S20 l0 29) = 9 ∧ vp_in (l1 + 2) (kL S23 (sR S20 l0 29)) ∧ ∀ S27 : MS, S27 = pI S23 (sR S20 l0 29) (ix (l1 + 2)) r24 → b_X6_readStep_233 post S27 l0 l1 s0))))) ∧ (s0 = 5 → w_X6_goes S16 l0 43 (fun r31 S30 => ((r31 = 0 → b_X6_readStep_178 post S30 l0 l1 s0 ((-1))) ∧ (¬ r31 = 0 → b_X6_readStep_178 post S30 l0 l1 s0 1)))))) ∧ (s0 = 3 → w_X6_expect S16 l0 61 (fun S34 => kT S34 l0 = 7 ∧ w_X6_goes S34 l0 45 (fun r38 S37 => ((r38 = 0 → b_X6_readStep_137 post S37 l0 l1 s0 1) ∧ (¬ r38 = 0 → b_X6_readStep_137 post S37 l0 l1 s0 ((-1)))))))))) ∧ (s0 = ((-1)) → kT S l0 = 7 ∧ w_X6_fault S l0 (fun S42 => post S42)))
def w_X6_readStep (S : MS) (a0 : Nat) (post : MS → Prop) : Prop := kT S a0 = 7 ∧ ∀ v2 : Int32, v2 = 3 * (sI S a0 30) → w_X6_goes S a0 114 (fun r4 S3 => ((r4 = 0 → kT S3 a0 = 7 ∧ w_X6_goes S3 a0 119 (fun r7 S6 => ((r7 = 0 → kT S6 a0 = 7 ∧ w_X6_goes S6 a0 100 (fun r10 S9 => ((r10 = 0 → kT S9 a0 = 7 ∧ w_X6_goes S9 a0 97 (fun r13 S12 => ((r13 = 0 → kT S12 a0 = 7 ∧ w_X6_goes S12 a0 115 (fun r16 S15 => ((r16 = 0 → b_X6_readStep_73 post S15 a0 v2 ((-1))) ∧ (¬ r16 = 0 → b_X6_readStep_73 post S15 a0 v2 2)))) ∧ (¬ r13 = 0 → b_X6_readStep_73 post S12 a0 v2 5)))) ∧ (¬ r10 = 0 → b_X6_readStep_73 post S9 a0 v2 4)))) ∧ (¬ r7 = 0 → b_X6_readStep_73 post S6 a0 v2 3)))) ∧ (¬ r4 = 0 → b_X6_readStep_73 post S3 a0 v2 0)))
set_option maxHeartbeats 4000000 in
set_option maxRecDepth 100000 in
theorem ct_X6_readStep (l : Launch) (G : GP) (S : MS) (a0 : Nat) (post : MS → Prop) (h : w_X6_readStep S a0 post) : MetM l yX6_readStep cX6_readStep 4 none rm_X6_readStep [rf a0] G S (pV_ post) := by
  refine met_of (by decide) (cat1_r cat1_n) (Nat.le_of_ble_eq_true rfl) ?_
  intro p e s m args below meth c X hr hlk hin
  revert h
  have g233 : ∀ (S : MS) (l0 : Nat) (l1 : Int32) (l2 : Int32), b_X6_readStep_233 post S l0 l1 l2 → Gd p l e rm_X6_readStep s m args below meth c 4 G (MQ below (QcM G (pV_ post)) args s rm_X6_readStep.cells rm_X6_readStep.slots (Ab G)) 0 0 S 233 [(0, rf l0), (1, .int l1), (2, .int l2)] [] := by
    intro S l0 l1 l2 h
    refine gd_aload_n (pc := 233) X 0 dX6_readStep_233 rfl ?_
    refine gd_dupR (pc := 234) X dX6_readStep_234 ?_
    obtain ⟨hk1, h⟩ := h
    refine gd_getI (pc := 235) (kf := 30) X ci6 (by decide) rfl tw_1013 dX6_readStep_235 hk1 ?_
    refine gd_iconst (pc := 238) X (1) dX6_readStep_238 (by decide) ?_
    refine gd_iadd (pc := 239) X dX6_readStep_239 ?_
    refine gd_putI (pc := 240) (kf := 30) X ci6 (by decide) rfl rfl tw_1013 rfl rfl dX6_readStep_240 hk1 ?_
    refine gd_topS (fun S2 hS2 => ?_)
    have h := h S2 hS2
    have hk3 : kT S2 l0 = 7 := by rw [hS2]; exact hk1
    exact (gd_ret_v (pc := 243) X hr hlk (by decide) (by decide) dX6_readStep_243 ⟨rfl, h⟩)
  have g189 : ∀ (S : MS) (l0 : Nat) (l1 : Int32) (l2 : Int32) (l3 : Int32), b_X6_readStep_189 post S l0 l1 l2 l3 → Gd p l e rm_X6_readStep s m args below meth c 4 G (MQ below (QcM G (pV_ post)) args s rm_X6_readStep.cells rm_X6_readStep.slots (Ab G)) 0 0 S 189 [(0, rf l0), (1, .int l1), (2, .int l2), (3, .int l3)] [] := by
    intro S l0 l1 l2 l3 h
    refine gd_aload_n (pc := 189) X 0 dX6_readStep_189 rfl ?_
    obtain ⟨hk1, h⟩ := h
    refine gd_getR (pc := 190) (kf := 29) X ci6 (by decide) rfl tw_1012 dX6_readStep_190 hk1 ?_
    refine gd_iload_n (pc := 193) X 1 dX6_readStep_193 rfl ?_
    refine gd_iconst (pc := 194) X (2) dX6_readStep_194 (by decide) ?_
    refine gd_iadd (pc := 195) X dX6_readStep_195 ?_
    refine gd_iload_n (pc := 196) X 3 dX6_readStep_196 rfl ?_
    refine gd_aload_n (pc := 197) X 0 dX6_readStep_197 rfl ?_
    refine gd_iconst (pc := 198) X (3) dX6_readStep_198 (by decide) ?_
    refine gd_sipush (pc := 199) X (999) dX6_readStep_199 (by decide) ?_
    refine gd_callV (pc := 202) (As := [.int 3, .int 999]) (rest := [.int l3, .int (l1 + 2), rf (sR S l0 29)]) X (ct_X6_digits l G S l0 3 999 _ h) mw_X6_digits tw_1404 ci6 rfl hk1 ⟨(Nat.le_of_ble_eq_true rfl), (Nat.le_of_ble_eq_true rfl)⟩ rfl rfl (Nat.le_of_ble_eq_true rfl) dX6_readStep_202 ⟨Nat.le_of_ble_eq_true rfl, Nat.le_of_ble_eq_true rfl⟩ (kI (fun r3 S2 h => ?_))
    refine gd_wide (k2 := 0) (j2 := 0) (Nat.le_of_ble_eq_true rfl) (Nat.le_of_ble_eq_true rfl) ?_
    refine gd_imul (pc := 205) X dX6_readStep_205 ?_
    obtain ⟨hk4, h⟩ := h
    obtain ⟨hi5, h⟩ := h
    refine gd_iast (pc := 206) X dX6_readStep_206 hk4 hi5 ?_
    refine gd_topS (fun S6 hS6 => ?_)
    have h := h S6 hS6
    have hk7 : kT S6 (sR S l0 29) = 9 := by rw [hS6]; exact hk4
    refine gd_goto (pc := 207) X 233 dX6_readStep_207 (by decide) ?_
    refine gd_sub [0, 1, 2] rfl ?_
    exact g233 _ _ _ _ h
  have g178 : ∀ (S : MS) (l0 : Nat) (l1 : Int32) (l2 : Int32) (s0 : Int32), b_X6_readStep_178 post S l0 l1 l2 s0 → Gd p l e rm_X6_readStep s m args below meth c 4 G (MQ below (QcM G (pV_ post)) args s rm_X6_readStep.cells rm_X6_readStep.slots (Ab G)) 0 0 S 178 [(0, rf l0), (1, .int l1), (2, .int l2)] [.int s0] := by
    intro S l0 l1 l2 s0 h
    refine gd_istore_n (pc := 178) X dX6_readStep_178 (by decide) (E2 := [(3, .int s0), (0, rf l0), (1, .int l1), (2, .int l2)]) rfl ?_
    refine gd_iload_n (pc := 179) X 0 dX6_readStep_179 rfl ?_
    refine gd_if_ge (pc := 180) X 189 dX6_readStep_180 (by decide) (fun hc4 => ?_) (fun hc4 => ?_)
    · have h := h.1 hc4
      refine gd_sub [1, 2, 3, 0] rfl ?_
      exact g189 _ _ _ _ _ h
    · have h := h.2 hc4
      refine gd_aload_n (pc := 183) X 1 dX6_readStep_183 rfl ?_
      refine gd_bipush (pc := 184) X (45) dX6_readStep_184 (by decide) ?_
      obtain ⟨hk1, h⟩ := h
      refine gd_callV (pc := 186) (As := [.int 45]) (rest := []) X (ct_X6_expect l G S l0 45 _ h) mw_X6_expect tw_1412 ci6 rfl hk1 ⟨(Nat.le_of_ble_eq_true rfl), (Nat.le_of_ble_eq_true rfl)⟩ rfl rfl (Nat.le_of_ble_eq_true rfl) dX6_readStep_186 ⟨Nat.le_of_ble_eq_true rfl, Nat.le_of_ble_eq_true rfl⟩ (kV (fun S2 h => ?_))
      refine gd_wide (k2 := 0) (j2 := 0) (Nat.le_of_ble_eq_true rfl) (Nat.le_of_ble_eq_true rfl) ?_
      refine gd_sub [1, 2, 3, 0] rfl ?_
      exact g189 _ _ _ _ _ h
  have g137 : ∀ (S : MS) (l0 : Nat) (l1 : Int32) (l2 : Int32) (s0 : Int32), b_X6_readStep_137 post S l0 l1 l2 s0 → Gd p l e rm_X6_readStep s m args below meth c 4 G (MQ below (QcM G (pV_ post)) args s rm_X6_readStep.cells rm_X6_readStep.slots (Ab G)) 0 0 S 137 [(0, rf l0), (1, .int l1), (2, .int l2)] [.int s0] := by
    intro S l0 l1 l2 s0 h
    refine gd_istore_n (pc := 137) X dX6_readStep_137 (by decide) (E2 := [(3, .int s0), (0, rf l0), (1, .int l1), (2, .int l2)]) rfl ?_
    refine gd_aload_n (pc := 138) X 1 dX6_readStep_138 rfl ?_
    obtain ⟨hk1, h⟩ := h
    refine gd_getR (pc := 139) (kf := 29) X ci6 (by decide) rfl tw_1012 dX6_readStep_139 hk1 ?_
    refine gd_iload_n (pc := 142) X 2 dX6_readStep_142 rfl ?_
    refine gd_iconst (pc := 143) X (2) dX6_readStep_143 (by decide) ?_
    refine gd_iadd (pc := 144) X dX6_readStep_144 ?_
    refine gd_iload_n (pc := 145) X 0 dX6_readStep_145 rfl ?_
    refine gd_aload_n (pc := 146) X 1 dX6_readStep_146 rfl ?_
    refine gd_iconst (pc := 147) X (3) dX6_readStep_147 (by decide) ?_
    refine gd_sipush (pc := 148) X (999) dX6_readStep_148 (by decide) ?_
    refine gd_callV (pc := 151) (As := [.int 3, .int 999]) (rest := [.int s0, .int (l1 + 2), rf (sR S l0 29)]) X (ct_X6_digits l G S l0 3 999 _ h) mw_X6_digits tw_1404 ci6 rfl hk1 ⟨(Nat.le_of_ble_eq_true rfl), (Nat.le_of_ble_eq_true rfl)⟩ rfl rfl (Nat.le_of_ble_eq_true rfl) dX6_readStep_151 ⟨Nat.le_of_ble_eq_true rfl, Nat.le_of_ble_eq_true rfl⟩ (kI (fun r3 S2 h => ?_))
    refine gd_wide (k2 := 0) (j2 := 0) (Nat.le_of_ble_eq_true rfl) (Nat.le_of_ble_eq_true rfl) ?_
    refine gd_imul (pc := 154) X dX6_readStep_154 ?_
    obtain ⟨hk4, h⟩ := h
    obtain ⟨hi5, h⟩ := h
    refine gd_iast (pc := 155) X dX6_readStep_155 hk4 hi5 ?_
    refine gd_topS (fun S6 hS6 => ?_)
    have h := h S6 hS6
    have hk7 : kT S6 (sR S l0 29) = 9 := by rw [hS6]; exact hk4
    refine gd_goto (pc := 156) X 233 dX6_readStep_156 (by decide) ?_
    refine gd_sub [1, 2, 3] rfl ?_
    exact g233 _ _ _ _ h
  have g73 : ∀ (S : MS) (l0 : Nat) (l1 : Int32) (s0 : Int32), b_X6_readStep_73 post S l0 l1 s0 → Gd p l e rm_X6_readStep s m args below meth c 4 G (MQ below (QcM G (pV_ post)) args s rm_X6_readStep.cells rm_X6_readStep.slots (Ab G)) 0 0 S 73 [(0, rf l0), (1, .int l1)] [.int s0] := by
    intro S l0 l1 s0 h
    refine gd_istore_n (pc := 73) X dX6_readStep_73 (by decide) (E2 := [(2, .int s0), (0, rf l0), (1, .int l1)]) rfl ?_
    refine gd_iload_n (pc := 74) X 0 dX6_readStep_74 rfl ?_
    refine gd_iconst (pc := 75) X (-1) dX6_readStep_75 (by decide) ?_
    refine gd_icmp_ne (pc := 76) X 84 dX6_readStep_76 (by decide) (fun hc44 => ?_) (fun hc44 => ?_)
    · have h := h.1 hc44
      refine gd_aload_n (pc := 84) X 1 dX6_readStep_84 rfl ?_
      obtain ⟨hk1, h⟩ := h
      refine gd_getR (pc := 85) (kf := 29) X ci6 (by decide) rfl tw_1012 dX6_readStep_85 hk1 ?_
      refine gd_iload_n (pc := 88) X 2 dX6_readStep_88 rfl ?_
      refine gd_iload_n (pc := 89) X 0 dX6_readStep_89 rfl ?_
      obtain ⟨hk2, h⟩ := h
      obtain ⟨hi3, h⟩ := h
      refine gd_iast (pc := 90) X dX6_readStep_90 hk2 hi3 ?_
      refine gd_topS (fun S4 hS4 => ?_)
      have h := h S4 hS4
      have hk5 : kT S4 l0 = 7 := by rw [hS4]; exact hk1
      have hk6 : kT S4 (sR S l0 29) = 9 := by rw [hS4]; exact hk2
      refine gd_aload_n (pc := 91) X 1 dX6_readStep_91 rfl ?_
      refine gd_getR (pc := 92) (kf := 29) X ci6 (by decide) rfl tw_1012 dX6_readStep_92 hk5 ?_
      refine gd_iload_n (pc := 95) X 2 dX6_readStep_95 rfl ?_
      refine gd_iconst (pc := 96) X (1) dX6_readStep_96 (by decide) ?_
      refine gd_iadd (pc := 97) X dX6_readStep_97 ?_
      refine gd_aload_n (pc := 98) X 1 dX6_readStep_98 rfl ?_
      refine gd_callV (pc := 99) (As := []) (rest := [.int (l1 + 1), rf (sR S4 l0 29)]) X (ct_X6_readKey l G S4 l0 _ h) mw_X6_readKey tw_1400 ci6 rfl hk5 ⟨(Nat.le_of_ble_eq_true rfl), (Nat.le_of_ble_eq_true rfl)⟩ rfl rfl (Nat.le_of_ble_eq_true rfl) dX6_readStep_99 ⟨Nat.le_of_ble_eq_true rfl, Nat.le_of_ble_eq_true rfl⟩ (kI (fun r8 S7 h => ?_))
      refine gd_wide (k2 := 0) (j2 := 0) (Nat.le_of_ble_eq_true rfl) (Nat.le_of_ble_eq_true rfl) ?_
      obtain ⟨hk9, h⟩ := h
      obtain ⟨hi10, h⟩ := h
      refine gd_iast (pc := 102) X dX6_readStep_102 hk9 hi10 ?_
      refine gd_topS (fun S11 hS11 => ?_)
      have h := h S11 hS11
      have hk12 : kT S11 (sR S4 l0 29) = 9 := by rw [hS11]; exact hk9
      refine gd_aload_n (pc := 103) X 1 dX6_readStep_103 rfl ?_
      obtain ⟨hk13, h⟩ := h
      refine gd_getR (pc := 104) (kf := 29) X ci6 (by decide) rfl tw_1012 dX6_readStep_104 hk13 ?_
      refine gd_iload_n (pc := 107) X 2 dX6_readStep_107 rfl ?_
      refine gd_iconst (pc := 108) X (2) dX6_readStep_108 (by decide) ?_
      refine gd_iadd (pc := 109) X dX6_readStep_109 ?_
      refine gd_iconst (pc := 110) X (0) dX6_readStep_110 (by decide) ?_
      obtain ⟨hk14, h⟩ := h
      obtain ⟨hi15, h⟩ := h
      refine gd_iast (pc := 111) X dX6_readStep_111 hk14 hi15 ?_
      refine gd_topS (fun S16 hS16 => ?_)
      have h := h S16 hS16
      have hk17 : kT S16 (sR S4 l0 29) = 9 := by rw [hS16]; exact hk12
      have hk18 : kT S16 l0 = 7 := by rw [hS16]; exact hk13
      have hk19 : kT S16 (sR S11 l0 29) = 9 := by rw [hS16]; exact hk14
      refine gd_iload_n (pc := 112) X 0 dX6_readStep_112 rfl ?_
      refine gd_iconst (pc := 113) X (3) dX6_readStep_113 (by decide) ?_
      refine gd_icmp_ne (pc := 114) X 159 dX6_readStep_114 (by decide) (fun hc40 => ?_) (fun hc40 => ?_)
      · have h := h.1 hc40
        refine gd_iload_n (pc := 159) X 0 dX6_readStep_159 rfl ?_
        refine gd_iconst (pc := 160) X (5) dX6_readStep_160 (by decide) ?_
        refine gd_icmp_ne (pc := 161) X 210 dX6_readStep_161 (by decide) (fun hc33 => ?_) (fun hc33 => ?_)
        · have h := h.1 hc33
          refine gd_iload_n (pc := 210) X 0 dX6_readStep_210 rfl ?_
          refine gd_iconst (pc := 211) X (2) dX6_readStep_211 (by decide) ?_
          refine gd_icmp_ne (pc := 212) X 233 dX6_readStep_212 (by decide) (fun hc29 => ?_) (fun hc29 => ?_)
          · have h := h.1 hc29
            refine gd_sub [1, 2, 0] rfl ?_
            exact g233 _ _ _ _ h
          · have h := h.2 hc29
            refine gd_aload_n (pc := 215) X 1 dX6_readStep_215 rfl ?_
            refine gd_bipush (pc := 216) X (45) dX6_readStep_216 (by decide) ?_
            refine gd_callV (pc := 218) (As := [.int 45]) (rest := []) X (ct_X6_expect l G S16 l0 45 _ h) mw_X6_expect tw_1412 ci6 rfl hk18 ⟨(Nat.le_of_ble_eq_true rfl), (Nat.le_of_ble_eq_true rfl)⟩ rfl rfl (Nat.le_of_ble_eq_true rfl) dX6_readStep_218 ⟨Nat.le_of_ble_eq_true rfl, Nat.le_of_ble_eq_true rfl⟩ (kV (fun S20 h => ?_))
            refine gd_wide (k2 := 0) (j2 := 0) (Nat.le_of_ble_eq_true rfl) (Nat.le_of_ble_eq_true rfl) ?_
            refine gd_aload_n (pc := 221) X 1 dX6_readStep_221 rfl ?_
            obtain ⟨hk22, h⟩ := h
            refine gd_getR (pc := 222) (kf := 29) X ci6 (by decide) rfl tw_1012 dX6_readStep_222 hk22 ?_
            refine gd_iload_n (pc := 225) X 2 dX6_readStep_225 rfl ?_
            refine gd_iconst (pc := 226) X (2) dX6_readStep_226 (by decide) ?_
            refine gd_iadd (pc := 227) X dX6_readStep_227 ?_
            refine gd_aload_n (pc := 228) X 1 dX6_readStep_228 rfl ?_
            refine gd_callV (pc := 229) (As := []) (rest := [.int (l1 + 2), rf (sR S20 l0 29)]) X (ct_X6_readKey l G S20 l0 _ h) mw_X6_readKey tw_1400 ci6 rfl hk22 ⟨(Nat.le_of_ble_eq_true rfl), (Nat.le_of_ble_eq_true rfl)⟩ rfl rfl (Nat.le_of_ble_eq_true rfl) dX6_readStep_229 ⟨Nat.le_of_ble_eq_true rfl, Nat.le_of_ble_eq_true rfl⟩ (kI (fun r24 S23 h => ?_))
            refine gd_wide (k2 := 0) (j2 := 0) (Nat.le_of_ble_eq_true rfl) (Nat.le_of_ble_eq_true rfl) ?_
            obtain ⟨hk25, h⟩ := h
            obtain ⟨hi26, h⟩ := h
            refine gd_iast (pc := 232) X dX6_readStep_232 hk25 hi26 ?_
            refine gd_topS (fun S27 hS27 => ?_)
            have h := h S27 hS27
            have hk28 : kT S27 (sR S20 l0 29) = 9 := by rw [hS27]; exact hk25
            refine gd_sub [1, 2, 0] rfl ?_
            exact g233 _ _ _ _ h
        · have h := h.2 hc33
          refine gd_aload_n (pc := 164) X 1 dX6_readStep_164 rfl ?_
          refine gd_bipush (pc := 165) X (43) dX6_readStep_165 (by decide) ?_
          refine gd_callV (pc := 167) (As := [.int 43]) (rest := []) X (ct_X6_goes l G S16 l0 43 _ h) mw_X6_goes tw_1388 ci6 rfl hk18 ⟨(Nat.le_of_ble_eq_true rfl), (Nat.le_of_ble_eq_true rfl)⟩ rfl rfl (Nat.le_of_ble_eq_true rfl) dX6_readStep_167 ⟨Nat.le_of_ble_eq_true rfl, Nat.le_of_ble_eq_true rfl⟩ (kI (fun r31 S30 h => ?_))
          refine gd_wide (k2 := 0) (j2 := 0) (Nat.le_of_ble_eq_true rfl) (Nat.le_of_ble_eq_true rfl) ?_
          refine gd_if_eq (pc := 170) X 177 dX6_readStep_170 (by decide) (fun hc32 => ?_) (fun hc32 => ?_)
          · have h := h.1 hc32
            refine gd_iconst (pc := 177) X (-1) dX6_readStep_177 (by decide) ?_
            refine gd_sub [1, 2, 0] rfl ?_
            exact g178 _ _ _ _ _ h
          · have h := h.2 hc32
            refine gd_iconst (pc := 173) X (1) dX6_readStep_173 (by decide) ?_
            refine gd_goto (pc := 174) X 178 dX6_readStep_174 (by decide) ?_
            refine gd_sub [1, 2, 0] rfl ?_
            exact g178 _ _ _ _ _ h
      · have h := h.2 hc40
        refine gd_aload_n (pc := 117) X 1 dX6_readStep_117 rfl ?_
        refine gd_bipush (pc := 118) X (61) dX6_readStep_118 (by decide) ?_
        refine gd_callV (pc := 120) (As := [.int 61]) (rest := []) X (ct_X6_expect l G S16 l0 61 _ h) mw_X6_expect tw_1412 ci6 rfl hk18 ⟨(Nat.le_of_ble_eq_true rfl), (Nat.le_of_ble_eq_true rfl)⟩ rfl rfl (Nat.le_of_ble_eq_true rfl) dX6_readStep_120 ⟨Nat.le_of_ble_eq_true rfl, Nat.le_of_ble_eq_true rfl⟩ (kV (fun S34 h => ?_))
        refine gd_wide (k2 := 0) (j2 := 0) (Nat.le_of_ble_eq_true rfl) (Nat.le_of_ble_eq_true rfl) ?_
        refine gd_aload_n (pc := 123) X 1 dX6_readStep_123 rfl ?_
        refine gd_bipush (pc := 124) X (45) dX6_readStep_124 (by decide) ?_
        obtain ⟨hk36, h⟩ := h
        refine gd_callV (pc := 126) (As := [.int 45]) (rest := []) X (ct_X6_goes l G S34 l0 45 _ h) mw_X6_goes tw_1388 ci6 rfl hk36 ⟨(Nat.le_of_ble_eq_true rfl), (Nat.le_of_ble_eq_true rfl)⟩ rfl rfl (Nat.le_of_ble_eq_true rfl) dX6_readStep_126 ⟨Nat.le_of_ble_eq_true rfl, Nat.le_of_ble_eq_true rfl⟩ (kI (fun r38 S37 h => ?_))
        refine gd_wide (k2 := 0) (j2 := 0) (Nat.le_of_ble_eq_true rfl) (Nat.le_of_ble_eq_true rfl) ?_
        refine gd_if_eq (pc := 129) X 136 dX6_readStep_129 (by decide) (fun hc39 => ?_) (fun hc39 => ?_)
        · have h := h.1 hc39
          refine gd_iconst (pc := 136) X (1) dX6_readStep_136 (by decide) ?_
          refine gd_sub [1, 2, 0] rfl ?_
          exact g137 _ _ _ _ _ h
        · have h := h.2 hc39
          refine gd_iconst (pc := 132) X (-1) dX6_readStep_132 (by decide) ?_
          refine gd_goto (pc := 133) X 137 dX6_readStep_133 (by decide) ?_
          refine gd_sub [1, 2, 0] rfl ?_
          exact g137 _ _ _ _ _ h
    · have h := h.2 hc44
      refine gd_aload_n (pc := 79) X 1 dX6_readStep_79 rfl ?_
      obtain ⟨hk41, h⟩ := h
      refine gd_callV (pc := 80) (As := []) (rest := []) X (ct_X6_fault l G S l0 _ h) mw_X6_fault tw_1396 ci6 rfl hk41 ⟨(Nat.le_of_ble_eq_true rfl), (Nat.le_of_ble_eq_true rfl)⟩ rfl rfl (Nat.le_of_ble_eq_true rfl) dX6_readStep_80 ⟨Nat.le_of_ble_eq_true rfl, Nat.le_of_ble_eq_true rfl⟩ (kV (fun S42 h => ?_))
      refine gd_wide (k2 := 0) (j2 := 0) (Nat.le_of_ble_eq_true rfl) (Nat.le_of_ble_eq_true rfl) ?_
      exact (gd_ret_v (pc := 83) X hr hlk (by decide) (by decide) dX6_readStep_83 ⟨rfl, h⟩)
  intro h
  refine gd_iconst (pc := 0) X (3) dX6_readStep_0 (by decide) ?_
  refine gd_aload_n (pc := 1) X 0 dX6_readStep_1 rfl ?_
  obtain ⟨hk1, h⟩ := h
  refine gd_getI (pc := 2) (kf := 30) X ci6 (by decide) rfl tw_1013 dX6_readStep_2 hk1 ?_
  refine gd_imul (pc := 5) X dX6_readStep_5 ?_
  refine gd_topI (fun v2 hv2 => ?_)
  have h := h v2 hv2
  refine gd_istore_n (pc := 6) X dX6_readStep_6 (by decide) (E2 := [(1, .int v2), (0, rf a0)]) (by simp [rf_cat, lv1, int_cat] <;> decide) ?_
  refine gd_aload_n (pc := 7) X 1 dX6_readStep_7 rfl ?_
  refine gd_bipush (pc := 8) X (114) dX6_readStep_8 (by decide) ?_
  refine gd_callV (pc := 10) (As := [.int 114]) (rest := []) X (ct_X6_goes l G S a0 114 _ h) mw_X6_goes tw_1388 ci6 rfl hk1 ⟨(Nat.le_of_ble_eq_true rfl), (Nat.le_of_ble_eq_true rfl)⟩ rfl rfl (Nat.le_of_ble_eq_true rfl) dX6_readStep_10 ⟨Nat.le_of_ble_eq_true rfl, Nat.le_of_ble_eq_true rfl⟩ (kI (fun r4 S3 h => ?_))
  refine gd_wide (k2 := 0) (j2 := 0) (Nat.le_of_ble_eq_true rfl) (Nat.le_of_ble_eq_true rfl) ?_
  refine gd_if_eq (pc := 13) X 20 dX6_readStep_13 (by decide) (fun hc21 => ?_) (fun hc21 => ?_)
  · have h := h.1 hc21
    refine gd_aload_n (pc := 20) X 1 dX6_readStep_20 rfl ?_
    refine gd_bipush (pc := 21) X (119) dX6_readStep_21 (by decide) ?_
    obtain ⟨hk5, h⟩ := h
    refine gd_callV (pc := 23) (As := [.int 119]) (rest := []) X (ct_X6_goes l G S3 a0 119 _ h) mw_X6_goes tw_1388 ci6 rfl hk5 ⟨(Nat.le_of_ble_eq_true rfl), (Nat.le_of_ble_eq_true rfl)⟩ rfl rfl (Nat.le_of_ble_eq_true rfl) dX6_readStep_23 ⟨Nat.le_of_ble_eq_true rfl, Nat.le_of_ble_eq_true rfl⟩ (kI (fun r7 S6 h => ?_))
    refine gd_wide (k2 := 0) (j2 := 0) (Nat.le_of_ble_eq_true rfl) (Nat.le_of_ble_eq_true rfl) ?_
    refine gd_if_eq (pc := 26) X 33 dX6_readStep_26 (by decide) (fun hc20 => ?_) (fun hc20 => ?_)
    · have h := h.1 hc20
      refine gd_aload_n (pc := 33) X 1 dX6_readStep_33 rfl ?_
      refine gd_bipush (pc := 34) X (100) dX6_readStep_34 (by decide) ?_
      obtain ⟨hk8, h⟩ := h
      refine gd_callV (pc := 36) (As := [.int 100]) (rest := []) X (ct_X6_goes l G S6 a0 100 _ h) mw_X6_goes tw_1388 ci6 rfl hk8 ⟨(Nat.le_of_ble_eq_true rfl), (Nat.le_of_ble_eq_true rfl)⟩ rfl rfl (Nat.le_of_ble_eq_true rfl) dX6_readStep_36 ⟨Nat.le_of_ble_eq_true rfl, Nat.le_of_ble_eq_true rfl⟩ (kI (fun r10 S9 h => ?_))
      refine gd_wide (k2 := 0) (j2 := 0) (Nat.le_of_ble_eq_true rfl) (Nat.le_of_ble_eq_true rfl) ?_
      refine gd_if_eq (pc := 39) X 46 dX6_readStep_39 (by decide) (fun hc19 => ?_) (fun hc19 => ?_)
      · have h := h.1 hc19
        refine gd_aload_n (pc := 46) X 1 dX6_readStep_46 rfl ?_
        refine gd_bipush (pc := 47) X (97) dX6_readStep_47 (by decide) ?_
        obtain ⟨hk11, h⟩ := h
        refine gd_callV (pc := 49) (As := [.int 97]) (rest := []) X (ct_X6_goes l G S9 a0 97 _ h) mw_X6_goes tw_1388 ci6 rfl hk11 ⟨(Nat.le_of_ble_eq_true rfl), (Nat.le_of_ble_eq_true rfl)⟩ rfl rfl (Nat.le_of_ble_eq_true rfl) dX6_readStep_49 ⟨Nat.le_of_ble_eq_true rfl, Nat.le_of_ble_eq_true rfl⟩ (kI (fun r13 S12 h => ?_))
        refine gd_wide (k2 := 0) (j2 := 0) (Nat.le_of_ble_eq_true rfl) (Nat.le_of_ble_eq_true rfl) ?_
        refine gd_if_eq (pc := 52) X 59 dX6_readStep_52 (by decide) (fun hc18 => ?_) (fun hc18 => ?_)
        · have h := h.1 hc18
          refine gd_aload_n (pc := 59) X 1 dX6_readStep_59 rfl ?_
          refine gd_bipush (pc := 60) X (115) dX6_readStep_60 (by decide) ?_
          obtain ⟨hk14, h⟩ := h
          refine gd_callV (pc := 62) (As := [.int 115]) (rest := []) X (ct_X6_goes l G S12 a0 115 _ h) mw_X6_goes tw_1388 ci6 rfl hk14 ⟨(Nat.le_of_ble_eq_true rfl), (Nat.le_of_ble_eq_true rfl)⟩ rfl rfl (Nat.le_of_ble_eq_true rfl) dX6_readStep_62 ⟨Nat.le_of_ble_eq_true rfl, Nat.le_of_ble_eq_true rfl⟩ (kI (fun r16 S15 h => ?_))
          refine gd_wide (k2 := 0) (j2 := 0) (Nat.le_of_ble_eq_true rfl) (Nat.le_of_ble_eq_true rfl) ?_
          refine gd_if_eq (pc := 65) X 72 dX6_readStep_65 (by decide) (fun hc17 => ?_) (fun hc17 => ?_)
          · have h := h.1 hc17
            refine gd_iconst (pc := 72) X (-1) dX6_readStep_72 (by decide) ?_
            refine gd_sub [1, 0] rfl ?_
            exact g73 _ _ _ _ h
          · have h := h.2 hc17
            refine gd_iconst (pc := 68) X (2) dX6_readStep_68 (by decide) ?_
            refine gd_goto (pc := 69) X 73 dX6_readStep_69 (by decide) ?_
            refine gd_sub [1, 0] rfl ?_
            exact g73 _ _ _ _ h
        · have h := h.2 hc18
          refine gd_iconst (pc := 55) X (5) dX6_readStep_55 (by decide) ?_
          refine gd_goto (pc := 56) X 73 dX6_readStep_56 (by decide) ?_
          refine gd_sub [1, 0] rfl ?_
          exact g73 _ _ _ _ h
      · have h := h.2 hc19
        refine gd_iconst (pc := 42) X (4) dX6_readStep_42 (by decide) ?_
        refine gd_goto (pc := 43) X 73 dX6_readStep_43 (by decide) ?_
        refine gd_sub [1, 0] rfl ?_
        exact g73 _ _ _ _ h
    · have h := h.2 hc20
      refine gd_iconst (pc := 29) X (3) dX6_readStep_29 (by decide) ?_
      refine gd_goto (pc := 30) X 73 dX6_readStep_30 (by decide) ?_
      refine gd_sub [1, 0] rfl ?_
      exact g73 _ _ _ _ h
  · have h := h.2 hc21
    refine gd_iconst (pc := 16) X (0) dX6_readStep_16 (by decide) ?_
    refine gd_goto (pc := 17) X 73 dX6_readStep_17 (by decide) ?_
    refine gd_sub [1, 0] rfl ?_
    exact g73 _ _ _ _ h
abbrev rm_X6_readScript : Room := { frames := 5, cells := 0, slots := 0, locals := 109 }
def b_X6_readScript_63 (post : MS → Prop) (S : MS) (l0 : Nat) : Prop := post S
def b_X6_readScript_32 (post : MS → Prop) : Nat → MS → Nat → Prop
  | 0 => fun _ _ => False
  | f + 1 => fun S l0 => kT S l0 = 7 ∧ w_X6_goes S l0 59 (fun r3 S2 => ((r3 = 0 → kT S2 l0 = 7 ∧ (((sI S2 l0 26) ≤ (sI S2 l0 27) → b_X6_readScript_63 post S2 l0) ∧ (¬ (sI S2 l0 26) ≤ (sI S2 l0 27) → w_X6_fault S2 l0 (fun S5 => b_X6_readScript_63 post S5 l0)))) ∧ (¬ r3 = 0 → kT S2 l0 = 7 ∧ w_X6_readStep S2 l0 (fun S9 => b_X6_readScript_32 post f S9 l0))))
def w_X6_readScript (S : MS) (a0 : Nat) (post : MS → Prop) : Prop := kT S a0 = 7 ∧ ∀ S2 : MS, S2 = pI S a0 26 (sI S a0 25) → ∀ S4 : MS, S4 = pI S2 a0 25 0 → ∀ S6 : MS, S6 = pI S4 a0 27 0 → ∀ S8 : MS, S8 = pI S6 a0 28 ((-1)) → ∀ S10 : MS, S10 = pI S8 a0 30 0 → w_X6_readStep S10 a0 (fun S12 => ∃ f32, b_X6_readScript_32 post f32 S12 a0)
set_option maxHeartbeats 4000000 in
set_option maxRecDepth 100000 in
theorem ct_X6_readScript (l : Launch) (G : GP) (S : MS) (a0 : Nat) (post : MS → Prop) (h : w_X6_readScript S a0 post) : MetM l yX6_readScript cX6_readScript 1 none rm_X6_readScript [rf a0] G S (pV_ post) := by
  refine met_of (by decide) (cat1_r cat1_n) (Nat.le_of_ble_eq_true rfl) ?_
  intro p e s m args below meth c X hr hlk hin
  revert h
  have g63 : ∀ (S : MS) (l0 : Nat), b_X6_readScript_63 post S l0 → Gd p l e rm_X6_readScript s m args below meth c 1 G (MQ below (QcM G (pV_ post)) args s rm_X6_readScript.cells rm_X6_readScript.slots (Ab G)) 0 0 S 63 [(0, rf l0)] [] := by
    intro S l0 h
    exact (gd_ret_v (pc := 63) X hr hlk (by decide) (by decide) dX6_readScript_63 ⟨rfl, h⟩)
  have g32 : ∀ (f : Nat) (S : MS) (l0 : Nat), b_X6_readScript_32 post f S l0 → Gd p l e rm_X6_readScript s m args below meth c 1 G (MQ below (QcM G (pV_ post)) args s rm_X6_readScript.cells rm_X6_readScript.slots (Ab G)) 0 0 S 32 [(0, rf l0)] [] := by
    intro f
    induction f with
    | zero => intro S l0 h; exact h.elim
    | succ f ih =>
      intro S l0 h
      refine gd_aload_n (pc := 32) X 0 dX6_readScript_32 rfl ?_
      refine gd_bipush (pc := 33) X (59) dX6_readScript_33 (by decide) ?_
      obtain ⟨hk1, h⟩ := h
      refine gd_callV (pc := 35) (As := [.int 59]) (rest := []) X (ct_X6_goes l G S l0 59 _ h) mw_X6_goes tw_1388 ci6 rfl hk1 ⟨(Nat.le_of_ble_eq_true rfl), (Nat.le_of_ble_eq_true rfl)⟩ rfl rfl (Nat.le_of_ble_eq_true rfl) dX6_readScript_35 ⟨Nat.le_of_ble_eq_true rfl, Nat.le_of_ble_eq_true rfl⟩ (kI (fun r3 S2 h => ?_))
      refine gd_wide (k2 := 0) (j2 := 0) (Nat.le_of_ble_eq_true rfl) (Nat.le_of_ble_eq_true rfl) ?_
      refine gd_if_eq (pc := 38) X 48 dX6_readScript_38 (by decide) (fun hc11 => ?_) (fun hc11 => ?_)
      · have h := h.1 hc11
        refine gd_aload_n (pc := 48) X 0 dX6_readScript_48 rfl ?_
        obtain ⟨hk4, h⟩ := h
        refine gd_getI (pc := 49) (kf := 27) X ci6 (by decide) rfl tw_1010 dX6_readScript_49 hk4 ?_
        refine gd_aload_n (pc := 52) X 0 dX6_readScript_52 rfl ?_
        refine gd_getI (pc := 53) (kf := 26) X ci6 (by decide) rfl tw_1009 dX6_readScript_53 hk4 ?_
        refine gd_icmp_ge (pc := 56) X 63 dX6_readScript_56 (by decide) (fun hc7 => ?_) (fun hc7 => ?_)
        · have h := h.1 hc7
          exact g63 _ _ h
        · have h := h.2 hc7
          refine gd_aload_n (pc := 59) X 0 dX6_readScript_59 rfl ?_
          refine gd_callV (pc := 60) (As := []) (rest := []) X (ct_X6_fault l G S2 l0 _ h) mw_X6_fault tw_1396 ci6 rfl hk4 ⟨(Nat.le_of_ble_eq_true rfl), (Nat.le_of_ble_eq_true rfl)⟩ rfl rfl (Nat.le_of_ble_eq_true rfl) dX6_readScript_60 ⟨Nat.le_of_ble_eq_true rfl, Nat.le_of_ble_eq_true rfl⟩ (kV (fun S5 h => ?_))
          refine gd_wide (k2 := 0) (j2 := 0) (Nat.le_of_ble_eq_true rfl) (Nat.le_of_ble_eq_true rfl) ?_
          exact g63 _ _ h
      · have h := h.2 hc11
        refine gd_aload_n (pc := 41) X 0 dX6_readScript_41 rfl ?_
        obtain ⟨hk8, h⟩ := h
        refine gd_callV (pc := 42) (As := []) (rest := []) X (ct_X6_readStep l G S2 l0 _ h) mw_X6_readStep tw_1384 ci6 rfl hk8 ⟨(Nat.le_of_ble_eq_true rfl), (Nat.le_of_ble_eq_true rfl)⟩ rfl rfl (Nat.le_of_ble_eq_true rfl) dX6_readScript_42 ⟨Nat.le_of_ble_eq_true rfl, Nat.le_of_ble_eq_true rfl⟩ (kV (fun S9 h => ?_))
        refine gd_wide (k2 := 0) (j2 := 0) (Nat.le_of_ble_eq_true rfl) (Nat.le_of_ble_eq_true rfl) ?_
        refine gd_goto (pc := 45) X 32 dX6_readScript_45 (by decide) ?_
        exact ih _ _ h
  intro h
  refine gd_aload_n (pc := 0) X 0 dX6_readScript_0 rfl ?_
  refine gd_aload_n (pc := 1) X 0 dX6_readScript_1 rfl ?_
  obtain ⟨hk1, h⟩ := h
  refine gd_getI (pc := 2) (kf := 25) X ci6 (by decide) rfl tw_1008 dX6_readScript_2 hk1 ?_
  refine gd_putI (pc := 5) (kf := 26) X ci6 (by decide) rfl rfl tw_1009 rfl rfl dX6_readScript_5 hk1 ?_
  refine gd_topS (fun S2 hS2 => ?_)
  have h := h S2 hS2
  have hk3 : kT S2 a0 = 7 := by rw [hS2]; exact hk1
  refine gd_aload_n (pc := 8) X 0 dX6_readScript_8 rfl ?_
  refine gd_iconst (pc := 9) X (0) dX6_readScript_9 (by decide) ?_
  refine gd_putI (pc := 10) (kf := 25) X ci6 (by decide) rfl rfl tw_1008 rfl rfl dX6_readScript_10 hk3 ?_
  refine gd_topS (fun S4 hS4 => ?_)
  have h := h S4 hS4
  have hk5 : kT S4 a0 = 7 := by rw [hS4]; exact hk3
  refine gd_aload_n (pc := 13) X 0 dX6_readScript_13 rfl ?_
  refine gd_iconst (pc := 14) X (0) dX6_readScript_14 (by decide) ?_
  refine gd_putI (pc := 15) (kf := 27) X ci6 (by decide) rfl rfl tw_1010 rfl rfl dX6_readScript_15 hk5 ?_
  refine gd_topS (fun S6 hS6 => ?_)
  have h := h S6 hS6
  have hk7 : kT S6 a0 = 7 := by rw [hS6]; exact hk5
  refine gd_aload_n (pc := 18) X 0 dX6_readScript_18 rfl ?_
  refine gd_iconst (pc := 19) X (-1) dX6_readScript_19 (by decide) ?_
  refine gd_putI (pc := 20) (kf := 28) X ci6 (by decide) rfl rfl tw_1011 rfl rfl dX6_readScript_20 hk7 ?_
  refine gd_topS (fun S8 hS8 => ?_)
  have h := h S8 hS8
  have hk9 : kT S8 a0 = 7 := by rw [hS8]; exact hk7
  refine gd_aload_n (pc := 23) X 0 dX6_readScript_23 rfl ?_
  refine gd_iconst (pc := 24) X (0) dX6_readScript_24 (by decide) ?_
  refine gd_putI (pc := 25) (kf := 30) X ci6 (by decide) rfl rfl tw_1013 rfl rfl dX6_readScript_25 hk9 ?_
  refine gd_topS (fun S10 hS10 => ?_)
  have h := h S10 hS10
  have hk11 : kT S10 a0 = 7 := by rw [hS10]; exact hk9
  refine gd_aload_n (pc := 28) X 0 dX6_readScript_28 rfl ?_
  refine gd_callV (pc := 29) (As := []) (rest := []) X (ct_X6_readStep l G S10 a0 _ h) mw_X6_readStep tw_1384 ci6 rfl hk11 ⟨(Nat.le_of_ble_eq_true rfl), (Nat.le_of_ble_eq_true rfl)⟩ rfl rfl (Nat.le_of_ble_eq_true rfl) dX6_readScript_29 ⟨Nat.le_of_ble_eq_true rfl, Nat.le_of_ble_eq_true rfl⟩ (kV (fun S12 h => ?_))
  refine gd_wide (k2 := 0) (j2 := 0) (Nat.le_of_ble_eq_true rfl) (Nat.le_of_ble_eq_true rfl) ?_
  obtain ⟨f32, h⟩ := h
  exact g32 f32 _ _ h
abbrev rm_X6_doStep : Room := { frames := 4, cells := 0, slots := 0, locals := 95 }
def b_X6_doStep_115 (post : MS → Prop) (S : MS) (l0 : Nat) (l1 : Int32) (l2 : Int32) (l3 : Int32) (l4 : Int32) : Prop := post S
def b_X6_doStep_106 (post : MS → Prop) (S : MS) (l0 : Nat) (l1 : Int32) (l2 : Int32) (l3 : Int32) (l4 : Int32) : Prop := kT S l0 = 7 ∧ w_X6_sum S l0 l1 l3 l4 (fun r3 S2 => b_X6_doStep_115 post S2 l0 l1 l2 l3 l4)
def w_X6_doStep (S : MS) (a0 : Nat) (a1 : Int32) (a2 : Int32) (post : MS → Prop) : Prop := kT S a0 = 7 ∧ kT S (sR S a0 29) = 9 ∧ vp_in (a2 + 1) (kL S (sR S a0 29)) ∧ ∀ v4 : Int32, v4 = sI S (sR S a0 29) (ix (a2 + 1)) → vp_in (a2 + 2) (kL S (sR S a0 29)) ∧ ∀ v6 : Int32, v6 = sI S (sR S a0 29) (ix (a2 + 2)) → vp_in a2 (kL S (sR S a0 29)) ∧ (((sI S (sR S a0 29) (ix a2)).toInt = 0 → w_X6_read S a0 a1 v4 (fun r9 S8 => b_X6_doStep_115 post S8 a0 a1 a2 v4 v6)) ∧ ((sI S (sR S a0 29) (ix a2)).toInt = 1 → b_X6_doStep_106 post S a0 a1 a2 v4 v6) ∧ ((sI S (sR S a0 29) (ix a2)).toInt = 2 → b_X6_doStep_106 post S a0 a1 a2 v4 v6) ∧ ((sI S (sR S a0 29) (ix a2)).toInt = 3 → w_X6_write S a0 a1 v4 v6 (fun S10 => b_X6_doStep_115 post S10 a0 a1 a2 v4 v6)) ∧ ((sI S (sR S a0 29) (ix a2)).toInt = 4 → w_X6_remove S a0 a1 v4 (fun S12 => b_X6_doStep_115 post S12 a0 a1 a2 v4 v6)) ∧ ((sI S (sR S a0 29) (ix a2)).toInt = 5 → w_X6_add S a0 a1 v4 v6 (fun r15 S14 => b_X6_doStep_115 post S14 a0 a1 a2 v4 v6)) ∧ ((sI S (sR S a0 29) (ix a2)).toInt < 0 ∨ 5 < (sI S (sR S a0 29) (ix a2)).toInt → b_X6_doStep_106 post S a0 a1 a2 v4 v6))
set_option maxHeartbeats 4000000 in
set_option maxRecDepth 100000 in
theorem ct_X6_doStep (l : Launch) (G : GP) (S : MS) (a0 : Nat) (a1 : Int32) (a2 : Int32) (post : MS → Prop) (h : w_X6_doStep S a0 a1 a2 post) : MetM l yX6_doStep cX6_doStep 5 none rm_X6_doStep [rf a0, .int a1, .int a2] G S (pV_ post) := by
  refine met_of (by decide) (cat1_r (cat1_i (cat1_i cat1_n))) (Nat.le_of_ble_eq_true rfl) ?_
  intro p e s m args below meth c X hr hlk hin
  revert h
  have g115 : ∀ (S : MS) (l0 : Nat) (l1 : Int32) (l2 : Int32) (l3 : Int32) (l4 : Int32), b_X6_doStep_115 post S l0 l1 l2 l3 l4 → Gd p l e rm_X6_doStep s m args below meth c 5 G (MQ below (QcM G (pV_ post)) args s rm_X6_doStep.cells rm_X6_doStep.slots (Ab G)) 0 0 S 115 [(0, rf l0), (1, .int l1), (2, .int l2), (3, .int l3), (4, .int l4)] [] := by
    intro S l0 l1 l2 l3 l4 h
    exact (gd_ret_v (pc := 115) X hr hlk (by decide) (by decide) dX6_doStep_115 ⟨rfl, h⟩)
  have g106 : ∀ (S : MS) (l0 : Nat) (l1 : Int32) (l2 : Int32) (l3 : Int32) (l4 : Int32), b_X6_doStep_106 post S l0 l1 l2 l3 l4 → Gd p l e rm_X6_doStep s m args below meth c 5 G (MQ below (QcM G (pV_ post)) args s rm_X6_doStep.cells rm_X6_doStep.slots (Ab G)) 0 0 S 106 [(0, rf l0), (1, .int l1), (2, .int l2), (3, .int l3), (4, .int l4)] [] := by
    intro S l0 l1 l2 l3 l4 h
    refine gd_aload_n (pc := 106) X 0 dX6_doStep_106 rfl ?_
    refine gd_iload_n (pc := 107) X 1 dX6_doStep_107 rfl ?_
    refine gd_iload_n (pc := 108) X 3 dX6_doStep_108 rfl ?_
    refine gd_iload (pc := 109) X 4 dX6_doStep_109 rfl ?_
    obtain ⟨hk1, h⟩ := h
    refine gd_callV (pc := 111) (As := [.int l1, .int l3, .int l4]) (rest := []) X (ct_X6_sum l G S l0 l1 l3 l4 _ h) mw_X6_sum tw_1424 ci6 rfl hk1 ⟨(Nat.le_of_ble_eq_true rfl), (Nat.le_of_ble_eq_true rfl)⟩ rfl rfl (Nat.le_of_ble_eq_true rfl) dX6_doStep_111 ⟨Nat.le_of_ble_eq_true rfl, Nat.le_of_ble_eq_true rfl⟩ (kI (fun r3 S2 h => ?_))
    refine gd_wide (k2 := 0) (j2 := 0) (Nat.le_of_ble_eq_true rfl) (Nat.le_of_ble_eq_true rfl) ?_
    refine gd_popI (pc := 114) X dX6_doStep_114 ?_
    exact g115 _ _ _ _ _ _ h
  intro h
  refine gd_aload_n (pc := 0) X 0 dX6_doStep_0 rfl ?_
  obtain ⟨hk1, h⟩ := h
  refine gd_getR (pc := 1) (kf := 29) X ci6 (by decide) rfl tw_1012 dX6_doStep_1 hk1 ?_
  refine gd_iload_n (pc := 4) X 2 dX6_doStep_4 rfl ?_
  refine gd_iconst (pc := 5) X (1) dX6_doStep_5 (by decide) ?_
  refine gd_iadd (pc := 6) X dX6_doStep_6 ?_
  obtain ⟨hk2, h⟩ := h
  obtain ⟨hi3, h⟩ := h
  refine gd_iald (pc := 7) X dX6_doStep_7 hk2 hi3 ?_
  refine gd_topI (fun v4 hv4 => ?_)
  have h := h v4 hv4
  refine gd_istore_n (pc := 8) X dX6_doStep_8 (by decide) (E2 := [(3, .int v4), (0, rf a0), (1, .int a1), (2, .int a2)]) rfl ?_
  refine gd_aload_n (pc := 9) X 1 dX6_doStep_9 rfl ?_
  refine gd_getR (pc := 10) (kf := 29) X ci6 (by decide) rfl tw_1012 dX6_doStep_10 hk1 ?_
  refine gd_iload_n (pc := 13) X 3 dX6_doStep_13 rfl ?_
  refine gd_iconst (pc := 14) X (2) dX6_doStep_14 (by decide) ?_
  refine gd_iadd (pc := 15) X dX6_doStep_15 ?_
  obtain ⟨hi5, h⟩ := h
  refine gd_iald (pc := 16) X dX6_doStep_16 hk2 hi5 ?_
  refine gd_topI (fun v6 hv6 => ?_)
  have h := h v6 hv6
  refine gd_istore (pc := 17) X dX6_doStep_17 (by decide) (E2 := [(4, .int v6), (3, .int v4), (0, rf a0), (1, .int a1), (2, .int a2)]) rfl ?_
  refine gd_aload_n (pc := 19) X 2 dX6_doStep_19 rfl ?_
  refine gd_getR (pc := 20) (kf := 29) X ci6 (by decide) rfl tw_1012 dX6_doStep_20 hk1 ?_
  refine gd_iload_n (pc := 23) X 4 dX6_doStep_23 rfl ?_
  obtain ⟨hi7, h⟩ := h
  refine gd_iald (pc := 24) X dX6_doStep_24 hk2 hi7 ?_
  by_cases hout : (sI S (sR S a0 29) (ix a2)).toInt < 0 ∨ 5 < (sI S (sR S a0 29) (ix a2)).toInt
  · have h := h.2.2.2.2.2.2 hout
    refine gd_tableOut (pc := 25) X 106 dX6_doStep_25 hout (by decide) ?_
    refine gd_sub [2, 3, 4, 1, 0] rfl ?_
    exact g106 _ _ _ _ _ _ h
  · rcases (show (sI S (sR S a0 29) (ix a2)).toInt = 0 ∨ (sI S (sR S a0 29) (ix a2)).toInt = 1 ∨ (sI S (sR S a0 29) (ix a2)).toInt = 2 ∨ (sI S (sR S a0 29) (ix a2)).toInt = 3 ∨ (sI S (sR S a0 29) (ix a2)).toInt = 4 ∨ (sI S (sR S a0 29) (ix a2)).toInt = 5 by omega) with hx | hx | hx | hx | hx | hx
    · have h := h.1 hx
      refine gd_tableIn (pc := 25) X 64 dX6_doStep_25 (by omega) (by omega) (by rw [hx]; rfl) (by decide) ?_
      refine gd_aload_n (pc := 64) X 2 dX6_doStep_64 rfl ?_
      refine gd_iload_n (pc := 65) X 3 dX6_doStep_65 rfl ?_
      refine gd_iload_n (pc := 66) X 1 dX6_doStep_66 rfl ?_
      refine gd_callV (pc := 67) (As := [.int a1, .int v4]) (rest := []) X (ct_X6_read l G S a0 a1 v4 _ h) mw_X6_read tw_1420 ci6 rfl hk1 ⟨(Nat.le_of_ble_eq_true rfl), (Nat.le_of_ble_eq_true rfl)⟩ rfl rfl (Nat.le_of_ble_eq_true rfl) dX6_doStep_67 ⟨Nat.le_of_ble_eq_true rfl, Nat.le_of_ble_eq_true rfl⟩ (kI (fun r9 S8 h => ?_))
      refine gd_wide (k2 := 0) (j2 := 0) (Nat.le_of_ble_eq_true rfl) (Nat.le_of_ble_eq_true rfl) ?_
      refine gd_popI (pc := 70) X dX6_doStep_70 ?_
      refine gd_goto (pc := 71) X 115 dX6_doStep_71 (by decide) ?_
      refine gd_sub [2, 3, 4, 1, 0] rfl ?_
      exact g115 _ _ _ _ _ _ h
    · have h := h.2.1 hx
      refine gd_tableIn (pc := 25) X 106 dX6_doStep_25 (by omega) (by omega) (by rw [hx]; rfl) (by decide) ?_
      refine gd_sub [2, 3, 4, 1, 0] rfl ?_
      exact g106 _ _ _ _ _ _ h
    · have h := h.2.2.1 hx
      refine gd_tableIn (pc := 25) X 106 dX6_doStep_25 (by omega) (by omega) (by rw [hx]; rfl) (by decide) ?_
      refine gd_sub [2, 3, 4, 1, 0] rfl ?_
      exact g106 _ _ _ _ _ _ h
    · have h := h.2.2.2.1 hx
      refine gd_tableIn (pc := 25) X 74 dX6_doStep_25 (by omega) (by omega) (by rw [hx]; rfl) (by decide) ?_
      refine gd_aload_n (pc := 74) X 2 dX6_doStep_74 rfl ?_
      refine gd_iload_n (pc := 75) X 3 dX6_doStep_75 rfl ?_
      refine gd_iload_n (pc := 76) X 1 dX6_doStep_76 rfl ?_
      refine gd_iload (pc := 77) X 0 dX6_doStep_77 rfl ?_
      refine gd_callV (pc := 79) (As := [.int a1, .int v4, .int v6]) (rest := []) X (ct_X6_write l G S a0 a1 v4 v6 _ h) mw_X6_write tw_1421 ci6 rfl hk1 ⟨(Nat.le_of_ble_eq_true rfl), (Nat.le_of_ble_eq_true rfl)⟩ rfl rfl (Nat.le_of_ble_eq_true rfl) dX6_doStep_79 ⟨Nat.le_of_ble_eq_true rfl, Nat.le_of_ble_eq_true rfl⟩ (kV (fun S10 h => ?_))
      refine gd_wide (k2 := 0) (j2 := 0) (Nat.le_of_ble_eq_true rfl) (Nat.le_of_ble_eq_true rfl) ?_
      refine gd_goto (pc := 82) X 115 dX6_doStep_82 (by decide) ?_
      refine gd_sub [2, 3, 4, 1, 0] rfl ?_
      exact g115 _ _ _ _ _ _ h
    · have h := h.2.2.2.2.1 hx
      refine gd_tableIn (pc := 25) X 85 dX6_doStep_25 (by omega) (by omega) (by rw [hx]; rfl) (by decide) ?_
      refine gd_aload_n (pc := 85) X 2 dX6_doStep_85 rfl ?_
      refine gd_iload_n (pc := 86) X 3 dX6_doStep_86 rfl ?_
      refine gd_iload_n (pc := 87) X 1 dX6_doStep_87 rfl ?_
      refine gd_callV (pc := 88) (As := [.int a1, .int v4]) (rest := []) X (ct_X6_remove l G S a0 a1 v4 _ h) mw_X6_remove tw_1422 ci6 rfl hk1 ⟨(Nat.le_of_ble_eq_true rfl), (Nat.le_of_ble_eq_true rfl)⟩ rfl rfl (Nat.le_of_ble_eq_true rfl) dX6_doStep_88 ⟨Nat.le_of_ble_eq_true rfl, Nat.le_of_ble_eq_true rfl⟩ (kV (fun S12 h => ?_))
      refine gd_wide (k2 := 0) (j2 := 0) (Nat.le_of_ble_eq_true rfl) (Nat.le_of_ble_eq_true rfl) ?_
      refine gd_goto (pc := 91) X 115 dX6_doStep_91 (by decide) ?_
      refine gd_sub [2, 3, 4, 1, 0] rfl ?_
      exact g115 _ _ _ _ _ _ h
    · have h := h.2.2.2.2.2.1 hx
      refine gd_tableIn (pc := 25) X 94 dX6_doStep_25 (by omega) (by omega) (by rw [hx]; rfl) (by decide) ?_
      refine gd_aload_n (pc := 94) X 2 dX6_doStep_94 rfl ?_
      refine gd_iload_n (pc := 95) X 3 dX6_doStep_95 rfl ?_
      refine gd_iload_n (pc := 96) X 1 dX6_doStep_96 rfl ?_
      refine gd_iload (pc := 97) X 0 dX6_doStep_97 rfl ?_
      refine gd_callV (pc := 99) (As := [.int a1, .int v4, .int v6]) (rest := []) X (ct_X6_add l G S a0 a1 v4 v6 _ h) mw_X6_add tw_1423 ci6 rfl hk1 ⟨(Nat.le_of_ble_eq_true rfl), (Nat.le_of_ble_eq_true rfl)⟩ rfl rfl (Nat.le_of_ble_eq_true rfl) dX6_doStep_99 ⟨Nat.le_of_ble_eq_true rfl, Nat.le_of_ble_eq_true rfl⟩ (kI (fun r15 S14 h => ?_))
      refine gd_wide (k2 := 0) (j2 := 0) (Nat.le_of_ble_eq_true rfl) (Nat.le_of_ble_eq_true rfl) ?_
      refine gd_popI (pc := 102) X dX6_doStep_102 ?_
      refine gd_goto (pc := 103) X 115 dX6_doStep_103 (by decide) ?_
      refine gd_sub [2, 3, 4, 1, 0] rfl ?_
      exact g115 _ _ _ _ _ _ h
abbrev rm_X6_runScript : Room := { frames := 7, cells := 0, slots := 0, locals := 169 }
def b_X6_runScript_53 (post : Int32 → MS → Prop) : Nat → MS → Nat → Int32 → Int32 → Prop
  | 0 => fun _ _ _ _ => False
  | f + 1 => fun S l0 l1 l2 => kT S l0 = 7 ∧ (((sI S l0 30) ≤ l2 → w_X6_doCommit S l0 l1 (fun r3 S2 => post r3 S2)) ∧ (¬ (sI S l0 30) ≤ l2 → w_X6_doStep S l0 l1 (3 * l2) (fun S4 => kT S4 l0 = 7 ∧ (((sI S4 l0 0) = 0 → ∀ v7 : Int32, v7 = l2 + 1 → b_X6_runScript_53 post f S4 l0 l1 v7) ∧ (¬ (sI S4 l0 0) = 0 → ∀ S8 : MS, S8 = pI S4 l0 0 0 → w_X6_endWith S8 l0 l1 5 (fun S10 => post ((-2)) S10))))))
def b_X6_runScript_39 (post : Int32 → MS → Prop) (S : MS) (l0 : Nat) : Prop := kT S l0 = 7 ∧ w_X6_fail S l0 2 (fun r3 S2 => post r3 S2)
def w_X6_runScript (S : MS) (a0 : Nat) (post : Int32 → MS → Prop) : Prop := kT S a0 = 7 ∧ w_X6_readScript S a0 (fun S2 => kT S2 a0 = 7 ∧ ∀ S5 : MS, S5 = pI S2 a0 0 0 → (((sI S5 a0 28) = ((-1)) → w_X6_hasRoom S5 a0 (fun r8 S7 => ((r8 = 0 → b_X6_runScript_39 post S7 a0) ∧ (¬ r8 = 0 → kT S7 a0 = 7 ∧ ((¬ (sI S7 a0 14) = 60 → w_X6_beginWith S7 a0 1 (fun r11 S10 => ∃ f53, b_X6_runScript_53 post f53 S10 a0 r11 0)) ∧ ((sI S7 a0 14) = 60 → b_X6_runScript_39 post S7 a0)))))) ∧ (¬ (sI S5 a0 28) = ((-1)) → w_X6_fail S5 a0 1 (fun r15 S14 => post r15 S14))))
set_option maxHeartbeats 4000000 in
set_option maxRecDepth 100000 in
theorem ct_X6_runScript (l : Launch) (G : GP) (S : MS) (a0 : Nat) (post : Int32 → MS → Prop) (h : w_X6_runScript S a0 post) : MetM l yX6_runScript cX6_runScript 3 (some .int) rm_X6_runScript [rf a0] G S (pI_ post) := by
  refine met_of (by decide) (cat1_r cat1_n) (Nat.le_of_ble_eq_true rfl) ?_
  intro p e s m args below meth c X hr hlk hin
  revert h
  have g53 : ∀ (f : Nat) (S : MS) (l0 : Nat) (l1 : Int32) (l2 : Int32), b_X6_runScript_53 post f S l0 l1 l2 → Gd p l e rm_X6_runScript s m args below meth c 3 G (MQ below (QcM G (pI_ post)) args s rm_X6_runScript.cells rm_X6_runScript.slots (Ab G)) 0 0 S 53 [(0, rf l0), (1, .int l1), (2, .int l2)] [] := by
    intro f
    induction f with
    | zero => intro S l0 l1 l2 h; exact h.elim
    | succ f ih =>
      intro S l0 l1 l2 h
      refine gd_iload_n (pc := 53) X 2 dX6_runScript_53 rfl ?_
      refine gd_aload_n (pc := 54) X 0 dX6_runScript_54 rfl ?_
      obtain ⟨hk1, h⟩ := h
      refine gd_getI (pc := 55) (kf := 30) X ci6 (by decide) rfl tw_1013 dX6_runScript_55 hk1 ?_
      refine gd_icmp_ge (pc := 58) X 96 dX6_runScript_58 (by decide) (fun hc13 => ?_) (fun hc13 => ?_)
      · have h := h.1 hc13
        refine gd_aload_n (pc := 96) X 0 dX6_runScript_96 rfl ?_
        refine gd_iload_n (pc := 97) X 1 dX6_runScript_97 rfl ?_
        refine gd_callV (pc := 98) (As := [.int l1]) (rest := []) X (ct_X6_doCommit l G S l0 l1 _ h) mw_X6_doCommit tw_1223 ci6 rfl hk1 ⟨(Nat.le_of_ble_eq_true rfl), (Nat.le_of_ble_eq_true rfl)⟩ rfl rfl (Nat.le_of_ble_eq_true rfl) dX6_runScript_98 ⟨Nat.le_of_ble_eq_true rfl, Nat.le_of_ble_eq_true rfl⟩ (kI (fun r3 S2 h => ?_))
        refine gd_wide (k2 := 0) (j2 := 0) (Nat.le_of_ble_eq_true rfl) (Nat.le_of_ble_eq_true rfl) ?_
        exact (gd_ret_i (pc := 101) X hr hlk rfl (by decide) (by decide) dX6_runScript_101 ⟨_, rfl, h⟩)
      · have h := h.2 hc13
        refine gd_aload_n (pc := 61) X 0 dX6_runScript_61 rfl ?_
        refine gd_iload_n (pc := 62) X 1 dX6_runScript_62 rfl ?_
        refine gd_iconst (pc := 63) X (3) dX6_runScript_63 (by decide) ?_
        refine gd_iload_n (pc := 64) X 2 dX6_runScript_64 rfl ?_
        refine gd_imul (pc := 65) X dX6_runScript_65 ?_
        refine gd_callV (pc := 66) (As := [.int l1, .int (3 * l2)]) (rest := []) X (ct_X6_doStep l G S l0 l1 (3 * l2) _ h) mw_X6_doStep tw_1416 ci6 rfl hk1 ⟨(Nat.le_of_ble_eq_true rfl), (Nat.le_of_ble_eq_true rfl)⟩ rfl rfl (Nat.le_of_ble_eq_true rfl) dX6_runScript_66 ⟨Nat.le_of_ble_eq_true rfl, Nat.le_of_ble_eq_true rfl⟩ (kV (fun S4 h => ?_))
        refine gd_wide (k2 := 0) (j2 := 0) (Nat.le_of_ble_eq_true rfl) (Nat.le_of_ble_eq_true rfl) ?_
        refine gd_aload_n (pc := 69) X 0 dX6_runScript_69 rfl ?_
        obtain ⟨hk6, h⟩ := h
        refine gd_getI (pc := 70) (kf := 0) X ci6 (by decide) rfl tw_983 dX6_runScript_70 hk6 ?_
        refine gd_if_eq (pc := 73) X 90 dX6_runScript_73 (by decide) (fun hc12 => ?_) (fun hc12 => ?_)
        · have h := h.1 hc12
          obtain ⟨v7, hv7⟩ : ∃ z : Int32, z = l2 + 1 := ⟨_, rfl⟩
          have h := h v7 hv7
          refine gd_iinc (pc := 90) (v := v7) X 2 dX6_runScript_90 rfl (by rw [hv7]; rfl) (by decide) (E2 := [(2, .int v7), (0, rf l0), (1, .int l1)]) rfl ?_
          refine gd_goto (pc := 93) X 53 dX6_runScript_93 (by decide) ?_
          refine gd_sub [1, 2, 0] rfl ?_
          exact ih _ _ _ _ h
        · have h := h.2 hc12
          refine gd_aload_n (pc := 76) X 0 dX6_runScript_76 rfl ?_
          refine gd_iconst (pc := 77) X (0) dX6_runScript_77 (by decide) ?_
          refine gd_putI (pc := 78) (kf := 0) X ci6 (by decide) rfl rfl tw_983 rfl rfl dX6_runScript_78 hk6 ?_
          refine gd_topS (fun S8 hS8 => ?_)
          have h := h S8 hS8
          have hk9 : kT S8 l0 = 7 := by rw [hS8]; exact hk6
          refine gd_aload_n (pc := 81) X 0 dX6_runScript_81 rfl ?_
          refine gd_iload_n (pc := 82) X 1 dX6_runScript_82 rfl ?_
          refine gd_iconst (pc := 83) X (5) dX6_runScript_83 (by decide) ?_
          refine gd_callV (pc := 84) (As := [.int l1, .int 5]) (rest := []) X (ct_X6_endWith l G S8 l0 l1 5 _ h) mw_X6_endWith tw_1239 ci6 rfl hk9 ⟨(Nat.le_of_ble_eq_true rfl), (Nat.le_of_ble_eq_true rfl)⟩ rfl rfl (Nat.le_of_ble_eq_true rfl) dX6_runScript_84 ⟨Nat.le_of_ble_eq_true rfl, Nat.le_of_ble_eq_true rfl⟩ (kV (fun S10 h => ?_))
          refine gd_wide (k2 := 0) (j2 := 0) (Nat.le_of_ble_eq_true rfl) (Nat.le_of_ble_eq_true rfl) ?_
          refine gd_bipush (pc := 87) X (-2) dX6_runScript_87 (by decide) ?_
          exact (gd_ret_i (pc := 89) X hr hlk rfl (by decide) (by decide) dX6_runScript_89 ⟨_, rfl, h⟩)
  have g39 : ∀ (S : MS) (l0 : Nat), b_X6_runScript_39 post S l0 → Gd p l e rm_X6_runScript s m args below meth c 3 G (MQ below (QcM G (pI_ post)) args s rm_X6_runScript.cells rm_X6_runScript.slots (Ab G)) 0 0 S 39 [(0, rf l0)] [] := by
    intro S l0 h
    refine gd_aload_n (pc := 39) X 0 dX6_runScript_39 rfl ?_
    refine gd_iconst (pc := 40) X (2) dX6_runScript_40 (by decide) ?_
    obtain ⟨hk1, h⟩ := h
    refine gd_callV (pc := 41) (As := [.int 2]) (rest := []) X (ct_X6_fail l G S l0 2 _ h) mw_X6_fail tw_1101 ci6 rfl hk1 ⟨(Nat.le_of_ble_eq_true rfl), (Nat.le_of_ble_eq_true rfl)⟩ rfl rfl (Nat.le_of_ble_eq_true rfl) dX6_runScript_41 ⟨Nat.le_of_ble_eq_true rfl, Nat.le_of_ble_eq_true rfl⟩ (kI (fun r3 S2 h => ?_))
    refine gd_wide (k2 := 0) (j2 := 0) (Nat.le_of_ble_eq_true rfl) (Nat.le_of_ble_eq_true rfl) ?_
    exact (gd_ret_i (pc := 44) X hr hlk rfl (by decide) (by decide) dX6_runScript_44 ⟨_, rfl, h⟩)
  intro h
  refine gd_aload_n (pc := 0) X 0 dX6_runScript_0 rfl ?_
  obtain ⟨hk1, h⟩ := h
  refine gd_callV (pc := 1) (As := []) (rest := []) X (ct_X6_readScript l G S a0 _ h) mw_X6_readScript tw_1380 ci6 rfl hk1 ⟨(Nat.le_of_ble_eq_true rfl), (Nat.le_of_ble_eq_true rfl)⟩ rfl rfl (Nat.le_of_ble_eq_true rfl) dX6_runScript_1 ⟨Nat.le_of_ble_eq_true rfl, Nat.le_of_ble_eq_true rfl⟩ (kV (fun S2 h => ?_))
  refine gd_wide (k2 := 0) (j2 := 0) (Nat.le_of_ble_eq_true rfl) (Nat.le_of_ble_eq_true rfl) ?_
  refine gd_aload_n (pc := 4) X 0 dX6_runScript_4 rfl ?_
  refine gd_iconst (pc := 5) X (0) dX6_runScript_5 (by decide) ?_
  obtain ⟨hk4, h⟩ := h
  refine gd_putI (pc := 6) (kf := 0) X ci6 (by decide) rfl rfl tw_983 rfl rfl dX6_runScript_6 hk4 ?_
  refine gd_topS (fun S5 hS5 => ?_)
  have h := h S5 hS5
  have hk6 : kT S5 a0 = 7 := by rw [hS5]; exact hk4
  refine gd_aload_n (pc := 9) X 0 dX6_runScript_9 rfl ?_
  refine gd_getI (pc := 10) (kf := 28) X ci6 (by decide) rfl tw_1011 dX6_runScript_10 hk6 ?_
  refine gd_iconst (pc := 13) X (-1) dX6_runScript_13 (by decide) ?_
  refine gd_icmp_eq (pc := 14) X 23 dX6_runScript_14 (by decide) (fun hc16 => ?_) (fun hc16 => ?_)
  · have h := h.1 hc16
    refine gd_aload_n (pc := 23) X 0 dX6_runScript_23 rfl ?_
    refine gd_callV (pc := 24) (As := []) (rest := []) X (ct_X6_hasRoom l G S5 a0 _ h) mw_X6_hasRoom tw_1093 ci6 rfl hk6 ⟨(Nat.le_of_ble_eq_true rfl), (Nat.le_of_ble_eq_true rfl)⟩ rfl rfl (Nat.le_of_ble_eq_true rfl) dX6_runScript_24 ⟨Nat.le_of_ble_eq_true rfl, Nat.le_of_ble_eq_true rfl⟩ (kI (fun r8 S7 h => ?_))
    refine gd_wide (k2 := 0) (j2 := 0) (Nat.le_of_ble_eq_true rfl) (Nat.le_of_ble_eq_true rfl) ?_
    refine gd_if_eq (pc := 27) X 39 dX6_runScript_27 (by decide) (fun hc13 => ?_) (fun hc13 => ?_)
    · have h := h.1 hc13
      exact g39 _ _ h
    · have h := h.2 hc13
      refine gd_aload_n (pc := 30) X 0 dX6_runScript_30 rfl ?_
      obtain ⟨hk9, h⟩ := h
      refine gd_getI (pc := 31) (kf := 14) X ci6 (by decide) rfl tw_997 dX6_runScript_31 hk9 ?_
      refine gd_bipush (pc := 34) X (60) dX6_runScript_34 (by decide) ?_
      refine gd_icmp_ne (pc := 36) X 45 dX6_runScript_36 (by decide) (fun hc12 => ?_) (fun hc12 => ?_)
      · have h := h.1 hc12
        refine gd_aload_n (pc := 45) X 0 dX6_runScript_45 rfl ?_
        refine gd_iconst (pc := 46) X (1) dX6_runScript_46 (by decide) ?_
        refine gd_callV (pc := 47) (As := [.int 1]) (rest := []) X (ct_X6_beginWith l G S7 a0 1 _ h) mw_X6_beginWith tw_1097 ci6 rfl hk9 ⟨(Nat.le_of_ble_eq_true rfl), (Nat.le_of_ble_eq_true rfl)⟩ rfl rfl (Nat.le_of_ble_eq_true rfl) dX6_runScript_47 ⟨Nat.le_of_ble_eq_true rfl, Nat.le_of_ble_eq_true rfl⟩ (kI (fun r11 S10 h => ?_))
        refine gd_wide (k2 := 0) (j2 := 0) (Nat.le_of_ble_eq_true rfl) (Nat.le_of_ble_eq_true rfl) ?_
        refine gd_istore_n (pc := 50) X dX6_runScript_50 (by decide) (E2 := [(1, .int r11), (0, rf a0)]) (by simp [rf_cat, lv1, int_cat] <;> decide) ?_
        refine gd_iconst (pc := 51) X (0) dX6_runScript_51 (by decide) ?_
        refine gd_istore_n (pc := 52) X dX6_runScript_52 (by decide) (E2 := [(2, .int 0), (1, .int r11), (0, rf a0)]) rfl ?_
        refine gd_sub [2, 1, 0] rfl ?_
        obtain ⟨f53, h⟩ := h
        exact g53 f53 _ _ _ _ h
      · have h := h.2 hc12
        exact g39 _ _ h
  · have h := h.2 hc16
    refine gd_aload_n (pc := 17) X 0 dX6_runScript_17 rfl ?_
    refine gd_iconst (pc := 18) X (1) dX6_runScript_18 (by decide) ?_
    refine gd_callV (pc := 19) (As := [.int 1]) (rest := []) X (ct_X6_fail l G S5 a0 1 _ h) mw_X6_fail tw_1101 ci6 rfl hk6 ⟨(Nat.le_of_ble_eq_true rfl), (Nat.le_of_ble_eq_true rfl)⟩ rfl rfl (Nat.le_of_ble_eq_true rfl) dX6_runScript_19 ⟨Nat.le_of_ble_eq_true rfl, Nat.le_of_ble_eq_true rfl⟩ (kI (fun r15 S14 h => ?_))
    refine gd_wide (k2 := 0) (j2 := 0) (Nat.le_of_ble_eq_true rfl) (Nat.le_of_ble_eq_true rfl) ?_
    exact (gd_ret_i (pc := 22) X hr hlk rfl (by decide) (by decide) dX6_runScript_22 ⟨_, rfl, h⟩)
abbrev rm_X6_faultPosition : Room := { frames := 0, cells := 0, slots := 0, locals := 0 }
def w_X6_faultPosition (S : MS) (a0 : Nat) (post : Int32 → MS → Prop) : Prop := kT S a0 = 7 ∧ ∀ S2 : MS, S2 = pI S a0 0 0 → post (sI S2 a0 28) S2
set_option maxHeartbeats 4000000 in
set_option maxRecDepth 100000 in
theorem ct_X6_faultPosition (l : Launch) (G : GP) (S : MS) (a0 : Nat) (post : Int32 → MS → Prop) (h : w_X6_faultPosition S a0 post) : MetM l yX6_faultPosition cX6_faultPosition 1 (some .int) rm_X6_faultPosition [rf a0] G S (pI_ post) := by
  refine met_of (by decide) (cat1_r cat1_n) (Nat.le_of_ble_eq_true rfl) ?_
  intro p e s m args below meth c X hr hlk hin
  refine gd_aload_n (pc := 0) X 0 dX6_faultPosition_0 rfl ?_
  refine gd_iconst (pc := 1) X (0) dX6_faultPosition_1 (by decide) ?_
  obtain ⟨hk1, h⟩ := h
  refine gd_putI (pc := 2) (kf := 0) X ci6 (by decide) rfl rfl tw_983 rfl rfl dX6_faultPosition_2 hk1 ?_
  refine gd_topS (fun S2 hS2 => ?_)
  have h := h S2 hS2
  have hk3 : kT S2 a0 = 7 := by rw [hS2]; exact hk1
  refine gd_aload_n (pc := 5) X 0 dX6_faultPosition_5 rfl ?_
  refine gd_getI (pc := 6) (kf := 28) X ci6 (by decide) rfl tw_1011 dX6_faultPosition_6 hk3 ?_
  exact (gd_ret_i (pc := 9) X hr hlk rfl (by decide) (by decide) dX6_faultPosition_9 ⟨_, rfl, h⟩)
