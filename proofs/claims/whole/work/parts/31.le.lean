def b_L_law_2332 (xs : Nat → Int32) (Lx : Nat) (KH28 : MS → Nat → Nat → Nat → Nat → Int32 → Prop) (S : MS) (l1 l2 l3 l4 : Nat) (l5 : Int32) : Prop := kT S l1 = 6 ∧ w_X5_faultPosition S l1 (fun r3 S2 => kT S2 l2 = 7 ∧ w_X6_faultPosition S2 l2 (fun r6 S5 => ((r3 = r6 → ∀ v7 : Int32, v7 = l5 + 5 → KH28 S5 l1 l2 l3 l4 v7) ∧ (¬ r3 = r6 → False))))
set_option maxHeartbeats 4000000 in
set_option maxRecDepth 100000 in
theorem gl_2332 {p : Program} {l : Launch} {e : Env} {s : State} {m : MethodId} {below : List Frame} {meth : Method} {c : Code} {G : GP} {b Lx : Nat} {xs : Nat → Int32} (hfl : l.stackTraces = false) (X : Cx p s m #[Value.ref b] c code 9 R_law G) (hX : va_X b Lx xs s s.heap) (hbl : b < s.heap.size) (hbA : ¬ Ab G b) (hrt : meth.sig.returnType = ret) (hlk : meth.locks = false) (hG : G.2.2 = s.heap.size) {k j : Nat} (hk : k + 36 ≤ 603072) (hj : j + 292 ≤ 7178346) (KH28 : MS → Nat → Nat → Nat → Nat → Int32 → Prop) (hKH28 : ∀ (S : MS) (l1 l2 l3 l4 : Nat) (l5 : Int32), KH28 S l1 l2 l3 l4 l5 → Gd p l e room_1 s m #[Value.ref b] below meth c 9 G (lw_Z below #[Value.ref b] s) (k + 36) (j + 292) S 28 [(0, .ref b), (1, rf l1), (2, rf l2), (3, rf l3), (4, rf l4), (5, .int l5)] []) : ∀ (S : MS) (l1 l2 l3 l4 : Nat) (l5 : Int32), b_L_law_2332 xs Lx KH28 S l1 l2 l3 l4 l5 → Gd p l e room_1 s m #[Value.ref b] below meth c 9 G (lw_Z below #[Value.ref b] s) k j S 2332 [(0, .ref b), (1, rf l1), (2, rf l2), (3, rf l3), (4, rf l4), (5, .int l5)] [] := by
  intro S l1 l2 l3 l4 l5 h
  refine gd_aload_n (pc := 2332) X 1 dL_law_2332 rfl ?_
  obtain ⟨hk1, h⟩ := h
  refine gd_callV (pc := 2333) (As := []) (rest := []) X (ct_X5_faultPosition l G S l1 _ h) mw_X5_faultPosition tw_218 ci5 rfl hk1 ⟨(by (try simp only [room_1, rm_X5_faultPosition] at *); omega), (by (try simp only [room_1, rm_X5_faultPosition] at *); omega)⟩ rfl rfl (Nat.le_of_ble_eq_true rfl) dL_law_2333 ⟨(by (try simp only [room_1, rm_X5_faultPosition] at *); omega), (by (try simp only [room_1, rm_X5_faultPosition] at *); omega)⟩ (kI (fun r3 S2 h => ?_))
  refine gd_aload_n (pc := 2336) X 2 dL_law_2336 rfl ?_
  obtain ⟨hk4, h⟩ := h
  refine gd_callV (pc := 2337) (As := []) (rest := [.int r3]) X (ct_X6_faultPosition l G S2 l2 _ h) mw_X6_faultPosition tw_1425 ci6 rfl hk4 ⟨(by (try simp only [room_1, rm_X6_faultPosition, rm_X5_faultPosition] at *); omega), (by (try simp only [room_1, rm_X6_faultPosition, rm_X5_faultPosition] at *); omega)⟩ rfl rfl (Nat.le_of_ble_eq_true rfl) dL_law_2337 ⟨(by (try simp only [room_1, rm_X6_faultPosition, rm_X5_faultPosition] at *); omega), (by (try simp only [room_1, rm_X6_faultPosition, rm_X5_faultPosition] at *); omega)⟩ (kI (fun r6 S5 h => ?_))
  refine gd_icmp_eq (pc := 2340) X 2345 dL_law_2340 (by decide) (fun hc8 => ?_) (fun hc8 => ?_)
  · have h := h.1 hc8
    obtain ⟨v7, hv7⟩ : ∃ z : Int32, z = l5 + 5 := ⟨_, rfl⟩
    have h := h v7 hv7
    refine gd_iinc (pc := 2345) (v := v7) X 5 dL_law_2345 rfl (by rw [hv7]; rfl) (by decide) (E2 := [(5, .int v7), (0, .ref b), (1, rf l1), (2, rf l2), (3, rf l3), (4, rf l4)]) (by simp [rf_cat, lv1, int_cat, ref_cat] <;> decide) ?_
    refine gd_goto (pc := 2348) X 28 dL_law_2348 (by decide) ?_
    refine gd_wide (k2 := k + 36) (j2 := j + 292) (by (try simp only [room_1, rm_X6_faultPosition, rm_X5_faultPosition] at *); omega) (by (try simp only [room_1, rm_X6_faultPosition, rm_X5_faultPosition] at *); omega) ?_
    refine gd_sub [1, 2, 3, 4, 5, 0] rfl ?_
    exact hKH28 _ _ _ _ _ _ h
  · have h := h.2 hc8
    refine gd_iconst (pc := 2343) X (0) dL_law_2343 (by decide) ?_
    exact h.elim
