def b_L_law_868 (xs : Nat → Int32) (Lx : Nat) (KH28 : MS → Nat → Nat → Nat → Nat → Int32 → Prop) (S : MS) (l1 l2 l3 l4 : Nat) (l5 : Int32) : Prop := vp_in (l5 + 1) Lx ∧ w_L_abort S l1 (xs (ix (l5 + 1))) (fun r3 S2 => vp_in (l5 + 1) Lx ∧ kT S2 l2 = 7 ∧ w_X6_abort S2 l2 (xs (ix (l5 + 1))) (fun S6 => kT S6 l2 = 7 ∧ w_X6_thrown S6 l2 (fun r10 S9 => ((r10 = r3 → ∀ v11 : Int32, v11 = l5 + 5 → KH28 S9 l1 l2 l3 l4 v11) ∧ (¬ r10 = r3 → False)))))
set_option maxHeartbeats 4000000 in
set_option maxRecDepth 100000 in
theorem gl_868 {p : Program} {l : Launch} {e : Env} {s : State} {m : MethodId} {below : List Frame} {meth : Method} {c : Code} {G : GP} {b Lx : Nat} {xs : Nat → Int32} (hfl : l.stackTraces = false) (X : Cx p s m #[Value.ref b] c code 9 R_law G) (hX : va_X b Lx xs s s.heap) (hbl : b < s.heap.size) (hbA : ¬ Ab G b) (hrt : meth.sig.returnType = ret) (hlk : meth.locks = false) (hG : G.2.2 = s.heap.size) {k j : Nat} (hk : k + 36 ≤ 603072) (hj : j + 292 ≤ 7178346) (KH28 : MS → Nat → Nat → Nat → Nat → Int32 → Prop) (hKH28 : ∀ (S : MS) (l1 l2 l3 l4 : Nat) (l5 : Int32), KH28 S l1 l2 l3 l4 l5 → Gd p l e room_1 s m #[Value.ref b] below meth c 9 G (lw_Z below #[Value.ref b] s) (k + 36) (j + 292) S 28 [(0, .ref b), (1, rf l1), (2, rf l2), (3, rf l3), (4, rf l4), (5, .int l5)] []) : ∀ (S : MS) (l1 l2 l3 l4 : Nat) (l5 : Int32), b_L_law_868 xs Lx KH28 S l1 l2 l3 l4 l5 → Gd p l e room_1 s m #[Value.ref b] below meth c 9 G (lw_Z below #[Value.ref b] s) k j S 868 [(0, .ref b), (1, rf l1), (2, rf l2), (3, rf l3), (4, rf l4), (5, .int l5)] [] := by
  intro S l1 l2 l3 l4 l5 h
  refine gd_aload_n (pc := 868) X 1 dL_law_868 rfl ?_
  refine gd_aloadP (pc := 869) X 0 dL_law_869 rfl ?_
  refine gd_iload (pc := 870) X 5 dL_law_870 rfl ?_
  refine gd_iconst (pc := 872) X (1) dL_law_872 (by decide) ?_
  refine gd_iadd (pc := 873) X dL_law_873 ?_
  obtain ⟨hi1, h⟩ := h
  refine gd_sld (pc := 874) X hX hbl hbA dL_law_874 hi1 ?_
  refine gd_callW (n := 2) (pc := 875) (As := [rf l1, .int (xs (ix (l5 + 1)))]) (rest := []) X (ct_L_abort l hfl G S l1 (xs (ix (l5 + 1))) _ h) tw_666 tw_0 tw_667 ⟨by decide, by decide, by decide +kernel⟩ tw_665 ⟨(by (try simp only [room_1, rm_L_abort] at *); omega), (by (try simp only [room_1, rm_L_abort] at *); omega)⟩ rfl rfl (Nat.le_of_ble_eq_true rfl) dL_law_875 ⟨(by (try simp only [room_1, rm_L_abort] at *); omega), (by (try simp only [room_1, rm_L_abort] at *); omega)⟩ (kI (fun r3 S2 h => ?_))
  refine gd_istore (pc := 878) X dL_law_878 (by decide) (E2 := [(6, .int r3), (0, .ref b), (1, rf l1), (2, rf l2), (3, rf l3), (4, rf l4), (5, .int l5)]) rfl ?_
  refine gd_aload_n (pc := 880) X 3 dL_law_880 rfl ?_
  refine gd_aloadP (pc := 881) X 1 dL_law_881 rfl ?_
  refine gd_iload (pc := 882) X 6 dL_law_882 rfl ?_
  refine gd_iconst (pc := 884) X (1) dL_law_884 (by decide) ?_
  refine gd_iadd (pc := 885) X dL_law_885 ?_
  obtain ⟨hi4, h⟩ := h
  refine gd_sld (pc := 886) X hX hbl hbA dL_law_886 hi4 ?_
  obtain ⟨hk5, h⟩ := h
  refine gd_callV (pc := 887) (As := [.int (xs (ix (l5 + 1)))]) (rest := []) X (ct_X6_abort l G S2 l2 (xs (ix (l5 + 1))) _ h) mw_X6_abort tw_1243 ci6 rfl hk5 ⟨(by (try simp only [room_1, rm_X6_abort, rm_L_abort] at *); omega), (by (try simp only [room_1, rm_X6_abort, rm_L_abort] at *); omega)⟩ rfl rfl (Nat.le_of_ble_eq_true rfl) dL_law_887 ⟨(by (try simp only [room_1, rm_X6_abort, rm_L_abort] at *); omega), (by (try simp only [room_1, rm_X6_abort, rm_L_abort] at *); omega)⟩ (kV (fun S6 h => ?_))
  refine gd_aload_n (pc := 890) X 3 dL_law_890 rfl ?_
  obtain ⟨hk8, h⟩ := h
  refine gd_callV (pc := 891) (As := []) (rest := []) X (ct_X6_thrown l G S6 l2 _ h) mw_X6_thrown tw_973 ci6 rfl hk8 ⟨(by (try simp only [room_1, rm_X6_thrown, rm_L_abort, rm_X6_abort] at *); omega), (by (try simp only [room_1, rm_X6_thrown, rm_L_abort, rm_X6_abort] at *); omega)⟩ rfl rfl (Nat.le_of_ble_eq_true rfl) dL_law_891 ⟨(by (try simp only [room_1, rm_X6_thrown, rm_L_abort, rm_X6_abort] at *); omega), (by (try simp only [room_1, rm_X6_thrown, rm_L_abort, rm_X6_abort] at *); omega)⟩ (kI (fun r10 S9 h => ?_))
  refine gd_iload (pc := 894) X 0 dL_law_894 rfl ?_
  refine gd_icmp_eq (pc := 896) X 901 dL_law_896 (by decide) (fun hc12 => ?_) (fun hc12 => ?_)
  · have h := h.1 hc12
    refine gd_goto (pc := 901) X 2345 dL_law_901 (by decide) ?_
    obtain ⟨v11, hv11⟩ : ∃ z : Int32, z = l5 + 5 := ⟨_, rfl⟩
    have h := h v11 hv11
    refine gd_iinc (pc := 2345) (v := v11) X 6 dL_law_2345 rfl (by rw [hv11]; rfl) (by decide) (E2 := [(5, .int v11), (6, .int r3), (0, .ref b), (1, rf l1), (2, rf l2), (3, rf l3), (4, rf l4)]) (by simp [rf_cat, lv1, int_cat, ref_cat] <;> decide) ?_
    refine gd_goto (pc := 2348) X 28 dL_law_2348 (by decide) ?_
    refine gd_wide (k2 := k + 36) (j2 := j + 292) (by (try simp only [room_1, rm_X6_thrown, rm_L_abort, rm_X6_abort] at *); omega) (by (try simp only [room_1, rm_X6_thrown, rm_L_abort, rm_X6_abort] at *); omega) ?_
    refine gd_sub [2, 3, 4, 5, 6, 0] rfl ?_
    exact hKH28 _ _ _ _ _ _ h
  · have h := h.2 hc12
    refine gd_iconst (pc := 899) X (0) dL_law_899 (by decide) ?_
    exact h.elim
def b_L_law_904 (xs : Nat → Int32) (Lx : Nat) (KH28 : MS → Nat → Nat → Nat → Nat → Int32 → Prop) (S : MS) (l1 l2 l3 l4 : Nat) (l5 : Int32) : Prop := kT S l1 = 6 ∧ w_X5_clock S l1 (fun r3 S2 => kT S2 l2 = 7 ∧ w_X6_clock S2 l2 (fun r6 S5 => ((r3 = r6 → ∀ v7 : Int32, v7 = l5 + 5 → KH28 S5 l1 l2 l3 l4 v7) ∧ (¬ r3 = r6 → False))))
set_option maxHeartbeats 4000000 in
set_option maxRecDepth 100000 in
theorem gl_904 {p : Program} {l : Launch} {e : Env} {s : State} {m : MethodId} {below : List Frame} {meth : Method} {c : Code} {G : GP} {b Lx : Nat} {xs : Nat → Int32} (hfl : l.stackTraces = false) (X : Cx p s m #[Value.ref b] c code 9 R_law G) (hX : va_X b Lx xs s s.heap) (hbl : b < s.heap.size) (hbA : ¬ Ab G b) (hrt : meth.sig.returnType = ret) (hlk : meth.locks = false) (hG : G.2.2 = s.heap.size) {k j : Nat} (hk : k + 36 ≤ 603072) (hj : j + 292 ≤ 7178346) (KH28 : MS → Nat → Nat → Nat → Nat → Int32 → Prop) (hKH28 : ∀ (S : MS) (l1 l2 l3 l4 : Nat) (l5 : Int32), KH28 S l1 l2 l3 l4 l5 → Gd p l e room_1 s m #[Value.ref b] below meth c 9 G (lw_Z below #[Value.ref b] s) (k + 36) (j + 292) S 28 [(0, .ref b), (1, rf l1), (2, rf l2), (3, rf l3), (4, rf l4), (5, .int l5)] []) : ∀ (S : MS) (l1 l2 l3 l4 : Nat) (l5 : Int32), b_L_law_904 xs Lx KH28 S l1 l2 l3 l4 l5 → Gd p l e room_1 s m #[Value.ref b] below meth c 9 G (lw_Z below #[Value.ref b] s) k j S 904 [(0, .ref b), (1, rf l1), (2, rf l2), (3, rf l3), (4, rf l4), (5, .int l5)] [] := by
  intro S l1 l2 l3 l4 l5 h
  refine gd_aload_n (pc := 904) X 1 dL_law_904 rfl ?_
  obtain ⟨hk1, h⟩ := h
  refine gd_callV (pc := 905) (As := []) (rest := []) X (ct_X5_clock l G S l1 _ h) mw_X5_clock tw_125 ci5 rfl hk1 ⟨(by (try simp only [room_1, rm_X5_clock] at *); omega), (by (try simp only [room_1, rm_X5_clock] at *); omega)⟩ rfl rfl (Nat.le_of_ble_eq_true rfl) dL_law_905 ⟨(by (try simp only [room_1, rm_X5_clock] at *); omega), (by (try simp only [room_1, rm_X5_clock] at *); omega)⟩ (kI (fun r3 S2 h => ?_))
  refine gd_aload_n (pc := 908) X 2 dL_law_908 rfl ?_
  obtain ⟨hk4, h⟩ := h
  refine gd_callV (pc := 909) (As := []) (rest := [.int r3]) X (ct_X6_clock l G S2 l2 _ h) mw_X6_clock tw_1247 ci6 rfl hk4 ⟨(by (try simp only [room_1, rm_X6_clock, rm_X5_clock] at *); omega), (by (try simp only [room_1, rm_X6_clock, rm_X5_clock] at *); omega)⟩ rfl rfl (Nat.le_of_ble_eq_true rfl) dL_law_909 ⟨(by (try simp only [room_1, rm_X6_clock, rm_X5_clock] at *); omega), (by (try simp only [room_1, rm_X6_clock, rm_X5_clock] at *); omega)⟩ (kI (fun r6 S5 h => ?_))
  refine gd_icmp_eq (pc := 912) X 2345 dL_law_912 (by decide) (fun hc8 => ?_) (fun hc8 => ?_)
  · have h := h.1 hc8
    obtain ⟨v7, hv7⟩ : ∃ z : Int32, z = l5 + 5 := ⟨_, rfl⟩
    have h := h v7 hv7
    refine gd_iinc (pc := 2345) (v := v7) X 5 dL_law_2345 rfl (by rw [hv7]; rfl) (by decide) (E2 := [(5, .int v7), (0, .ref b), (1, rf l1), (2, rf l2), (3, rf l3), (4, rf l4)]) (by simp [rf_cat, lv1, int_cat, ref_cat] <;> decide) ?_
    refine gd_goto (pc := 2348) X 28 dL_law_2348 (by decide) ?_
    refine gd_wide (k2 := k + 36) (j2 := j + 292) (by (try simp only [room_1, rm_X6_clock, rm_X5_clock] at *); omega) (by (try simp only [room_1, rm_X6_clock, rm_X5_clock] at *); omega) ?_
    refine gd_sub [1, 2, 3, 4, 5, 0] rfl ?_
    exact hKH28 _ _ _ _ _ _ h
  · have h := h.2 hc8
    refine gd_iconst (pc := 915) X (0) dL_law_915 (by decide) ?_
    exact h.elim
def b_L_law_917 (xs : Nat → Int32) (Lx : Nat) (KH28 : MS → Nat → Nat → Nat → Nat → Int32 → Prop) (S : MS) (l1 l2 l3 l4 : Nat) (l5 : Int32) : Prop := kT S l1 = 6 ∧ w_X5_transactionCount S l1 (fun r3 S2 => kT S2 l2 = 7 ∧ w_X6_transactionCount S2 l2 (fun r6 S5 => ((r3 = r6 → ∀ v7 : Int32, v7 = l5 + 5 → KH28 S5 l1 l2 l3 l4 v7) ∧ (¬ r3 = r6 → False))))
set_option maxHeartbeats 4000000 in
set_option maxRecDepth 100000 in
theorem gl_917 {p : Program} {l : Launch} {e : Env} {s : State} {m : MethodId} {below : List Frame} {meth : Method} {c : Code} {G : GP} {b Lx : Nat} {xs : Nat → Int32} (hfl : l.stackTraces = false) (X : Cx p s m #[Value.ref b] c code 9 R_law G) (hX : va_X b Lx xs s s.heap) (hbl : b < s.heap.size) (hbA : ¬ Ab G b) (hrt : meth.sig.returnType = ret) (hlk : meth.locks = false) (hG : G.2.2 = s.heap.size) {k j : Nat} (hk : k + 36 ≤ 603072) (hj : j + 292 ≤ 7178346) (KH28 : MS → Nat → Nat → Nat → Nat → Int32 → Prop) (hKH28 : ∀ (S : MS) (l1 l2 l3 l4 : Nat) (l5 : Int32), KH28 S l1 l2 l3 l4 l5 → Gd p l e room_1 s m #[Value.ref b] below meth c 9 G (lw_Z below #[Value.ref b] s) (k + 36) (j + 292) S 28 [(0, .ref b), (1, rf l1), (2, rf l2), (3, rf l3), (4, rf l4), (5, .int l5)] []) : ∀ (S : MS) (l1 l2 l3 l4 : Nat) (l5 : Int32), b_L_law_917 xs Lx KH28 S l1 l2 l3 l4 l5 → Gd p l e room_1 s m #[Value.ref b] below meth c 9 G (lw_Z below #[Value.ref b] s) k j S 917 [(0, .ref b), (1, rf l1), (2, rf l2), (3, rf l3), (4, rf l4), (5, .int l5)] [] := by
  intro S l1 l2 l3 l4 l5 h
  refine gd_aload_n (pc := 917) X 1 dL_law_917 rfl ?_
  obtain ⟨hk1, h⟩ := h
  refine gd_callV (pc := 918) (As := []) (rest := []) X (ct_X5_transactionCount l G S l1 _ h) mw_X5_transactionCount tw_129 ci5 rfl hk1 ⟨(by (try simp only [room_1, rm_X5_transactionCount] at *); omega), (by (try simp only [room_1, rm_X5_transactionCount] at *); omega)⟩ rfl rfl (Nat.le_of_ble_eq_true rfl) dL_law_918 ⟨(by (try simp only [room_1, rm_X5_transactionCount] at *); omega), (by (try simp only [room_1, rm_X5_transactionCount] at *); omega)⟩ (kI (fun r3 S2 h => ?_))
  refine gd_aload_n (pc := 921) X 2 dL_law_921 rfl ?_
  obtain ⟨hk4, h⟩ := h
  refine gd_callV (pc := 922) (As := []) (rest := [.int r3]) X (ct_X6_transactionCount l G S2 l2 _ h) mw_X6_transactionCount tw_1251 ci6 rfl hk4 ⟨(by (try simp only [room_1, rm_X6_transactionCount, rm_X5_transactionCount] at *); omega), (by (try simp only [room_1, rm_X6_transactionCount, rm_X5_transactionCount] at *); omega)⟩ rfl rfl (Nat.le_of_ble_eq_true rfl) dL_law_922 ⟨(by (try simp only [room_1, rm_X6_transactionCount, rm_X5_transactionCount] at *); omega), (by (try simp only [room_1, rm_X6_transactionCount, rm_X5_transactionCount] at *); omega)⟩ (kI (fun r6 S5 h => ?_))
  refine gd_icmp_eq (pc := 925) X 2345 dL_law_925 (by decide) (fun hc8 => ?_) (fun hc8 => ?_)
  · have h := h.1 hc8
    obtain ⟨v7, hv7⟩ : ∃ z : Int32, z = l5 + 5 := ⟨_, rfl⟩
    have h := h v7 hv7
    refine gd_iinc (pc := 2345) (v := v7) X 5 dL_law_2345 rfl (by rw [hv7]; rfl) (by decide) (E2 := [(5, .int v7), (0, .ref b), (1, rf l1), (2, rf l2), (3, rf l3), (4, rf l4)]) (by simp [rf_cat, lv1, int_cat, ref_cat] <;> decide) ?_
    refine gd_goto (pc := 2348) X 28 dL_law_2348 (by decide) ?_
    refine gd_wide (k2 := k + 36) (j2 := j + 292) (by (try simp only [room_1, rm_X6_transactionCount, rm_X5_transactionCount] at *); omega) (by (try simp only [room_1, rm_X6_transactionCount, rm_X5_transactionCount] at *); omega) ?_
    refine gd_sub [1, 2, 3, 4, 5, 0] rfl ?_
    exact hKH28 _ _ _ _ _ _ h
  · have h := h.2 hc8
    refine gd_iconst (pc := 928) X (0) dL_law_928 (by decide) ?_
    exact h.elim
def b_L_law_930 (xs : Nat → Int32) (Lx : Nat) (KH28 : MS → Nat → Nat → Nat → Nat → Int32 → Prop) (S : MS) (l1 l2 l3 l4 : Nat) (l5 : Int32) : Prop := kT S l1 = 6 ∧ w_X5_activeCount S l1 (fun r3 S2 => kT S2 l2 = 7 ∧ w_X6_activeCount S2 l2 (fun r6 S5 => ((r3 = r6 → ∀ v7 : Int32, v7 = l5 + 5 → KH28 S5 l1 l2 l3 l4 v7) ∧ (¬ r3 = r6 → False))))
set_option maxHeartbeats 4000000 in
set_option maxRecDepth 100000 in
theorem gl_930 {p : Program} {l : Launch} {e : Env} {s : State} {m : MethodId} {below : List Frame} {meth : Method} {c : Code} {G : GP} {b Lx : Nat} {xs : Nat → Int32} (hfl : l.stackTraces = false) (X : Cx p s m #[Value.ref b] c code 9 R_law G) (hX : va_X b Lx xs s s.heap) (hbl : b < s.heap.size) (hbA : ¬ Ab G b) (hrt : meth.sig.returnType = ret) (hlk : meth.locks = false) (hG : G.2.2 = s.heap.size) {k j : Nat} (hk : k + 36 ≤ 603072) (hj : j + 292 ≤ 7178346) (KH28 : MS → Nat → Nat → Nat → Nat → Int32 → Prop) (hKH28 : ∀ (S : MS) (l1 l2 l3 l4 : Nat) (l5 : Int32), KH28 S l1 l2 l3 l4 l5 → Gd p l e room_1 s m #[Value.ref b] below meth c 9 G (lw_Z below #[Value.ref b] s) (k + 36) (j + 292) S 28 [(0, .ref b), (1, rf l1), (2, rf l2), (3, rf l3), (4, rf l4), (5, .int l5)] []) : ∀ (S : MS) (l1 l2 l3 l4 : Nat) (l5 : Int32), b_L_law_930 xs Lx KH28 S l1 l2 l3 l4 l5 → Gd p l e room_1 s m #[Value.ref b] below meth c 9 G (lw_Z below #[Value.ref b] s) k j S 930 [(0, .ref b), (1, rf l1), (2, rf l2), (3, rf l3), (4, rf l4), (5, .int l5)] [] := by
  intro S l1 l2 l3 l4 l5 h
  refine gd_aload_n (pc := 930) X 1 dL_law_930 rfl ?_
  obtain ⟨hk1, h⟩ := h
  refine gd_callV (pc := 931) (As := []) (rest := []) X (ct_X5_activeCount l G S l1 _ h) mw_X5_activeCount tw_133 ci5 rfl hk1 ⟨(by (try simp only [room_1, rm_X5_activeCount] at *); omega), (by (try simp only [room_1, rm_X5_activeCount] at *); omega)⟩ rfl rfl (Nat.le_of_ble_eq_true rfl) dL_law_931 ⟨(by (try simp only [room_1, rm_X5_activeCount] at *); omega), (by (try simp only [room_1, rm_X5_activeCount] at *); omega)⟩ (kI (fun r3 S2 h => ?_))
  refine gd_aload_n (pc := 934) X 2 dL_law_934 rfl ?_
  obtain ⟨hk4, h⟩ := h
  refine gd_callV (pc := 935) (As := []) (rest := [.int r3]) X (ct_X6_activeCount l G S2 l2 _ h) mw_X6_activeCount tw_1255 ci6 rfl hk4 ⟨(by (try simp only [room_1, rm_X6_activeCount, rm_X5_activeCount] at *); omega), (by (try simp only [room_1, rm_X6_activeCount, rm_X5_activeCount] at *); omega)⟩ rfl rfl (Nat.le_of_ble_eq_true rfl) dL_law_935 ⟨(by (try simp only [room_1, rm_X6_activeCount, rm_X5_activeCount] at *); omega), (by (try simp only [room_1, rm_X6_activeCount, rm_X5_activeCount] at *); omega)⟩ (kI (fun r6 S5 h => ?_))
  refine gd_icmp_eq (pc := 938) X 2345 dL_law_938 (by decide) (fun hc8 => ?_) (fun hc8 => ?_)
  · have h := h.1 hc8
    obtain ⟨v7, hv7⟩ : ∃ z : Int32, z = l5 + 5 := ⟨_, rfl⟩
    have h := h v7 hv7
    refine gd_iinc (pc := 2345) (v := v7) X 5 dL_law_2345 rfl (by rw [hv7]; rfl) (by decide) (E2 := [(5, .int v7), (0, .ref b), (1, rf l1), (2, rf l2), (3, rf l3), (4, rf l4)]) (by simp [rf_cat, lv1, int_cat, ref_cat] <;> decide) ?_
    refine gd_goto (pc := 2348) X 28 dL_law_2348 (by decide) ?_
    refine gd_wide (k2 := k + 36) (j2 := j + 292) (by (try simp only [room_1, rm_X6_activeCount, rm_X5_activeCount] at *); omega) (by (try simp only [room_1, rm_X6_activeCount, rm_X5_activeCount] at *); omega) ?_
    refine gd_sub [1, 2, 3, 4, 5, 0] rfl ?_
    exact hKH28 _ _ _ _ _ _ h
  · have h := h.2 hc8
    refine gd_iconst (pc := 941) X (0) dL_law_941 (by decide) ?_
    exact h.elim
def b_L_law_943 (xs : Nat → Int32) (Lx : Nat) (KH28 : MS → Nat → Nat → Nat → Nat → Int32 → Prop) (S : MS) (l1 l2 l3 l4 : Nat) (l5 : Int32) : Prop := w_L_ticketHolder S l1 l3 (fun r2 S1 => kT S1 l2 = 7 ∧ w_X6_ticketHolder S1 l2 (fun r5 S4 => kT S4 l2 = 7 ∧ w_X6_thrown S4 l2 (fun r8 S7 => ((r8 = r2 → ((¬ r2 = 0 → ∀ v9 : Int32, v9 = l5 + 5 → KH28 S7 l1 l2 l3 l4 v9) ∧ (r2 = 0 → kT S7 l3 = 15 ∧ vp_in 0 (kL S7 l3) ∧ (((lg_cmp (sL S7 l3 (ix 0)) r5.toInt64) = 0 → ∀ v12 : Int32, v12 = l5 + 5 → KH28 S7 l1 l2 l3 l4 v12) ∧ (¬ (lg_cmp (sL S7 l3 (ix 0)) r5.toInt64) = 0 → False))))) ∧ (¬ r8 = r2 → False)))))
set_option maxHeartbeats 4000000 in
set_option maxRecDepth 100000 in
theorem gl_943 {p : Program} {l : Launch} {e : Env} {s : State} {m : MethodId} {below : List Frame} {meth : Method} {c : Code} {G : GP} {b Lx : Nat} {xs : Nat → Int32} (hfl : l.stackTraces = false) (X : Cx p s m #[Value.ref b] c code 9 R_law G) (hX : va_X b Lx xs s s.heap) (hbl : b < s.heap.size) (hbA : ¬ Ab G b) (hrt : meth.sig.returnType = ret) (hlk : meth.locks = false) (hG : G.2.2 = s.heap.size) {k j : Nat} (hk : k + 36 ≤ 603072) (hj : j + 292 ≤ 7178346) (KH28 : MS → Nat → Nat → Nat → Nat → Int32 → Prop) (hKH28 : ∀ (S : MS) (l1 l2 l3 l4 : Nat) (l5 : Int32), KH28 S l1 l2 l3 l4 l5 → Gd p l e room_1 s m #[Value.ref b] below meth c 9 G (lw_Z below #[Value.ref b] s) (k + 36) (j + 292) S 28 [(0, .ref b), (1, rf l1), (2, rf l2), (3, rf l3), (4, rf l4), (5, .int l5)] []) : ∀ (S : MS) (l1 l2 l3 l4 : Nat) (l5 : Int32), b_L_law_943 xs Lx KH28 S l1 l2 l3 l4 l5 → Gd p l e room_1 s m #[Value.ref b] below meth c 9 G (lw_Z below #[Value.ref b] s) k j S 943 [(0, .ref b), (1, rf l1), (2, rf l2), (3, rf l3), (4, rf l4), (5, .int l5)] [] := by
  intro S l1 l2 l3 l4 l5 h
  refine gd_aload_n (pc := 943) X 1 dL_law_943 rfl ?_
  refine gd_aload_n (pc := 944) X 3 dL_law_944 rfl ?_
  refine gd_callW (n := 2) (pc := 945) (As := [rf l1, rf l3]) (rest := []) X (ct_L_ticketHolder l hfl G S l1 l3 _ h) tw_678 tw_0 tw_679 ⟨by decide, by decide, by decide +kernel⟩ tw_677 ⟨(by (try simp only [room_1, rm_L_ticketHolder] at *); omega), (by (try simp only [room_1, rm_L_ticketHolder] at *); omega)⟩ rfl rfl (Nat.le_of_ble_eq_true rfl) dL_law_945 ⟨(by (try simp only [room_1, rm_L_ticketHolder] at *); omega), (by (try simp only [room_1, rm_L_ticketHolder] at *); omega)⟩ (kI (fun r2 S1 h => ?_))
  refine gd_istore (pc := 948) X dL_law_948 (by decide) (E2 := [(6, .int r2), (0, .ref b), (1, rf l1), (2, rf l2), (3, rf l3), (4, rf l4), (5, .int l5)]) rfl ?_
  refine gd_aload_n (pc := 950) X 3 dL_law_950 rfl ?_
  obtain ⟨hk3, h⟩ := h
  refine gd_callV (pc := 951) (As := []) (rest := []) X (ct_X6_ticketHolder l G S1 l2 _ h) mw_X6_ticketHolder tw_1259 ci6 rfl hk3 ⟨(by (try simp only [room_1, rm_X6_ticketHolder, rm_L_ticketHolder] at *); omega), (by (try simp only [room_1, rm_X6_ticketHolder, rm_L_ticketHolder] at *); omega)⟩ rfl rfl (Nat.le_of_ble_eq_true rfl) dL_law_951 ⟨(by (try simp only [room_1, rm_X6_ticketHolder, rm_L_ticketHolder] at *); omega), (by (try simp only [room_1, rm_X6_ticketHolder, rm_L_ticketHolder] at *); omega)⟩ (kI (fun r5 S4 h => ?_))
  refine gd_istore (pc := 954) X dL_law_954 (by decide) (E2 := [(7, .int r5), (6, .int r2), (0, .ref b), (1, rf l1), (2, rf l2), (3, rf l3), (4, rf l4), (5, .int l5)]) rfl ?_
  refine gd_aload_n (pc := 956) X 4 dL_law_956 rfl ?_
  obtain ⟨hk6, h⟩ := h
  refine gd_callV (pc := 957) (As := []) (rest := []) X (ct_X6_thrown l G S4 l2 _ h) mw_X6_thrown tw_973 ci6 rfl hk6 ⟨(by (try simp only [room_1, rm_X6_thrown, rm_L_ticketHolder, rm_X6_ticketHolder] at *); omega), (by (try simp only [room_1, rm_X6_thrown, rm_L_ticketHolder, rm_X6_ticketHolder] at *); omega)⟩ rfl rfl (Nat.le_of_ble_eq_true rfl) dL_law_957 ⟨(by (try simp only [room_1, rm_X6_thrown, rm_L_ticketHolder, rm_X6_ticketHolder] at *); omega), (by (try simp only [room_1, rm_X6_thrown, rm_L_ticketHolder, rm_X6_ticketHolder] at *); omega)⟩ (kI (fun r8 S7 h => ?_))
  refine gd_iload (pc := 960) X 1 dL_law_960 rfl ?_
  refine gd_icmp_eq (pc := 962) X 967 dL_law_962 (by decide) (fun hc15 => ?_) (fun hc15 => ?_)
  · have h := h.1 hc15
    refine gd_iload (pc := 967) X 1 dL_law_967 rfl ?_
    refine gd_if_ne (pc := 969) X 984 dL_law_969 (by decide) (fun hc14 => ?_) (fun hc14 => ?_)
    · have h := h.1 hc14
      refine gd_goto (pc := 984) X 2345 dL_law_984 (by decide) ?_
      obtain ⟨v9, hv9⟩ : ∃ z : Int32, z = l5 + 5 := ⟨_, rfl⟩
      have h := h v9 hv9
      refine gd_iinc (pc := 2345) (v := v9) X 7 dL_law_2345 rfl (by rw [hv9]; rfl) (by decide) (E2 := [(5, .int v9), (7, .int r5), (6, .int r2), (0, .ref b), (1, rf l1), (2, rf l2), (3, rf l3), (4, rf l4)]) (by simp [rf_cat, lv1, int_cat, ref_cat] <;> decide) ?_
      refine gd_goto (pc := 2348) X 28 dL_law_2348 (by decide) ?_
      refine gd_wide (k2 := k + 36) (j2 := j + 292) (by (try simp only [room_1, rm_X6_thrown, rm_L_ticketHolder, rm_X6_ticketHolder] at *); omega) (by (try simp only [room_1, rm_X6_thrown, rm_L_ticketHolder, rm_X6_ticketHolder] at *); omega) ?_
      refine gd_sub [3, 4, 5, 6, 7, 0] rfl ?_
      exact hKH28 _ _ _ _ _ _ h
    · have h := h.2 hc14
      refine gd_aload_n (pc := 972) X 5 dL_law_972 rfl ?_
      refine gd_iconst (pc := 973) X (0) dL_law_973 (by decide) ?_
      obtain ⟨hk10, h⟩ := h
      obtain ⟨hi11, h⟩ := h
      refine gd_lald (pc := 974) X dL_law_974 hk10 hi11 ?_
      refine gd_iload (pc := 975) X 0 dL_law_975 rfl ?_
      refine gd_i2l (pc := 977) X dL_law_977 ?_
      refine gd_lcmp (pc := 978) X dL_law_978 ?_
      refine gd_if_eq (pc := 979) X 984 dL_law_979 (by decide) (fun hc13 => ?_) (fun hc13 => ?_)
      · have h := h.1 hc13
        refine gd_goto (pc := 984) X 2345 dL_law_984 (by decide) ?_
        obtain ⟨v12, hv12⟩ : ∃ z : Int32, z = l5 + 5 := ⟨_, rfl⟩
        have h := h v12 hv12
        refine gd_iinc (pc := 2345) (v := v12) X 7 dL_law_2345 rfl (by rw [hv12]; rfl) (by decide) (E2 := [(5, .int v12), (7, .int r5), (6, .int r2), (0, .ref b), (1, rf l1), (2, rf l2), (3, rf l3), (4, rf l4)]) (by simp [rf_cat, lv1, int_cat, ref_cat] <;> decide) ?_
        refine gd_goto (pc := 2348) X 28 dL_law_2348 (by decide) ?_
        refine gd_wide (k2 := k + 36) (j2 := j + 292) (by (try simp only [room_1, rm_X6_thrown, rm_L_ticketHolder, rm_X6_ticketHolder] at *); omega) (by (try simp only [room_1, rm_X6_thrown, rm_L_ticketHolder, rm_X6_ticketHolder] at *); omega) ?_
        refine gd_sub [3, 4, 5, 6, 7, 0] rfl ?_
        exact hKH28 _ _ _ _ _ _ h
      · have h := h.2 hc13
        refine gd_iconst (pc := 982) X (0) dL_law_982 (by decide) ?_
        exact h.elim
  · have h := h.2 hc15
    refine gd_iconst (pc := 965) X (0) dL_law_965 (by decide) ?_
    exact h.elim
def b_L_law_987 (xs : Nat → Int32) (Lx : Nat) (KH28 : MS → Nat → Nat → Nat → Nat → Int32 → Prop) (S : MS) (l1 l2 l3 l4 : Nat) (l5 : Int32) : Prop := vp_in (l5 + 1) Lx ∧ w_L_state S l1 (xs (ix (l5 + 1))) l3 (fun r3 S2 => vp_in (l5 + 1) Lx ∧ kT S2 l2 = 7 ∧ w_X6_state S2 l2 (xs (ix (l5 + 1))) (fun r7 S6 => kT S6 l2 = 7 ∧ w_X6_thrown S6 l2 (fun r10 S9 => ((r10 = r3 → ((¬ r3 = 0 → ∀ v11 : Int32, v11 = l5 + 5 → KH28 S9 l1 l2 l3 l4 v11) ∧ (r3 = 0 → kT S9 l3 = 15 ∧ vp_in 0 (kL S9 l3) ∧ (((lg_cmp (sL S9 l3 (ix 0)) r7.toInt64) = 0 → ∀ v14 : Int32, v14 = l5 + 5 → KH28 S9 l1 l2 l3 l4 v14) ∧ (¬ (lg_cmp (sL S9 l3 (ix 0)) r7.toInt64) = 0 → False))))) ∧ (¬ r10 = r3 → False)))))
set_option maxHeartbeats 4000000 in
set_option maxRecDepth 100000 in
theorem gl_987 {p : Program} {l : Launch} {e : Env} {s : State} {m : MethodId} {below : List Frame} {meth : Method} {c : Code} {G : GP} {b Lx : Nat} {xs : Nat → Int32} (hfl : l.stackTraces = false) (X : Cx p s m #[Value.ref b] c code 9 R_law G) (hX : va_X b Lx xs s s.heap) (hbl : b < s.heap.size) (hbA : ¬ Ab G b) (hrt : meth.sig.returnType = ret) (hlk : meth.locks = false) (hG : G.2.2 = s.heap.size) {k j : Nat} (hk : k + 36 ≤ 603072) (hj : j + 292 ≤ 7178346) (KH28 : MS → Nat → Nat → Nat → Nat → Int32 → Prop) (hKH28 : ∀ (S : MS) (l1 l2 l3 l4 : Nat) (l5 : Int32), KH28 S l1 l2 l3 l4 l5 → Gd p l e room_1 s m #[Value.ref b] below meth c 9 G (lw_Z below #[Value.ref b] s) (k + 36) (j + 292) S 28 [(0, .ref b), (1, rf l1), (2, rf l2), (3, rf l3), (4, rf l4), (5, .int l5)] []) : ∀ (S : MS) (l1 l2 l3 l4 : Nat) (l5 : Int32), b_L_law_987 xs Lx KH28 S l1 l2 l3 l4 l5 → Gd p l e room_1 s m #[Value.ref b] below meth c 9 G (lw_Z below #[Value.ref b] s) k j S 987 [(0, .ref b), (1, rf l1), (2, rf l2), (3, rf l3), (4, rf l4), (5, .int l5)] [] := by
  intro S l1 l2 l3 l4 l5 h
  refine gd_aload_n (pc := 987) X 1 dL_law_987 rfl ?_
  refine gd_aloadP (pc := 988) X 0 dL_law_988 rfl ?_
  refine gd_iload (pc := 989) X 5 dL_law_989 rfl ?_
  refine gd_iconst (pc := 991) X (1) dL_law_991 (by decide) ?_
  refine gd_iadd (pc := 992) X dL_law_992 ?_
  obtain ⟨hi1, h⟩ := h
  refine gd_sld (pc := 993) X hX hbl hbA dL_law_993 hi1 ?_
  refine gd_aload_n (pc := 994) X 3 dL_law_994 rfl ?_
  refine gd_callW (n := 3) (pc := 995) (As := [rf l1, .int (xs (ix (l5 + 1))), rf l3]) (rest := []) X (ct_L_state l hfl G S l1 (xs (ix (l5 + 1))) l3 _ h) tw_702 tw_0 tw_703 ⟨by decide, by decide, by decide +kernel⟩ tw_701 ⟨(by (try simp only [room_1, rm_L_state] at *); omega), (by (try simp only [room_1, rm_L_state] at *); omega)⟩ rfl rfl (Nat.le_of_ble_eq_true rfl) dL_law_995 ⟨(by (try simp only [room_1, rm_L_state] at *); omega), (by (try simp only [room_1, rm_L_state] at *); omega)⟩ (kI (fun r3 S2 h => ?_))
  refine gd_istore (pc := 998) X dL_law_998 (by decide) (E2 := [(6, .int r3), (0, .ref b), (1, rf l1), (2, rf l2), (3, rf l3), (4, rf l4), (5, .int l5)]) rfl ?_
  refine gd_aload_n (pc := 1000) X 3 dL_law_1000 rfl ?_
  refine gd_aloadP (pc := 1001) X 1 dL_law_1001 rfl ?_
  refine gd_iload (pc := 1002) X 6 dL_law_1002 rfl ?_
  refine gd_iconst (pc := 1004) X (1) dL_law_1004 (by decide) ?_
  refine gd_iadd (pc := 1005) X dL_law_1005 ?_
  obtain ⟨hi4, h⟩ := h
  refine gd_sld (pc := 1006) X hX hbl hbA dL_law_1006 hi4 ?_
  obtain ⟨hk5, h⟩ := h
  refine gd_callV (pc := 1007) (As := [.int (xs (ix (l5 + 1)))]) (rest := []) X (ct_X6_state l G S2 l2 (xs (ix (l5 + 1))) _ h) mw_X6_state tw_1263 ci6 rfl hk5 ⟨(by (try simp only [room_1, rm_X6_state, rm_L_state] at *); omega), (by (try simp only [room_1, rm_X6_state, rm_L_state] at *); omega)⟩ rfl rfl (Nat.le_of_ble_eq_true rfl) dL_law_1007 ⟨(by (try simp only [room_1, rm_X6_state, rm_L_state] at *); omega), (by (try simp only [room_1, rm_X6_state, rm_L_state] at *); omega)⟩ (kI (fun r7 S6 h => ?_))
  refine gd_istore (pc := 1010) X dL_law_1010 (by decide) (E2 := [(7, .int r7), (6, .int r3), (0, .ref b), (1, rf l1), (2, rf l2), (3, rf l3), (4, rf l4), (5, .int l5)]) rfl ?_
  refine gd_aload_n (pc := 1012) X 4 dL_law_1012 rfl ?_
  obtain ⟨hk8, h⟩ := h
  refine gd_callV (pc := 1013) (As := []) (rest := []) X (ct_X6_thrown l G S6 l2 _ h) mw_X6_thrown tw_973 ci6 rfl hk8 ⟨(by (try simp only [room_1, rm_X6_thrown, rm_L_state, rm_X6_state] at *); omega), (by (try simp only [room_1, rm_X6_thrown, rm_L_state, rm_X6_state] at *); omega)⟩ rfl rfl (Nat.le_of_ble_eq_true rfl) dL_law_1013 ⟨(by (try simp only [room_1, rm_X6_thrown, rm_L_state, rm_X6_state] at *); omega), (by (try simp only [room_1, rm_X6_thrown, rm_L_state, rm_X6_state] at *); omega)⟩ (kI (fun r10 S9 h => ?_))
  refine gd_iload (pc := 1016) X 1 dL_law_1016 rfl ?_
  refine gd_icmp_eq (pc := 1018) X 1023 dL_law_1018 (by decide) (fun hc17 => ?_) (fun hc17 => ?_)
  · have h := h.1 hc17
    refine gd_iload (pc := 1023) X 1 dL_law_1023 rfl ?_
    refine gd_if_ne (pc := 1025) X 1040 dL_law_1025 (by decide) (fun hc16 => ?_) (fun hc16 => ?_)
    · have h := h.1 hc16
      refine gd_goto (pc := 1040) X 2345 dL_law_1040 (by decide) ?_
      obtain ⟨v11, hv11⟩ : ∃ z : Int32, z = l5 + 5 := ⟨_, rfl⟩
      have h := h v11 hv11
      refine gd_iinc (pc := 2345) (v := v11) X 7 dL_law_2345 rfl (by rw [hv11]; rfl) (by decide) (E2 := [(5, .int v11), (7, .int r7), (6, .int r3), (0, .ref b), (1, rf l1), (2, rf l2), (3, rf l3), (4, rf l4)]) (by simp [rf_cat, lv1, int_cat, ref_cat] <;> decide) ?_
      refine gd_goto (pc := 2348) X 28 dL_law_2348 (by decide) ?_
      refine gd_wide (k2 := k + 36) (j2 := j + 292) (by (try simp only [room_1, rm_X6_thrown, rm_L_state, rm_X6_state] at *); omega) (by (try simp only [room_1, rm_X6_thrown, rm_L_state, rm_X6_state] at *); omega) ?_
      refine gd_sub [3, 4, 5, 6, 7, 0] rfl ?_
      exact hKH28 _ _ _ _ _ _ h
    · have h := h.2 hc16
      refine gd_aload_n (pc := 1028) X 5 dL_law_1028 rfl ?_
      refine gd_iconst (pc := 1029) X (0) dL_law_1029 (by decide) ?_
      obtain ⟨hk12, h⟩ := h
      obtain ⟨hi13, h⟩ := h
      refine gd_lald (pc := 1030) X dL_law_1030 hk12 hi13 ?_
      refine gd_iload (pc := 1031) X 0 dL_law_1031 rfl ?_
      refine gd_i2l (pc := 1033) X dL_law_1033 ?_
      refine gd_lcmp (pc := 1034) X dL_law_1034 ?_
      refine gd_if_eq (pc := 1035) X 1040 dL_law_1035 (by decide) (fun hc15 => ?_) (fun hc15 => ?_)
      · have h := h.1 hc15
        refine gd_goto (pc := 1040) X 2345 dL_law_1040 (by decide) ?_
        obtain ⟨v14, hv14⟩ : ∃ z : Int32, z = l5 + 5 := ⟨_, rfl⟩
        have h := h v14 hv14
        refine gd_iinc (pc := 2345) (v := v14) X 7 dL_law_2345 rfl (by rw [hv14]; rfl) (by decide) (E2 := [(5, .int v14), (7, .int r7), (6, .int r3), (0, .ref b), (1, rf l1), (2, rf l2), (3, rf l3), (4, rf l4)]) (by simp [rf_cat, lv1, int_cat, ref_cat] <;> decide) ?_
        refine gd_goto (pc := 2348) X 28 dL_law_2348 (by decide) ?_
        refine gd_wide (k2 := k + 36) (j2 := j + 292) (by (try simp only [room_1, rm_X6_thrown, rm_L_state, rm_X6_state] at *); omega) (by (try simp only [room_1, rm_X6_thrown, rm_L_state, rm_X6_state] at *); omega) ?_
        refine gd_sub [3, 4, 5, 6, 7, 0] rfl ?_
        exact hKH28 _ _ _ _ _ _ h
      · have h := h.2 hc15
        refine gd_iconst (pc := 1038) X (0) dL_law_1038 (by decide) ?_
        exact h.elim
  · have h := h.2 hc17
    refine gd_iconst (pc := 1021) X (0) dL_law_1021 (by decide) ?_
    exact h.elim
def b_L_law_1043 (xs : Nat → Int32) (Lx : Nat) (KH28 : MS → Nat → Nat → Nat → Nat → Int32 → Prop) (S : MS) (l1 l2 l3 l4 : Nat) (l5 : Int32) : Prop := vp_in (l5 + 1) Lx ∧ w_L_attempt S l1 (xs (ix (l5 + 1))) l3 (fun r3 S2 => vp_in (l5 + 1) Lx ∧ kT S2 l2 = 7 ∧ w_X6_attempt S2 l2 (xs (ix (l5 + 1))) (fun r7 S6 => kT S6 l2 = 7 ∧ w_X6_thrown S6 l2 (fun r10 S9 => ((r10 = r3 → ((¬ r3 = 0 → ∀ v11 : Int32, v11 = l5 + 5 → KH28 S9 l1 l2 l3 l4 v11) ∧ (r3 = 0 → kT S9 l3 = 15 ∧ vp_in 0 (kL S9 l3) ∧ (((lg_cmp (sL S9 l3 (ix 0)) r7.toInt64) = 0 → ∀ v14 : Int32, v14 = l5 + 5 → KH28 S9 l1 l2 l3 l4 v14) ∧ (¬ (lg_cmp (sL S9 l3 (ix 0)) r7.toInt64) = 0 → False))))) ∧ (¬ r10 = r3 → False)))))
set_option maxHeartbeats 4000000 in
set_option maxRecDepth 100000 in
theorem gl_1043 {p : Program} {l : Launch} {e : Env} {s : State} {m : MethodId} {below : List Frame} {meth : Method} {c : Code} {G : GP} {b Lx : Nat} {xs : Nat → Int32} (hfl : l.stackTraces = false) (X : Cx p s m #[Value.ref b] c code 9 R_law G) (hX : va_X b Lx xs s s.heap) (hbl : b < s.heap.size) (hbA : ¬ Ab G b) (hrt : meth.sig.returnType = ret) (hlk : meth.locks = false) (hG : G.2.2 = s.heap.size) {k j : Nat} (hk : k + 36 ≤ 603072) (hj : j + 292 ≤ 7178346) (KH28 : MS → Nat → Nat → Nat → Nat → Int32 → Prop) (hKH28 : ∀ (S : MS) (l1 l2 l3 l4 : Nat) (l5 : Int32), KH28 S l1 l2 l3 l4 l5 → Gd p l e room_1 s m #[Value.ref b] below meth c 9 G (lw_Z below #[Value.ref b] s) (k + 36) (j + 292) S 28 [(0, .ref b), (1, rf l1), (2, rf l2), (3, rf l3), (4, rf l4), (5, .int l5)] []) : ∀ (S : MS) (l1 l2 l3 l4 : Nat) (l5 : Int32), b_L_law_1043 xs Lx KH28 S l1 l2 l3 l4 l5 → Gd p l e room_1 s m #[Value.ref b] below meth c 9 G (lw_Z below #[Value.ref b] s) k j S 1043 [(0, .ref b), (1, rf l1), (2, rf l2), (3, rf l3), (4, rf l4), (5, .int l5)] [] := by
  intro S l1 l2 l3 l4 l5 h
  refine gd_aload_n (pc := 1043) X 1 dL_law_1043 rfl ?_
  refine gd_aloadP (pc := 1044) X 0 dL_law_1044 rfl ?_
  refine gd_iload (pc := 1045) X 5 dL_law_1045 rfl ?_
  refine gd_iconst (pc := 1047) X (1) dL_law_1047 (by decide) ?_
  refine gd_iadd (pc := 1048) X dL_law_1048 ?_
  obtain ⟨hi1, h⟩ := h
  refine gd_sld (pc := 1049) X hX hbl hbA dL_law_1049 hi1 ?_
  refine gd_aload_n (pc := 1050) X 3 dL_law_1050 rfl ?_
  refine gd_callW (n := 3) (pc := 1051) (As := [rf l1, .int (xs (ix (l5 + 1))), rf l3]) (rest := []) X (ct_L_attempt l hfl G S l1 (xs (ix (l5 + 1))) l3 _ h) tw_709 tw_0 tw_710 ⟨by decide, by decide, by decide +kernel⟩ tw_708 ⟨(by (try simp only [room_1, rm_L_attempt] at *); omega), (by (try simp only [room_1, rm_L_attempt] at *); omega)⟩ rfl rfl (Nat.le_of_ble_eq_true rfl) dL_law_1051 ⟨(by (try simp only [room_1, rm_L_attempt] at *); omega), (by (try simp only [room_1, rm_L_attempt] at *); omega)⟩ (kI (fun r3 S2 h => ?_))
  refine gd_istore (pc := 1054) X dL_law_1054 (by decide) (E2 := [(6, .int r3), (0, .ref b), (1, rf l1), (2, rf l2), (3, rf l3), (4, rf l4), (5, .int l5)]) rfl ?_
  refine gd_aload_n (pc := 1056) X 3 dL_law_1056 rfl ?_
  refine gd_aloadP (pc := 1057) X 1 dL_law_1057 rfl ?_
  refine gd_iload (pc := 1058) X 6 dL_law_1058 rfl ?_
  refine gd_iconst (pc := 1060) X (1) dL_law_1060 (by decide) ?_
  refine gd_iadd (pc := 1061) X dL_law_1061 ?_
  obtain ⟨hi4, h⟩ := h
  refine gd_sld (pc := 1062) X hX hbl hbA dL_law_1062 hi4 ?_
  obtain ⟨hk5, h⟩ := h
  refine gd_callV (pc := 1063) (As := [.int (xs (ix (l5 + 1)))]) (rest := []) X (ct_X6_attempt l G S2 l2 (xs (ix (l5 + 1))) _ h) mw_X6_attempt tw_1267 ci6 rfl hk5 ⟨(by (try simp only [room_1, rm_X6_attempt, rm_L_attempt] at *); omega), (by (try simp only [room_1, rm_X6_attempt, rm_L_attempt] at *); omega)⟩ rfl rfl (Nat.le_of_ble_eq_true rfl) dL_law_1063 ⟨(by (try simp only [room_1, rm_X6_attempt, rm_L_attempt] at *); omega), (by (try simp only [room_1, rm_X6_attempt, rm_L_attempt] at *); omega)⟩ (kI (fun r7 S6 h => ?_))
  refine gd_istore (pc := 1066) X dL_law_1066 (by decide) (E2 := [(7, .int r7), (6, .int r3), (0, .ref b), (1, rf l1), (2, rf l2), (3, rf l3), (4, rf l4), (5, .int l5)]) rfl ?_
  refine gd_aload_n (pc := 1068) X 4 dL_law_1068 rfl ?_
  obtain ⟨hk8, h⟩ := h
  refine gd_callV (pc := 1069) (As := []) (rest := []) X (ct_X6_thrown l G S6 l2 _ h) mw_X6_thrown tw_973 ci6 rfl hk8 ⟨(by (try simp only [room_1, rm_X6_thrown, rm_L_attempt, rm_X6_attempt] at *); omega), (by (try simp only [room_1, rm_X6_thrown, rm_L_attempt, rm_X6_attempt] at *); omega)⟩ rfl rfl (Nat.le_of_ble_eq_true rfl) dL_law_1069 ⟨(by (try simp only [room_1, rm_X6_thrown, rm_L_attempt, rm_X6_attempt] at *); omega), (by (try simp only [room_1, rm_X6_thrown, rm_L_attempt, rm_X6_attempt] at *); omega)⟩ (kI (fun r10 S9 h => ?_))
  refine gd_iload (pc := 1072) X 1 dL_law_1072 rfl ?_
  refine gd_icmp_eq (pc := 1074) X 1079 dL_law_1074 (by decide) (fun hc17 => ?_) (fun hc17 => ?_)
  · have h := h.1 hc17
    refine gd_iload (pc := 1079) X 1 dL_law_1079 rfl ?_
    refine gd_if_ne (pc := 1081) X 1096 dL_law_1081 (by decide) (fun hc16 => ?_) (fun hc16 => ?_)
    · have h := h.1 hc16
      refine gd_goto (pc := 1096) X 2345 dL_law_1096 (by decide) ?_
      obtain ⟨v11, hv11⟩ : ∃ z : Int32, z = l5 + 5 := ⟨_, rfl⟩
      have h := h v11 hv11
      refine gd_iinc (pc := 2345) (v := v11) X 7 dL_law_2345 rfl (by rw [hv11]; rfl) (by decide) (E2 := [(5, .int v11), (7, .int r7), (6, .int r3), (0, .ref b), (1, rf l1), (2, rf l2), (3, rf l3), (4, rf l4)]) (by simp [rf_cat, lv1, int_cat, ref_cat] <;> decide) ?_
      refine gd_goto (pc := 2348) X 28 dL_law_2348 (by decide) ?_
      refine gd_wide (k2 := k + 36) (j2 := j + 292) (by (try simp only [room_1, rm_X6_thrown, rm_L_attempt, rm_X6_attempt] at *); omega) (by (try simp only [room_1, rm_X6_thrown, rm_L_attempt, rm_X6_attempt] at *); omega) ?_
      refine gd_sub [3, 4, 5, 6, 7, 0] rfl ?_
      exact hKH28 _ _ _ _ _ _ h
    · have h := h.2 hc16
      refine gd_aload_n (pc := 1084) X 5 dL_law_1084 rfl ?_
      refine gd_iconst (pc := 1085) X (0) dL_law_1085 (by decide) ?_
      obtain ⟨hk12, h⟩ := h
      obtain ⟨hi13, h⟩ := h
      refine gd_lald (pc := 1086) X dL_law_1086 hk12 hi13 ?_
      refine gd_iload (pc := 1087) X 0 dL_law_1087 rfl ?_
      refine gd_i2l (pc := 1089) X dL_law_1089 ?_
      refine gd_lcmp (pc := 1090) X dL_law_1090 ?_
      refine gd_if_eq (pc := 1091) X 1096 dL_law_1091 (by decide) (fun hc15 => ?_) (fun hc15 => ?_)
      · have h := h.1 hc15
        refine gd_goto (pc := 1096) X 2345 dL_law_1096 (by decide) ?_
        obtain ⟨v14, hv14⟩ : ∃ z : Int32, z = l5 + 5 := ⟨_, rfl⟩
        have h := h v14 hv14
        refine gd_iinc (pc := 2345) (v := v14) X 7 dL_law_2345 rfl (by rw [hv14]; rfl) (by decide) (E2 := [(5, .int v14), (7, .int r7), (6, .int r3), (0, .ref b), (1, rf l1), (2, rf l2), (3, rf l3), (4, rf l4)]) (by simp [rf_cat, lv1, int_cat, ref_cat] <;> decide) ?_
        refine gd_goto (pc := 2348) X 28 dL_law_2348 (by decide) ?_
        refine gd_wide (k2 := k + 36) (j2 := j + 292) (by (try simp only [room_1, rm_X6_thrown, rm_L_attempt, rm_X6_attempt] at *); omega) (by (try simp only [room_1, rm_X6_thrown, rm_L_attempt, rm_X6_attempt] at *); omega) ?_
        refine gd_sub [3, 4, 5, 6, 7, 0] rfl ?_
        exact hKH28 _ _ _ _ _ _ h
      · have h := h.2 hc15
        refine gd_iconst (pc := 1094) X (0) dL_law_1094 (by decide) ?_
        exact h.elim
  · have h := h.2 hc17
    refine gd_iconst (pc := 1077) X (0) dL_law_1077 (by decide) ?_
    exact h.elim
def b_L_law_1099 (xs : Nat → Int32) (Lx : Nat) (KH28 : MS → Nat → Nat → Nat → Nat → Int32 → Prop) (S : MS) (l1 l2 l3 l4 : Nat) (l5 : Int32) : Prop := vp_in (l5 + 1) Lx ∧ w_L_reason S l1 (xs (ix (l5 + 1))) l3 (fun r3 S2 => vp_in (l5 + 1) Lx ∧ kT S2 l2 = 7 ∧ w_X6_reason S2 l2 (xs (ix (l5 + 1))) (fun r7 S6 => kT S6 l2 = 7 ∧ w_X6_thrown S6 l2 (fun r10 S9 => ((r10 = r3 → ((¬ r3 = 0 → ∀ v11 : Int32, v11 = l5 + 5 → KH28 S9 l1 l2 l3 l4 v11) ∧ (r3 = 0 → kT S9 l3 = 15 ∧ vp_in 0 (kL S9 l3) ∧ (((lg_cmp (sL S9 l3 (ix 0)) r7.toInt64) = 0 → ∀ v14 : Int32, v14 = l5 + 5 → KH28 S9 l1 l2 l3 l4 v14) ∧ (¬ (lg_cmp (sL S9 l3 (ix 0)) r7.toInt64) = 0 → False))))) ∧ (¬ r10 = r3 → False)))))
set_option maxHeartbeats 4000000 in
set_option maxRecDepth 100000 in
theorem gl_1099 {p : Program} {l : Launch} {e : Env} {s : State} {m : MethodId} {below : List Frame} {meth : Method} {c : Code} {G : GP} {b Lx : Nat} {xs : Nat → Int32} (hfl : l.stackTraces = false) (X : Cx p s m #[Value.ref b] c code 9 R_law G) (hX : va_X b Lx xs s s.heap) (hbl : b < s.heap.size) (hbA : ¬ Ab G b) (hrt : meth.sig.returnType = ret) (hlk : meth.locks = false) (hG : G.2.2 = s.heap.size) {k j : Nat} (hk : k + 36 ≤ 603072) (hj : j + 292 ≤ 7178346) (KH28 : MS → Nat → Nat → Nat → Nat → Int32 → Prop) (hKH28 : ∀ (S : MS) (l1 l2 l3 l4 : Nat) (l5 : Int32), KH28 S l1 l2 l3 l4 l5 → Gd p l e room_1 s m #[Value.ref b] below meth c 9 G (lw_Z below #[Value.ref b] s) (k + 36) (j + 292) S 28 [(0, .ref b), (1, rf l1), (2, rf l2), (3, rf l3), (4, rf l4), (5, .int l5)] []) : ∀ (S : MS) (l1 l2 l3 l4 : Nat) (l5 : Int32), b_L_law_1099 xs Lx KH28 S l1 l2 l3 l4 l5 → Gd p l e room_1 s m #[Value.ref b] below meth c 9 G (lw_Z below #[Value.ref b] s) k j S 1099 [(0, .ref b), (1, rf l1), (2, rf l2), (3, rf l3), (4, rf l4), (5, .int l5)] [] := by
  intro S l1 l2 l3 l4 l5 h
  refine gd_aload_n (pc := 1099) X 1 dL_law_1099 rfl ?_
  refine gd_aloadP (pc := 1100) X 0 dL_law_1100 rfl ?_
  refine gd_iload (pc := 1101) X 5 dL_law_1101 rfl ?_
  refine gd_iconst (pc := 1103) X (1) dL_law_1103 (by decide) ?_
  refine gd_iadd (pc := 1104) X dL_law_1104 ?_
  obtain ⟨hi1, h⟩ := h
  refine gd_sld (pc := 1105) X hX hbl hbA dL_law_1105 hi1 ?_
  refine gd_aload_n (pc := 1106) X 3 dL_law_1106 rfl ?_
  refine gd_callW (n := 3) (pc := 1107) (As := [rf l1, .int (xs (ix (l5 + 1))), rf l3]) (rest := []) X (ct_L_reason l hfl G S l1 (xs (ix (l5 + 1))) l3 _ h) tw_716 tw_0 tw_717 ⟨by decide, by decide, by decide +kernel⟩ tw_715 ⟨(by (try simp only [room_1, rm_L_reason] at *); omega), (by (try simp only [room_1, rm_L_reason] at *); omega)⟩ rfl rfl (Nat.le_of_ble_eq_true rfl) dL_law_1107 ⟨(by (try simp only [room_1, rm_L_reason] at *); omega), (by (try simp only [room_1, rm_L_reason] at *); omega)⟩ (kI (fun r3 S2 h => ?_))
  refine gd_istore (pc := 1110) X dL_law_1110 (by decide) (E2 := [(6, .int r3), (0, .ref b), (1, rf l1), (2, rf l2), (3, rf l3), (4, rf l4), (5, .int l5)]) rfl ?_
  refine gd_aload_n (pc := 1112) X 3 dL_law_1112 rfl ?_
  refine gd_aloadP (pc := 1113) X 1 dL_law_1113 rfl ?_
  refine gd_iload (pc := 1114) X 6 dL_law_1114 rfl ?_
  refine gd_iconst (pc := 1116) X (1) dL_law_1116 (by decide) ?_
  refine gd_iadd (pc := 1117) X dL_law_1117 ?_
  obtain ⟨hi4, h⟩ := h
  refine gd_sld (pc := 1118) X hX hbl hbA dL_law_1118 hi4 ?_
  obtain ⟨hk5, h⟩ := h
  refine gd_callV (pc := 1119) (As := [.int (xs (ix (l5 + 1)))]) (rest := []) X (ct_X6_reason l G S2 l2 (xs (ix (l5 + 1))) _ h) mw_X6_reason tw_1271 ci6 rfl hk5 ⟨(by (try simp only [room_1, rm_X6_reason, rm_L_reason] at *); omega), (by (try simp only [room_1, rm_X6_reason, rm_L_reason] at *); omega)⟩ rfl rfl (Nat.le_of_ble_eq_true rfl) dL_law_1119 ⟨(by (try simp only [room_1, rm_X6_reason, rm_L_reason] at *); omega), (by (try simp only [room_1, rm_X6_reason, rm_L_reason] at *); omega)⟩ (kI (fun r7 S6 h => ?_))
  refine gd_istore (pc := 1122) X dL_law_1122 (by decide) (E2 := [(7, .int r7), (6, .int r3), (0, .ref b), (1, rf l1), (2, rf l2), (3, rf l3), (4, rf l4), (5, .int l5)]) rfl ?_
  refine gd_aload_n (pc := 1124) X 4 dL_law_1124 rfl ?_
  obtain ⟨hk8, h⟩ := h
  refine gd_callV (pc := 1125) (As := []) (rest := []) X (ct_X6_thrown l G S6 l2 _ h) mw_X6_thrown tw_973 ci6 rfl hk8 ⟨(by (try simp only [room_1, rm_X6_thrown, rm_L_reason, rm_X6_reason] at *); omega), (by (try simp only [room_1, rm_X6_thrown, rm_L_reason, rm_X6_reason] at *); omega)⟩ rfl rfl (Nat.le_of_ble_eq_true rfl) dL_law_1125 ⟨(by (try simp only [room_1, rm_X6_thrown, rm_L_reason, rm_X6_reason] at *); omega), (by (try simp only [room_1, rm_X6_thrown, rm_L_reason, rm_X6_reason] at *); omega)⟩ (kI (fun r10 S9 h => ?_))
  refine gd_iload (pc := 1128) X 1 dL_law_1128 rfl ?_
  refine gd_icmp_eq (pc := 1130) X 1135 dL_law_1130 (by decide) (fun hc17 => ?_) (fun hc17 => ?_)
  · have h := h.1 hc17
    refine gd_iload (pc := 1135) X 1 dL_law_1135 rfl ?_
    refine gd_if_ne (pc := 1137) X 1152 dL_law_1137 (by decide) (fun hc16 => ?_) (fun hc16 => ?_)
    · have h := h.1 hc16
      refine gd_goto (pc := 1152) X 2345 dL_law_1152 (by decide) ?_
      obtain ⟨v11, hv11⟩ : ∃ z : Int32, z = l5 + 5 := ⟨_, rfl⟩
      have h := h v11 hv11
      refine gd_iinc (pc := 2345) (v := v11) X 7 dL_law_2345 rfl (by rw [hv11]; rfl) (by decide) (E2 := [(5, .int v11), (7, .int r7), (6, .int r3), (0, .ref b), (1, rf l1), (2, rf l2), (3, rf l3), (4, rf l4)]) (by simp [rf_cat, lv1, int_cat, ref_cat] <;> decide) ?_
      refine gd_goto (pc := 2348) X 28 dL_law_2348 (by decide) ?_
      refine gd_wide (k2 := k + 36) (j2 := j + 292) (by (try simp only [room_1, rm_X6_thrown, rm_L_reason, rm_X6_reason] at *); omega) (by (try simp only [room_1, rm_X6_thrown, rm_L_reason, rm_X6_reason] at *); omega) ?_
      refine gd_sub [3, 4, 5, 6, 7, 0] rfl ?_
      exact hKH28 _ _ _ _ _ _ h
    · have h := h.2 hc16
      refine gd_aload_n (pc := 1140) X 5 dL_law_1140 rfl ?_
      refine gd_iconst (pc := 1141) X (0) dL_law_1141 (by decide) ?_
      obtain ⟨hk12, h⟩ := h
      obtain ⟨hi13, h⟩ := h
      refine gd_lald (pc := 1142) X dL_law_1142 hk12 hi13 ?_
      refine gd_iload (pc := 1143) X 0 dL_law_1143 rfl ?_
      refine gd_i2l (pc := 1145) X dL_law_1145 ?_
      refine gd_lcmp (pc := 1146) X dL_law_1146 ?_
      refine gd_if_eq (pc := 1147) X 1152 dL_law_1147 (by decide) (fun hc15 => ?_) (fun hc15 => ?_)
      · have h := h.1 hc15
        refine gd_goto (pc := 1152) X 2345 dL_law_1152 (by decide) ?_
        obtain ⟨v14, hv14⟩ : ∃ z : Int32, z = l5 + 5 := ⟨_, rfl⟩
        have h := h v14 hv14
        refine gd_iinc (pc := 2345) (v := v14) X 7 dL_law_2345 rfl (by rw [hv14]; rfl) (by decide) (E2 := [(5, .int v14), (7, .int r7), (6, .int r3), (0, .ref b), (1, rf l1), (2, rf l2), (3, rf l3), (4, rf l4)]) (by simp [rf_cat, lv1, int_cat, ref_cat] <;> decide) ?_
        refine gd_goto (pc := 2348) X 28 dL_law_2348 (by decide) ?_
        refine gd_wide (k2 := k + 36) (j2 := j + 292) (by (try simp only [room_1, rm_X6_thrown, rm_L_reason, rm_X6_reason] at *); omega) (by (try simp only [room_1, rm_X6_thrown, rm_L_reason, rm_X6_reason] at *); omega) ?_
        refine gd_sub [3, 4, 5, 6, 7, 0] rfl ?_
        exact hKH28 _ _ _ _ _ _ h
      · have h := h.2 hc15
        refine gd_iconst (pc := 1150) X (0) dL_law_1150 (by decide) ?_
        exact h.elim
  · have h := h.2 hc17
    refine gd_iconst (pc := 1133) X (0) dL_law_1133 (by decide) ?_
    exact h.elim
def b_L_law_1155 (xs : Nat → Int32) (Lx : Nat) (KH28 : MS → Nat → Nat → Nat → Nat → Int32 → Prop) (S : MS) (l1 l2 l3 l4 : Nat) (l5 : Int32) : Prop := vp_in (l5 + 1) Lx ∧ w_L_commitOf S l1 (xs (ix (l5 + 1))) l3 (fun r3 S2 => vp_in (l5 + 1) Lx ∧ kT S2 l2 = 7 ∧ w_X6_commitOf S2 l2 (xs (ix (l5 + 1))) (fun r7 S6 => kT S6 l2 = 7 ∧ w_X6_thrown S6 l2 (fun r10 S9 => ((r10 = r3 → ((¬ r3 = 0 → ∀ v11 : Int32, v11 = l5 + 5 → KH28 S9 l1 l2 l3 l4 v11) ∧ (r3 = 0 → kT S9 l3 = 15 ∧ vp_in 0 (kL S9 l3) ∧ (((lg_cmp (sL S9 l3 (ix 0)) r7.toInt64) = 0 → ∀ v14 : Int32, v14 = l5 + 5 → KH28 S9 l1 l2 l3 l4 v14) ∧ (¬ (lg_cmp (sL S9 l3 (ix 0)) r7.toInt64) = 0 → False))))) ∧ (¬ r10 = r3 → False)))))
set_option maxHeartbeats 4000000 in
set_option maxRecDepth 100000 in
theorem gl_1155 {p : Program} {l : Launch} {e : Env} {s : State} {m : MethodId} {below : List Frame} {meth : Method} {c : Code} {G : GP} {b Lx : Nat} {xs : Nat → Int32} (hfl : l.stackTraces = false) (X : Cx p s m #[Value.ref b] c code 9 R_law G) (hX : va_X b Lx xs s s.heap) (hbl : b < s.heap.size) (hbA : ¬ Ab G b) (hrt : meth.sig.returnType = ret) (hlk : meth.locks = false) (hG : G.2.2 = s.heap.size) {k j : Nat} (hk : k + 36 ≤ 603072) (hj : j + 292 ≤ 7178346) (KH28 : MS → Nat → Nat → Nat → Nat → Int32 → Prop) (hKH28 : ∀ (S : MS) (l1 l2 l3 l4 : Nat) (l5 : Int32), KH28 S l1 l2 l3 l4 l5 → Gd p l e room_1 s m #[Value.ref b] below meth c 9 G (lw_Z below #[Value.ref b] s) (k + 36) (j + 292) S 28 [(0, .ref b), (1, rf l1), (2, rf l2), (3, rf l3), (4, rf l4), (5, .int l5)] []) : ∀ (S : MS) (l1 l2 l3 l4 : Nat) (l5 : Int32), b_L_law_1155 xs Lx KH28 S l1 l2 l3 l4 l5 → Gd p l e room_1 s m #[Value.ref b] below meth c 9 G (lw_Z below #[Value.ref b] s) k j S 1155 [(0, .ref b), (1, rf l1), (2, rf l2), (3, rf l3), (4, rf l4), (5, .int l5)] [] := by
  intro S l1 l2 l3 l4 l5 h
  refine gd_aload_n (pc := 1155) X 1 dL_law_1155 rfl ?_
  refine gd_aloadP (pc := 1156) X 0 dL_law_1156 rfl ?_
  refine gd_iload (pc := 1157) X 5 dL_law_1157 rfl ?_
  refine gd_iconst (pc := 1159) X (1) dL_law_1159 (by decide) ?_
  refine gd_iadd (pc := 1160) X dL_law_1160 ?_
  obtain ⟨hi1, h⟩ := h
  refine gd_sld (pc := 1161) X hX hbl hbA dL_law_1161 hi1 ?_
  refine gd_aload_n (pc := 1162) X 3 dL_law_1162 rfl ?_
  refine gd_callW (n := 3) (pc := 1163) (As := [rf l1, .int (xs (ix (l5 + 1))), rf l3]) (rest := []) X (ct_L_commitOf l hfl G S l1 (xs (ix (l5 + 1))) l3 _ h) tw_724 tw_0 tw_725 ⟨by decide, by decide, by decide +kernel⟩ tw_723 ⟨(by (try simp only [room_1, rm_L_commitOf] at *); omega), (by (try simp only [room_1, rm_L_commitOf] at *); omega)⟩ rfl rfl (Nat.le_of_ble_eq_true rfl) dL_law_1163 ⟨(by (try simp only [room_1, rm_L_commitOf] at *); omega), (by (try simp only [room_1, rm_L_commitOf] at *); omega)⟩ (kI (fun r3 S2 h => ?_))
  refine gd_istore (pc := 1166) X dL_law_1166 (by decide) (E2 := [(6, .int r3), (0, .ref b), (1, rf l1), (2, rf l2), (3, rf l3), (4, rf l4), (5, .int l5)]) rfl ?_
  refine gd_aload_n (pc := 1168) X 3 dL_law_1168 rfl ?_
  refine gd_aloadP (pc := 1169) X 1 dL_law_1169 rfl ?_
  refine gd_iload (pc := 1170) X 6 dL_law_1170 rfl ?_
  refine gd_iconst (pc := 1172) X (1) dL_law_1172 (by decide) ?_
  refine gd_iadd (pc := 1173) X dL_law_1173 ?_
  obtain ⟨hi4, h⟩ := h
  refine gd_sld (pc := 1174) X hX hbl hbA dL_law_1174 hi4 ?_
  obtain ⟨hk5, h⟩ := h
  refine gd_callV (pc := 1175) (As := [.int (xs (ix (l5 + 1)))]) (rest := []) X (ct_X6_commitOf l G S2 l2 (xs (ix (l5 + 1))) _ h) mw_X6_commitOf tw_1275 ci6 rfl hk5 ⟨(by (try simp only [room_1, rm_X6_commitOf, rm_L_commitOf] at *); omega), (by (try simp only [room_1, rm_X6_commitOf, rm_L_commitOf] at *); omega)⟩ rfl rfl (Nat.le_of_ble_eq_true rfl) dL_law_1175 ⟨(by (try simp only [room_1, rm_X6_commitOf, rm_L_commitOf] at *); omega), (by (try simp only [room_1, rm_X6_commitOf, rm_L_commitOf] at *); omega)⟩ (kI (fun r7 S6 h => ?_))
  refine gd_istore (pc := 1178) X dL_law_1178 (by decide) (E2 := [(7, .int r7), (6, .int r3), (0, .ref b), (1, rf l1), (2, rf l2), (3, rf l3), (4, rf l4), (5, .int l5)]) rfl ?_
  refine gd_aload_n (pc := 1180) X 4 dL_law_1180 rfl ?_
  obtain ⟨hk8, h⟩ := h
  refine gd_callV (pc := 1181) (As := []) (rest := []) X (ct_X6_thrown l G S6 l2 _ h) mw_X6_thrown tw_973 ci6 rfl hk8 ⟨(by (try simp only [room_1, rm_X6_thrown, rm_L_commitOf, rm_X6_commitOf] at *); omega), (by (try simp only [room_1, rm_X6_thrown, rm_L_commitOf, rm_X6_commitOf] at *); omega)⟩ rfl rfl (Nat.le_of_ble_eq_true rfl) dL_law_1181 ⟨(by (try simp only [room_1, rm_X6_thrown, rm_L_commitOf, rm_X6_commitOf] at *); omega), (by (try simp only [room_1, rm_X6_thrown, rm_L_commitOf, rm_X6_commitOf] at *); omega)⟩ (kI (fun r10 S9 h => ?_))
  refine gd_iload (pc := 1184) X 1 dL_law_1184 rfl ?_
  refine gd_icmp_eq (pc := 1186) X 1191 dL_law_1186 (by decide) (fun hc17 => ?_) (fun hc17 => ?_)
  · have h := h.1 hc17
    refine gd_iload (pc := 1191) X 1 dL_law_1191 rfl ?_
    refine gd_if_ne (pc := 1193) X 1208 dL_law_1193 (by decide) (fun hc16 => ?_) (fun hc16 => ?_)
    · have h := h.1 hc16
      refine gd_goto (pc := 1208) X 2345 dL_law_1208 (by decide) ?_
      obtain ⟨v11, hv11⟩ : ∃ z : Int32, z = l5 + 5 := ⟨_, rfl⟩
      have h := h v11 hv11
      refine gd_iinc (pc := 2345) (v := v11) X 7 dL_law_2345 rfl (by rw [hv11]; rfl) (by decide) (E2 := [(5, .int v11), (7, .int r7), (6, .int r3), (0, .ref b), (1, rf l1), (2, rf l2), (3, rf l3), (4, rf l4)]) (by simp [rf_cat, lv1, int_cat, ref_cat] <;> decide) ?_
      refine gd_goto (pc := 2348) X 28 dL_law_2348 (by decide) ?_
      refine gd_wide (k2 := k + 36) (j2 := j + 292) (by (try simp only [room_1, rm_X6_thrown, rm_L_commitOf, rm_X6_commitOf] at *); omega) (by (try simp only [room_1, rm_X6_thrown, rm_L_commitOf, rm_X6_commitOf] at *); omega) ?_
      refine gd_sub [3, 4, 5, 6, 7, 0] rfl ?_
      exact hKH28 _ _ _ _ _ _ h
    · have h := h.2 hc16
      refine gd_aload_n (pc := 1196) X 5 dL_law_1196 rfl ?_
      refine gd_iconst (pc := 1197) X (0) dL_law_1197 (by decide) ?_
      obtain ⟨hk12, h⟩ := h
      obtain ⟨hi13, h⟩ := h
      refine gd_lald (pc := 1198) X dL_law_1198 hk12 hi13 ?_
      refine gd_iload (pc := 1199) X 0 dL_law_1199 rfl ?_
      refine gd_i2l (pc := 1201) X dL_law_1201 ?_
      refine gd_lcmp (pc := 1202) X dL_law_1202 ?_
      refine gd_if_eq (pc := 1203) X 1208 dL_law_1203 (by decide) (fun hc15 => ?_) (fun hc15 => ?_)
      · have h := h.1 hc15
        refine gd_goto (pc := 1208) X 2345 dL_law_1208 (by decide) ?_
        obtain ⟨v14, hv14⟩ : ∃ z : Int32, z = l5 + 5 := ⟨_, rfl⟩
        have h := h v14 hv14
        refine gd_iinc (pc := 2345) (v := v14) X 7 dL_law_2345 rfl (by rw [hv14]; rfl) (by decide) (E2 := [(5, .int v14), (7, .int r7), (6, .int r3), (0, .ref b), (1, rf l1), (2, rf l2), (3, rf l3), (4, rf l4)]) (by simp [rf_cat, lv1, int_cat, ref_cat] <;> decide) ?_
        refine gd_goto (pc := 2348) X 28 dL_law_2348 (by decide) ?_
        refine gd_wide (k2 := k + 36) (j2 := j + 292) (by (try simp only [room_1, rm_X6_thrown, rm_L_commitOf, rm_X6_commitOf] at *); omega) (by (try simp only [room_1, rm_X6_thrown, rm_L_commitOf, rm_X6_commitOf] at *); omega) ?_
        refine gd_sub [3, 4, 5, 6, 7, 0] rfl ?_
        exact hKH28 _ _ _ _ _ _ h
      · have h := h.2 hc15
        refine gd_iconst (pc := 1206) X (0) dL_law_1206 (by decide) ?_
        exact h.elim
  · have h := h.2 hc17
    refine gd_iconst (pc := 1189) X (0) dL_law_1189 (by decide) ?_
    exact h.elim
def b_L_law_1211 (xs : Nat → Int32) (Lx : Nat) (KH28 : MS → Nat → Nat → Nat → Nat → Int32 → Prop) (S : MS) (l1 l2 l3 l4 : Nat) (l5 : Int32) : Prop := vp_in (l5 + 1) Lx ∧ w_L_operationCount S l1 (xs (ix (l5 + 1))) l3 (fun r3 S2 => vp_in (l5 + 1) Lx ∧ kT S2 l2 = 7 ∧ w_X6_operationCount S2 l2 (xs (ix (l5 + 1))) (fun r7 S6 => kT S6 l2 = 7 ∧ w_X6_thrown S6 l2 (fun r10 S9 => ((r10 = r3 → ((¬ r3 = 0 → ∀ v11 : Int32, v11 = l5 + 5 → KH28 S9 l1 l2 l3 l4 v11) ∧ (r3 = 0 → kT S9 l3 = 15 ∧ vp_in 0 (kL S9 l3) ∧ (((lg_cmp (sL S9 l3 (ix 0)) r7.toInt64) = 0 → ∀ v14 : Int32, v14 = l5 + 5 → KH28 S9 l1 l2 l3 l4 v14) ∧ (¬ (lg_cmp (sL S9 l3 (ix 0)) r7.toInt64) = 0 → False))))) ∧ (¬ r10 = r3 → False)))))
set_option maxHeartbeats 4000000 in
set_option maxRecDepth 100000 in
theorem gl_1211 {p : Program} {l : Launch} {e : Env} {s : State} {m : MethodId} {below : List Frame} {meth : Method} {c : Code} {G : GP} {b Lx : Nat} {xs : Nat → Int32} (hfl : l.stackTraces = false) (X : Cx p s m #[Value.ref b] c code 9 R_law G) (hX : va_X b Lx xs s s.heap) (hbl : b < s.heap.size) (hbA : ¬ Ab G b) (hrt : meth.sig.returnType = ret) (hlk : meth.locks = false) (hG : G.2.2 = s.heap.size) {k j : Nat} (hk : k + 36 ≤ 603072) (hj : j + 292 ≤ 7178346) (KH28 : MS → Nat → Nat → Nat → Nat → Int32 → Prop) (hKH28 : ∀ (S : MS) (l1 l2 l3 l4 : Nat) (l5 : Int32), KH28 S l1 l2 l3 l4 l5 → Gd p l e room_1 s m #[Value.ref b] below meth c 9 G (lw_Z below #[Value.ref b] s) (k + 36) (j + 292) S 28 [(0, .ref b), (1, rf l1), (2, rf l2), (3, rf l3), (4, rf l4), (5, .int l5)] []) : ∀ (S : MS) (l1 l2 l3 l4 : Nat) (l5 : Int32), b_L_law_1211 xs Lx KH28 S l1 l2 l3 l4 l5 → Gd p l e room_1 s m #[Value.ref b] below meth c 9 G (lw_Z below #[Value.ref b] s) k j S 1211 [(0, .ref b), (1, rf l1), (2, rf l2), (3, rf l3), (4, rf l4), (5, .int l5)] [] := by
  intro S l1 l2 l3 l4 l5 h
  refine gd_aload_n (pc := 1211) X 1 dL_law_1211 rfl ?_
  refine gd_aloadP (pc := 1212) X 0 dL_law_1212 rfl ?_
  refine gd_iload (pc := 1213) X 5 dL_law_1213 rfl ?_
  refine gd_iconst (pc := 1215) X (1) dL_law_1215 (by decide) ?_
  refine gd_iadd (pc := 1216) X dL_law_1216 ?_
  obtain ⟨hi1, h⟩ := h
  refine gd_sld (pc := 1217) X hX hbl hbA dL_law_1217 hi1 ?_
  refine gd_aload_n (pc := 1218) X 3 dL_law_1218 rfl ?_
  refine gd_callW (n := 3) (pc := 1219) (As := [rf l1, .int (xs (ix (l5 + 1))), rf l3]) (rest := []) X (ct_L_operationCount l hfl G S l1 (xs (ix (l5 + 1))) l3 _ h) tw_732 tw_0 tw_733 ⟨by decide, by decide, by decide +kernel⟩ tw_731 ⟨(by (try simp only [room_1, rm_L_operationCount] at *); omega), (by (try simp only [room_1, rm_L_operationCount] at *); omega)⟩ rfl rfl (Nat.le_of_ble_eq_true rfl) dL_law_1219 ⟨(by (try simp only [room_1, rm_L_operationCount] at *); omega), (by (try simp only [room_1, rm_L_operationCount] at *); omega)⟩ (kI (fun r3 S2 h => ?_))
  refine gd_istore (pc := 1222) X dL_law_1222 (by decide) (E2 := [(6, .int r3), (0, .ref b), (1, rf l1), (2, rf l2), (3, rf l3), (4, rf l4), (5, .int l5)]) rfl ?_
  refine gd_aload_n (pc := 1224) X 3 dL_law_1224 rfl ?_
  refine gd_aloadP (pc := 1225) X 1 dL_law_1225 rfl ?_
  refine gd_iload (pc := 1226) X 6 dL_law_1226 rfl ?_
  refine gd_iconst (pc := 1228) X (1) dL_law_1228 (by decide) ?_
  refine gd_iadd (pc := 1229) X dL_law_1229 ?_
  obtain ⟨hi4, h⟩ := h
  refine gd_sld (pc := 1230) X hX hbl hbA dL_law_1230 hi4 ?_
  obtain ⟨hk5, h⟩ := h
  refine gd_callV (pc := 1231) (As := [.int (xs (ix (l5 + 1)))]) (rest := []) X (ct_X6_operationCount l G S2 l2 (xs (ix (l5 + 1))) _ h) mw_X6_operationCount tw_1279 ci6 rfl hk5 ⟨(by (try simp only [room_1, rm_X6_operationCount, rm_L_operationCount] at *); omega), (by (try simp only [room_1, rm_X6_operationCount, rm_L_operationCount] at *); omega)⟩ rfl rfl (Nat.le_of_ble_eq_true rfl) dL_law_1231 ⟨(by (try simp only [room_1, rm_X6_operationCount, rm_L_operationCount] at *); omega), (by (try simp only [room_1, rm_X6_operationCount, rm_L_operationCount] at *); omega)⟩ (kI (fun r7 S6 h => ?_))
  refine gd_istore (pc := 1234) X dL_law_1234 (by decide) (E2 := [(7, .int r7), (6, .int r3), (0, .ref b), (1, rf l1), (2, rf l2), (3, rf l3), (4, rf l4), (5, .int l5)]) rfl ?_
  refine gd_aload_n (pc := 1236) X 4 dL_law_1236 rfl ?_
  obtain ⟨hk8, h⟩ := h
  refine gd_callV (pc := 1237) (As := []) (rest := []) X (ct_X6_thrown l G S6 l2 _ h) mw_X6_thrown tw_973 ci6 rfl hk8 ⟨(by (try simp only [room_1, rm_X6_thrown, rm_L_operationCount, rm_X6_operationCount] at *); omega), (by (try simp only [room_1, rm_X6_thrown, rm_L_operationCount, rm_X6_operationCount] at *); omega)⟩ rfl rfl (Nat.le_of_ble_eq_true rfl) dL_law_1237 ⟨(by (try simp only [room_1, rm_X6_thrown, rm_L_operationCount, rm_X6_operationCount] at *); omega), (by (try simp only [room_1, rm_X6_thrown, rm_L_operationCount, rm_X6_operationCount] at *); omega)⟩ (kI (fun r10 S9 h => ?_))
  refine gd_iload (pc := 1240) X 1 dL_law_1240 rfl ?_
  refine gd_icmp_eq (pc := 1242) X 1247 dL_law_1242 (by decide) (fun hc17 => ?_) (fun hc17 => ?_)
  · have h := h.1 hc17
    refine gd_iload (pc := 1247) X 1 dL_law_1247 rfl ?_
    refine gd_if_ne (pc := 1249) X 1264 dL_law_1249 (by decide) (fun hc16 => ?_) (fun hc16 => ?_)
    · have h := h.1 hc16
      refine gd_goto (pc := 1264) X 2345 dL_law_1264 (by decide) ?_
      obtain ⟨v11, hv11⟩ : ∃ z : Int32, z = l5 + 5 := ⟨_, rfl⟩
      have h := h v11 hv11
      refine gd_iinc (pc := 2345) (v := v11) X 7 dL_law_2345 rfl (by rw [hv11]; rfl) (by decide) (E2 := [(5, .int v11), (7, .int r7), (6, .int r3), (0, .ref b), (1, rf l1), (2, rf l2), (3, rf l3), (4, rf l4)]) (by simp [rf_cat, lv1, int_cat, ref_cat] <;> decide) ?_
      refine gd_goto (pc := 2348) X 28 dL_law_2348 (by decide) ?_
      refine gd_wide (k2 := k + 36) (j2 := j + 292) (by (try simp only [room_1, rm_X6_thrown, rm_L_operationCount, rm_X6_operationCount] at *); omega) (by (try simp only [room_1, rm_X6_thrown, rm_L_operationCount, rm_X6_operationCount] at *); omega) ?_
      refine gd_sub [3, 4, 5, 6, 7, 0] rfl ?_
      exact hKH28 _ _ _ _ _ _ h
    · have h := h.2 hc16
      refine gd_aload_n (pc := 1252) X 5 dL_law_1252 rfl ?_
      refine gd_iconst (pc := 1253) X (0) dL_law_1253 (by decide) ?_
      obtain ⟨hk12, h⟩ := h
      obtain ⟨hi13, h⟩ := h
      refine gd_lald (pc := 1254) X dL_law_1254 hk12 hi13 ?_
      refine gd_iload (pc := 1255) X 0 dL_law_1255 rfl ?_
      refine gd_i2l (pc := 1257) X dL_law_1257 ?_
      refine gd_lcmp (pc := 1258) X dL_law_1258 ?_
      refine gd_if_eq (pc := 1259) X 1264 dL_law_1259 (by decide) (fun hc15 => ?_) (fun hc15 => ?_)
      · have h := h.1 hc15
        refine gd_goto (pc := 1264) X 2345 dL_law_1264 (by decide) ?_
        obtain ⟨v14, hv14⟩ : ∃ z : Int32, z = l5 + 5 := ⟨_, rfl⟩
        have h := h v14 hv14
        refine gd_iinc (pc := 2345) (v := v14) X 7 dL_law_2345 rfl (by rw [hv14]; rfl) (by decide) (E2 := [(5, .int v14), (7, .int r7), (6, .int r3), (0, .ref b), (1, rf l1), (2, rf l2), (3, rf l3), (4, rf l4)]) (by simp [rf_cat, lv1, int_cat, ref_cat] <;> decide) ?_
        refine gd_goto (pc := 2348) X 28 dL_law_2348 (by decide) ?_
        refine gd_wide (k2 := k + 36) (j2 := j + 292) (by (try simp only [room_1, rm_X6_thrown, rm_L_operationCount, rm_X6_operationCount] at *); omega) (by (try simp only [room_1, rm_X6_thrown, rm_L_operationCount, rm_X6_operationCount] at *); omega) ?_
        refine gd_sub [3, 4, 5, 6, 7, 0] rfl ?_
        exact hKH28 _ _ _ _ _ _ h
      · have h := h.2 hc15
        refine gd_iconst (pc := 1262) X (0) dL_law_1262 (by decide) ?_
        exact h.elim
  · have h := h.2 hc17
    refine gd_iconst (pc := 1245) X (0) dL_law_1245 (by decide) ?_
    exact h.elim
