def b_L_law_1858 (xs : Nat → Int32) (Lx : Nat) (KH28 : MS → Nat → Nat → Nat → Nat → Int32 → Prop) (S : MS) (l1 l2 l3 l4 : Nat) (l5 : Int32) : Prop := kT S l1 = 6 ∧ w_X5_longestChain S l1 (fun r3 S2 => kT S2 l2 = 7 ∧ w_X6_longestChain S2 l2 (fun r6 S5 => ((r3 = r6 → ∀ v7 : Int32, v7 = l5 + 5 → KH28 S5 l1 l2 l3 l4 v7) ∧ (¬ r3 = r6 → False))))
set_option maxHeartbeats 4000000 in
set_option maxRecDepth 100000 in
theorem gl_1858 {p : Program} {l : Launch} {e : Env} {s : State} {m : MethodId} {below : List Frame} {meth : Method} {c : Code} {G : GP} {b Lx : Nat} {xs : Nat → Int32} (hfl : l.stackTraces = false) (X : Cx p s m #[Value.ref b] c code 9 R_law G) (hX : va_X b Lx xs s s.heap) (hbl : b < s.heap.size) (hbA : ¬ Ab G b) (hrt : meth.sig.returnType = ret) (hlk : meth.locks = false) (hG : G.2.2 = s.heap.size) {k j : Nat} (hk : k + 36 ≤ 603072) (hj : j + 292 ≤ 7178346) (KH28 : MS → Nat → Nat → Nat → Nat → Int32 → Prop) (hKH28 : ∀ (S : MS) (l1 l2 l3 l4 : Nat) (l5 : Int32), KH28 S l1 l2 l3 l4 l5 → Gd p l e room_1 s m #[Value.ref b] below meth c 9 G (lw_Z below #[Value.ref b] s) (k + 36) (j + 292) S 28 [(0, .ref b), (1, rf l1), (2, rf l2), (3, rf l3), (4, rf l4), (5, .int l5)] []) : ∀ (S : MS) (l1 l2 l3 l4 : Nat) (l5 : Int32), b_L_law_1858 xs Lx KH28 S l1 l2 l3 l4 l5 → Gd p l e room_1 s m #[Value.ref b] below meth c 9 G (lw_Z below #[Value.ref b] s) k j S 1858 [(0, .ref b), (1, rf l1), (2, rf l2), (3, rf l3), (4, rf l4), (5, .int l5)] [] := by
  intro S l1 l2 l3 l4 l5 h
  refine gd_aload_n (pc := 1858) X 1 dL_law_1858 rfl ?_
  obtain ⟨hk1, h⟩ := h
  refine gd_callV (pc := 1859) (As := []) (rest := []) X (ct_X5_longestChain l G S l1 _ h) mw_X5_longestChain tw_141 ci5 rfl hk1 ⟨(by (try simp only [room_1, rm_X5_longestChain] at *); omega), (by (try simp only [room_1, rm_X5_longestChain] at *); omega)⟩ rfl rfl (Nat.le_of_ble_eq_true rfl) dL_law_1859 ⟨(by (try simp only [room_1, rm_X5_longestChain] at *); omega), (by (try simp only [room_1, rm_X5_longestChain] at *); omega)⟩ (kI (fun r3 S2 h => ?_))
  refine gd_aload_n (pc := 1862) X 2 dL_law_1862 rfl ?_
  obtain ⟨hk4, h⟩ := h
  refine gd_callV (pc := 1863) (As := []) (rest := [.int r3]) X (ct_X6_longestChain l G S2 l2 _ h) mw_X6_longestChain tw_1327 ci6 rfl hk4 ⟨(by (try simp only [room_1, rm_X6_longestChain, rm_X5_longestChain] at *); omega), (by (try simp only [room_1, rm_X6_longestChain, rm_X5_longestChain] at *); omega)⟩ rfl rfl (Nat.le_of_ble_eq_true rfl) dL_law_1863 ⟨(by (try simp only [room_1, rm_X6_longestChain, rm_X5_longestChain] at *); omega), (by (try simp only [room_1, rm_X6_longestChain, rm_X5_longestChain] at *); omega)⟩ (kI (fun r6 S5 h => ?_))
  refine gd_icmp_eq (pc := 1866) X 2345 dL_law_1866 (by decide) (fun hc8 => ?_) (fun hc8 => ?_)
  · have h := h.1 hc8
    obtain ⟨v7, hv7⟩ : ∃ z : Int32, z = l5 + 5 := ⟨_, rfl⟩
    have h := h v7 hv7
    refine gd_iinc (pc := 2345) (v := v7) X 5 dL_law_2345 rfl (by rw [hv7]; rfl) (by decide) (E2 := [(5, .int v7), (0, .ref b), (1, rf l1), (2, rf l2), (3, rf l3), (4, rf l4)]) (by simp [rf_cat, lv1, int_cat, ref_cat] <;> decide) ?_
    refine gd_goto (pc := 2348) X 28 dL_law_2348 (by decide) ?_
    refine gd_wide (k2 := k + 36) (j2 := j + 292) (by (try simp only [room_1, rm_X6_longestChain, rm_X5_longestChain] at *); omega) (by (try simp only [room_1, rm_X6_longestChain, rm_X5_longestChain] at *); omega) ?_
    refine gd_sub [1, 2, 3, 4, 5, 0] rfl ?_
    exact hKH28 _ _ _ _ _ _ h
  · have h := h.2 hc8
    refine gd_iconst (pc := 1869) X (0) dL_law_1869 (by decide) ?_
    exact h.elim
def b_L_law_1871 (xs : Nat → Int32) (Lx : Nat) (KH28 : MS → Nat → Nat → Nat → Nat → Int32 → Prop) (S : MS) (l1 l2 l3 l4 : Nat) (l5 : Int32) : Prop := kT S l1 = 6 ∧ w_X5_serialFaults S l1 (fun r3 S2 => kT S2 l2 = 7 ∧ w_X6_serialFaults S2 l2 (fun r6 S5 => ((r3 = r6 → ∀ v7 : Int32, v7 = l5 + 5 → KH28 S5 l1 l2 l3 l4 v7) ∧ (¬ r3 = r6 → False))))
set_option maxHeartbeats 4000000 in
set_option maxRecDepth 100000 in
theorem gl_1871 {p : Program} {l : Launch} {e : Env} {s : State} {m : MethodId} {below : List Frame} {meth : Method} {c : Code} {G : GP} {b Lx : Nat} {xs : Nat → Int32} (hfl : l.stackTraces = false) (X : Cx p s m #[Value.ref b] c code 9 R_law G) (hX : va_X b Lx xs s s.heap) (hbl : b < s.heap.size) (hbA : ¬ Ab G b) (hrt : meth.sig.returnType = ret) (hlk : meth.locks = false) (hG : G.2.2 = s.heap.size) {k j : Nat} (hk : k + 36 ≤ 603072) (hj : j + 292 ≤ 7178346) (KH28 : MS → Nat → Nat → Nat → Nat → Int32 → Prop) (hKH28 : ∀ (S : MS) (l1 l2 l3 l4 : Nat) (l5 : Int32), KH28 S l1 l2 l3 l4 l5 → Gd p l e room_1 s m #[Value.ref b] below meth c 9 G (lw_Z below #[Value.ref b] s) (k + 36) (j + 292) S 28 [(0, .ref b), (1, rf l1), (2, rf l2), (3, rf l3), (4, rf l4), (5, .int l5)] []) : ∀ (S : MS) (l1 l2 l3 l4 : Nat) (l5 : Int32), b_L_law_1871 xs Lx KH28 S l1 l2 l3 l4 l5 → Gd p l e room_1 s m #[Value.ref b] below meth c 9 G (lw_Z below #[Value.ref b] s) k j S 1871 [(0, .ref b), (1, rf l1), (2, rf l2), (3, rf l3), (4, rf l4), (5, .int l5)] [] := by
  intro S l1 l2 l3 l4 l5 h
  refine gd_aload_n (pc := 1871) X 1 dL_law_1871 rfl ?_
  obtain ⟨hk1, h⟩ := h
  refine gd_callV (pc := 1872) (As := []) (rest := []) X (ct_X5_serialFaults l G S l1 _ h) mw_X5_serialFaults tw_181 ci5 rfl hk1 ⟨(by (try simp only [room_1, rm_X5_serialFaults] at *); omega), (by (try simp only [room_1, rm_X5_serialFaults] at *); omega)⟩ rfl rfl (Nat.le_of_ble_eq_true rfl) dL_law_1872 ⟨(by (try simp only [room_1, rm_X5_serialFaults] at *); omega), (by (try simp only [room_1, rm_X5_serialFaults] at *); omega)⟩ (kI (fun r3 S2 h => ?_))
  refine gd_aload_n (pc := 1875) X 2 dL_law_1875 rfl ?_
  obtain ⟨hk4, h⟩ := h
  refine gd_callV (pc := 1876) (As := []) (rest := [.int r3]) X (ct_X6_serialFaults l G S2 l2 _ h) mw_X6_serialFaults tw_1332 ci6 rfl hk4 ⟨(by (try simp only [room_1, rm_X6_serialFaults, rm_X5_serialFaults] at *); omega), (by (try simp only [room_1, rm_X6_serialFaults, rm_X5_serialFaults] at *); omega)⟩ rfl rfl (Nat.le_of_ble_eq_true rfl) dL_law_1876 ⟨(by (try simp only [room_1, rm_X6_serialFaults, rm_X5_serialFaults] at *); omega), (by (try simp only [room_1, rm_X6_serialFaults, rm_X5_serialFaults] at *); omega)⟩ (kI (fun r6 S5 h => ?_))
  refine gd_icmp_eq (pc := 1879) X 2345 dL_law_1879 (by decide) (fun hc8 => ?_) (fun hc8 => ?_)
  · have h := h.1 hc8
    obtain ⟨v7, hv7⟩ : ∃ z : Int32, z = l5 + 5 := ⟨_, rfl⟩
    have h := h v7 hv7
    refine gd_iinc (pc := 2345) (v := v7) X 5 dL_law_2345 rfl (by rw [hv7]; rfl) (by decide) (E2 := [(5, .int v7), (0, .ref b), (1, rf l1), (2, rf l2), (3, rf l3), (4, rf l4)]) (by simp [rf_cat, lv1, int_cat, ref_cat] <;> decide) ?_
    refine gd_goto (pc := 2348) X 28 dL_law_2348 (by decide) ?_
    refine gd_wide (k2 := k + 36) (j2 := j + 292) (by (try simp only [room_1, rm_X6_serialFaults, rm_X5_serialFaults] at *); omega) (by (try simp only [room_1, rm_X6_serialFaults, rm_X5_serialFaults] at *); omega) ?_
    refine gd_sub [1, 2, 3, 4, 5, 0] rfl ?_
    exact hKH28 _ _ _ _ _ _ h
  · have h := h.2 hc8
    refine gd_iconst (pc := 1882) X (0) dL_law_1882 (by decide) ?_
    exact h.elim
def b_L_law_1884 (xs : Nat → Int32) (Lx : Nat) (KH28 : MS → Nat → Nat → Nat → Nat → Int32 → Prop) (S : MS) (l1 l2 l3 l4 : Nat) (l5 : Int32) : Prop := vp_in (l5 + 1) Lx ∧ w_L_rewind S l1 (xs (ix (l5 + 1))) l3 (fun r3 S2 => vp_in (l5 + 1) Lx ∧ kT S2 l2 = 7 ∧ w_X6_rewind S2 l2 (xs (ix (l5 + 1))) (fun r7 S6 => kT S6 l2 = 7 ∧ w_X6_thrown S6 l2 (fun r10 S9 => ((r10 = r3 → ((¬ r3 = 0 → ∀ v11 : Int32, v11 = l5 + 5 → KH28 S9 l1 l2 l3 l4 v11) ∧ (r3 = 0 → kT S9 l3 = 15 ∧ vp_in 0 (kL S9 l3) ∧ (((lg_cmp (sL S9 l3 (ix 0)) r7.toInt64) = 0 → ∀ v14 : Int32, v14 = l5 + 5 → KH28 S9 l1 l2 l3 l4 v14) ∧ (¬ (lg_cmp (sL S9 l3 (ix 0)) r7.toInt64) = 0 → False))))) ∧ (¬ r10 = r3 → False)))))
set_option maxHeartbeats 4000000 in
set_option maxRecDepth 100000 in
theorem gl_1884 {p : Program} {l : Launch} {e : Env} {s : State} {m : MethodId} {below : List Frame} {meth : Method} {c : Code} {G : GP} {b Lx : Nat} {xs : Nat → Int32} (hfl : l.stackTraces = false) (X : Cx p s m #[Value.ref b] c code 9 R_law G) (hX : va_X b Lx xs s s.heap) (hbl : b < s.heap.size) (hbA : ¬ Ab G b) (hrt : meth.sig.returnType = ret) (hlk : meth.locks = false) (hG : G.2.2 = s.heap.size) {k j : Nat} (hk : k + 36 ≤ 603072) (hj : j + 292 ≤ 7178346) (KH28 : MS → Nat → Nat → Nat → Nat → Int32 → Prop) (hKH28 : ∀ (S : MS) (l1 l2 l3 l4 : Nat) (l5 : Int32), KH28 S l1 l2 l3 l4 l5 → Gd p l e room_1 s m #[Value.ref b] below meth c 9 G (lw_Z below #[Value.ref b] s) (k + 36) (j + 292) S 28 [(0, .ref b), (1, rf l1), (2, rf l2), (3, rf l3), (4, rf l4), (5, .int l5)] []) : ∀ (S : MS) (l1 l2 l3 l4 : Nat) (l5 : Int32), b_L_law_1884 xs Lx KH28 S l1 l2 l3 l4 l5 → Gd p l e room_1 s m #[Value.ref b] below meth c 9 G (lw_Z below #[Value.ref b] s) k j S 1884 [(0, .ref b), (1, rf l1), (2, rf l2), (3, rf l3), (4, rf l4), (5, .int l5)] [] := by
  intro S l1 l2 l3 l4 l5 h
  refine gd_aload_n (pc := 1884) X 1 dL_law_1884 rfl ?_
  refine gd_aloadP (pc := 1885) X 0 dL_law_1885 rfl ?_
  refine gd_iload (pc := 1886) X 5 dL_law_1886 rfl ?_
  refine gd_iconst (pc := 1888) X (1) dL_law_1888 (by decide) ?_
  refine gd_iadd (pc := 1889) X dL_law_1889 ?_
  obtain ⟨hi1, h⟩ := h
  refine gd_sld (pc := 1890) X hX hbl hbA dL_law_1890 hi1 ?_
  refine gd_aload_n (pc := 1891) X 3 dL_law_1891 rfl ?_
  refine gd_callW (n := 3) (pc := 1892) (As := [rf l1, .int (xs (ix (l5 + 1))), rf l3]) (rest := []) X (ct_L_rewind l hfl G S l1 (xs (ix (l5 + 1))) l3 _ h) tw_830 tw_0 tw_831 ⟨by decide, by decide, by decide +kernel⟩ tw_829 ⟨(by (try simp only [room_1, rm_L_rewind] at *); omega), (by (try simp only [room_1, rm_L_rewind] at *); omega)⟩ rfl rfl (Nat.le_of_ble_eq_true rfl) dL_law_1892 ⟨(by (try simp only [room_1, rm_L_rewind] at *); omega), (by (try simp only [room_1, rm_L_rewind] at *); omega)⟩ (kI (fun r3 S2 h => ?_))
  refine gd_istore (pc := 1895) X dL_law_1895 (by decide) (E2 := [(6, .int r3), (0, .ref b), (1, rf l1), (2, rf l2), (3, rf l3), (4, rf l4), (5, .int l5)]) rfl ?_
  refine gd_aload_n (pc := 1897) X 3 dL_law_1897 rfl ?_
  refine gd_aloadP (pc := 1898) X 1 dL_law_1898 rfl ?_
  refine gd_iload (pc := 1899) X 6 dL_law_1899 rfl ?_
  refine gd_iconst (pc := 1901) X (1) dL_law_1901 (by decide) ?_
  refine gd_iadd (pc := 1902) X dL_law_1902 ?_
  obtain ⟨hi4, h⟩ := h
  refine gd_sld (pc := 1903) X hX hbl hbA dL_law_1903 hi4 ?_
  obtain ⟨hk5, h⟩ := h
  refine gd_callV (pc := 1904) (As := [.int (xs (ix (l5 + 1)))]) (rest := []) X (ct_X6_rewind l G S2 l2 (xs (ix (l5 + 1))) _ h) mw_X6_rewind tw_1344 ci6 rfl hk5 ⟨(by (try simp only [room_1, rm_X6_rewind, rm_L_rewind] at *); omega), (by (try simp only [room_1, rm_X6_rewind, rm_L_rewind] at *); omega)⟩ rfl rfl (Nat.le_of_ble_eq_true rfl) dL_law_1904 ⟨(by (try simp only [room_1, rm_X6_rewind, rm_L_rewind] at *); omega), (by (try simp only [room_1, rm_X6_rewind, rm_L_rewind] at *); omega)⟩ (kI (fun r7 S6 h => ?_))
  refine gd_istore (pc := 1907) X dL_law_1907 (by decide) (E2 := [(7, .int r7), (6, .int r3), (0, .ref b), (1, rf l1), (2, rf l2), (3, rf l3), (4, rf l4), (5, .int l5)]) rfl ?_
  refine gd_aload_n (pc := 1909) X 4 dL_law_1909 rfl ?_
  obtain ⟨hk8, h⟩ := h
  refine gd_callV (pc := 1910) (As := []) (rest := []) X (ct_X6_thrown l G S6 l2 _ h) mw_X6_thrown tw_973 ci6 rfl hk8 ⟨(by (try simp only [room_1, rm_X6_thrown, rm_L_rewind, rm_X6_rewind] at *); omega), (by (try simp only [room_1, rm_X6_thrown, rm_L_rewind, rm_X6_rewind] at *); omega)⟩ rfl rfl (Nat.le_of_ble_eq_true rfl) dL_law_1910 ⟨(by (try simp only [room_1, rm_X6_thrown, rm_L_rewind, rm_X6_rewind] at *); omega), (by (try simp only [room_1, rm_X6_thrown, rm_L_rewind, rm_X6_rewind] at *); omega)⟩ (kI (fun r10 S9 h => ?_))
  refine gd_iload (pc := 1913) X 1 dL_law_1913 rfl ?_
  refine gd_icmp_eq (pc := 1915) X 1920 dL_law_1915 (by decide) (fun hc17 => ?_) (fun hc17 => ?_)
  · have h := h.1 hc17
    refine gd_iload (pc := 1920) X 1 dL_law_1920 rfl ?_
    refine gd_if_ne (pc := 1922) X 1937 dL_law_1922 (by decide) (fun hc16 => ?_) (fun hc16 => ?_)
    · have h := h.1 hc16
      refine gd_goto (pc := 1937) X 2345 dL_law_1937 (by decide) ?_
      obtain ⟨v11, hv11⟩ : ∃ z : Int32, z = l5 + 5 := ⟨_, rfl⟩
      have h := h v11 hv11
      refine gd_iinc (pc := 2345) (v := v11) X 7 dL_law_2345 rfl (by rw [hv11]; rfl) (by decide) (E2 := [(5, .int v11), (7, .int r7), (6, .int r3), (0, .ref b), (1, rf l1), (2, rf l2), (3, rf l3), (4, rf l4)]) (by simp [rf_cat, lv1, int_cat, ref_cat] <;> decide) ?_
      refine gd_goto (pc := 2348) X 28 dL_law_2348 (by decide) ?_
      refine gd_wide (k2 := k + 36) (j2 := j + 292) (by (try simp only [room_1, rm_X6_thrown, rm_L_rewind, rm_X6_rewind] at *); omega) (by (try simp only [room_1, rm_X6_thrown, rm_L_rewind, rm_X6_rewind] at *); omega) ?_
      refine gd_sub [3, 4, 5, 6, 7, 0] rfl ?_
      exact hKH28 _ _ _ _ _ _ h
    · have h := h.2 hc16
      refine gd_aload_n (pc := 1925) X 5 dL_law_1925 rfl ?_
      refine gd_iconst (pc := 1926) X (0) dL_law_1926 (by decide) ?_
      obtain ⟨hk12, h⟩ := h
      obtain ⟨hi13, h⟩ := h
      refine gd_lald (pc := 1927) X dL_law_1927 hk12 hi13 ?_
      refine gd_iload (pc := 1928) X 0 dL_law_1928 rfl ?_
      refine gd_i2l (pc := 1930) X dL_law_1930 ?_
      refine gd_lcmp (pc := 1931) X dL_law_1931 ?_
      refine gd_if_eq (pc := 1932) X 1937 dL_law_1932 (by decide) (fun hc15 => ?_) (fun hc15 => ?_)
      · have h := h.1 hc15
        refine gd_goto (pc := 1937) X 2345 dL_law_1937 (by decide) ?_
        obtain ⟨v14, hv14⟩ : ∃ z : Int32, z = l5 + 5 := ⟨_, rfl⟩
        have h := h v14 hv14
        refine gd_iinc (pc := 2345) (v := v14) X 7 dL_law_2345 rfl (by rw [hv14]; rfl) (by decide) (E2 := [(5, .int v14), (7, .int r7), (6, .int r3), (0, .ref b), (1, rf l1), (2, rf l2), (3, rf l3), (4, rf l4)]) (by simp [rf_cat, lv1, int_cat, ref_cat] <;> decide) ?_
        refine gd_goto (pc := 2348) X 28 dL_law_2348 (by decide) ?_
        refine gd_wide (k2 := k + 36) (j2 := j + 292) (by (try simp only [room_1, rm_X6_thrown, rm_L_rewind, rm_X6_rewind] at *); omega) (by (try simp only [room_1, rm_X6_thrown, rm_L_rewind, rm_X6_rewind] at *); omega) ?_
        refine gd_sub [3, 4, 5, 6, 7, 0] rfl ?_
        exact hKH28 _ _ _ _ _ _ h
      · have h := h.2 hc15
        refine gd_iconst (pc := 1935) X (0) dL_law_1935 (by decide) ?_
        exact h.elim
  · have h := h.2 hc17
    refine gd_iconst (pc := 1918) X (0) dL_law_1918 (by decide) ?_
    exact h.elim
def b_L_law_1940 (xs : Nat → Int32) (Lx : Nat) (KH28 : MS → Nat → Nat → Nat → Nat → Int32 → Prop) (S : MS) (l1 l2 l3 l4 : Nat) (l5 : Int32) : Prop := vp_in (l5 + 1) Lx ∧ vp_in (l5 + 2) Lx ∧ vp_in (l5 + 3) Lx ∧ vp_in (l5 + 4) Lx ∧ w_L_addConstraint S l1 (xs (ix (l5 + 1))) (xs (ix (l5 + 2))) (xs (ix (l5 + 3))) (xs (ix (l5 + 4))) l3 (fun r6 S5 => vp_in (l5 + 1) Lx ∧ vp_in (l5 + 2) Lx ∧ vp_in (l5 + 3) Lx ∧ vp_in (l5 + 4) Lx ∧ kT S5 l2 = 7 ∧ w_X6_addConstraint S5 l2 (xs (ix (l5 + 1))) (xs (ix (l5 + 2))) (xs (ix (l5 + 3))) (xs (ix (l5 + 4))) (fun r13 S12 => kT S12 l2 = 7 ∧ w_X6_thrown S12 l2 (fun r16 S15 => ((r16 = r6 → ((¬ r6 = 0 → ∀ v17 : Int32, v17 = l5 + 5 → KH28 S15 l1 l2 l3 l4 v17) ∧ (r6 = 0 → kT S15 l3 = 15 ∧ vp_in 0 (kL S15 l3) ∧ (((lg_cmp (sL S15 l3 (ix 0)) r13.toInt64) = 0 → ∀ v20 : Int32, v20 = l5 + 5 → KH28 S15 l1 l2 l3 l4 v20) ∧ (¬ (lg_cmp (sL S15 l3 (ix 0)) r13.toInt64) = 0 → False))))) ∧ (¬ r16 = r6 → False)))))
set_option maxHeartbeats 4000000 in
set_option maxRecDepth 100000 in
theorem gl_1940 {p : Program} {l : Launch} {e : Env} {s : State} {m : MethodId} {below : List Frame} {meth : Method} {c : Code} {G : GP} {b Lx : Nat} {xs : Nat → Int32} (hfl : l.stackTraces = false) (X : Cx p s m #[Value.ref b] c code 9 R_law G) (hX : va_X b Lx xs s s.heap) (hbl : b < s.heap.size) (hbA : ¬ Ab G b) (hrt : meth.sig.returnType = ret) (hlk : meth.locks = false) (hG : G.2.2 = s.heap.size) {k j : Nat} (hk : k + 36 ≤ 603072) (hj : j + 292 ≤ 7178346) (KH28 : MS → Nat → Nat → Nat → Nat → Int32 → Prop) (hKH28 : ∀ (S : MS) (l1 l2 l3 l4 : Nat) (l5 : Int32), KH28 S l1 l2 l3 l4 l5 → Gd p l e room_1 s m #[Value.ref b] below meth c 9 G (lw_Z below #[Value.ref b] s) (k + 36) (j + 292) S 28 [(0, .ref b), (1, rf l1), (2, rf l2), (3, rf l3), (4, rf l4), (5, .int l5)] []) : ∀ (S : MS) (l1 l2 l3 l4 : Nat) (l5 : Int32), b_L_law_1940 xs Lx KH28 S l1 l2 l3 l4 l5 → Gd p l e room_1 s m #[Value.ref b] below meth c 9 G (lw_Z below #[Value.ref b] s) k j S 1940 [(0, .ref b), (1, rf l1), (2, rf l2), (3, rf l3), (4, rf l4), (5, .int l5)] [] := by
  intro S l1 l2 l3 l4 l5 h
  refine gd_aload_n (pc := 1940) X 1 dL_law_1940 rfl ?_
  refine gd_aloadP (pc := 1941) X 0 dL_law_1941 rfl ?_
  refine gd_iload (pc := 1942) X 5 dL_law_1942 rfl ?_
  refine gd_iconst (pc := 1944) X (1) dL_law_1944 (by decide) ?_
  refine gd_iadd (pc := 1945) X dL_law_1945 ?_
  obtain ⟨hi1, h⟩ := h
  refine gd_sld (pc := 1946) X hX hbl hbA dL_law_1946 hi1 ?_
  refine gd_aloadP (pc := 1947) X 0 dL_law_1947 rfl ?_
  refine gd_iload (pc := 1948) X 5 dL_law_1948 rfl ?_
  refine gd_iconst (pc := 1950) X (2) dL_law_1950 (by decide) ?_
  refine gd_iadd (pc := 1951) X dL_law_1951 ?_
  obtain ⟨hi2, h⟩ := h
  refine gd_sld (pc := 1952) X hX hbl hbA dL_law_1952 hi2 ?_
  refine gd_aloadP (pc := 1953) X 0 dL_law_1953 rfl ?_
  refine gd_iload (pc := 1954) X 5 dL_law_1954 rfl ?_
  refine gd_iconst (pc := 1956) X (3) dL_law_1956 (by decide) ?_
  refine gd_iadd (pc := 1957) X dL_law_1957 ?_
  obtain ⟨hi3, h⟩ := h
  refine gd_sld (pc := 1958) X hX hbl hbA dL_law_1958 hi3 ?_
  refine gd_aloadP (pc := 1959) X 0 dL_law_1959 rfl ?_
  refine gd_iload (pc := 1960) X 5 dL_law_1960 rfl ?_
  refine gd_iconst (pc := 1962) X (4) dL_law_1962 (by decide) ?_
  refine gd_iadd (pc := 1963) X dL_law_1963 ?_
  obtain ⟨hi4, h⟩ := h
  refine gd_sld (pc := 1964) X hX hbl hbA dL_law_1964 hi4 ?_
  refine gd_aload_n (pc := 1965) X 3 dL_law_1965 rfl ?_
  refine gd_callW (n := 6) (pc := 1966) (As := [rf l1, .int (xs (ix (l5 + 1))), .int (xs (ix (l5 + 2))), .int (xs (ix (l5 + 3))), .int (xs (ix (l5 + 4))), rf l3]) (rest := []) X (ct_L_addConstraint l hfl G S l1 (xs (ix (l5 + 1))) (xs (ix (l5 + 2))) (xs (ix (l5 + 3))) (xs (ix (l5 + 4))) l3 _ h) tw_842 tw_0 tw_843 ⟨by decide, by decide, by decide +kernel⟩ tw_841 ⟨(by (try simp only [room_1, rm_L_addConstraint] at *); omega), (by (try simp only [room_1, rm_L_addConstraint] at *); omega)⟩ rfl rfl (Nat.le_of_ble_eq_true rfl) dL_law_1966 ⟨(by (try simp only [room_1, rm_L_addConstraint] at *); omega), (by (try simp only [room_1, rm_L_addConstraint] at *); omega)⟩ (kI (fun r6 S5 h => ?_))
  refine gd_istore (pc := 1969) X dL_law_1969 (by decide) (E2 := [(6, .int r6), (0, .ref b), (1, rf l1), (2, rf l2), (3, rf l3), (4, rf l4), (5, .int l5)]) rfl ?_
  refine gd_aload_n (pc := 1971) X 3 dL_law_1971 rfl ?_
  refine gd_aloadP (pc := 1972) X 1 dL_law_1972 rfl ?_
  refine gd_iload (pc := 1973) X 6 dL_law_1973 rfl ?_
  refine gd_iconst (pc := 1975) X (1) dL_law_1975 (by decide) ?_
  refine gd_iadd (pc := 1976) X dL_law_1976 ?_
  obtain ⟨hi7, h⟩ := h
  refine gd_sld (pc := 1977) X hX hbl hbA dL_law_1977 hi7 ?_
  refine gd_aloadP (pc := 1978) X 1 dL_law_1978 rfl ?_
  refine gd_iload (pc := 1979) X 6 dL_law_1979 rfl ?_
  refine gd_iconst (pc := 1981) X (2) dL_law_1981 (by decide) ?_
  refine gd_iadd (pc := 1982) X dL_law_1982 ?_
  obtain ⟨hi8, h⟩ := h
  refine gd_sld (pc := 1983) X hX hbl hbA dL_law_1983 hi8 ?_
  refine gd_aloadP (pc := 1984) X 1 dL_law_1984 rfl ?_
  refine gd_iload (pc := 1985) X 6 dL_law_1985 rfl ?_
  refine gd_iconst (pc := 1987) X (3) dL_law_1987 (by decide) ?_
  refine gd_iadd (pc := 1988) X dL_law_1988 ?_
  obtain ⟨hi9, h⟩ := h
  refine gd_sld (pc := 1989) X hX hbl hbA dL_law_1989 hi9 ?_
  refine gd_aloadP (pc := 1990) X 1 dL_law_1990 rfl ?_
  refine gd_iload (pc := 1991) X 6 dL_law_1991 rfl ?_
  refine gd_iconst (pc := 1993) X (4) dL_law_1993 (by decide) ?_
  refine gd_iadd (pc := 1994) X dL_law_1994 ?_
  obtain ⟨hi10, h⟩ := h
  refine gd_sld (pc := 1995) X hX hbl hbA dL_law_1995 hi10 ?_
  obtain ⟨hk11, h⟩ := h
  refine gd_callV (pc := 1996) (As := [.int (xs (ix (l5 + 1))), .int (xs (ix (l5 + 2))), .int (xs (ix (l5 + 3))), .int (xs (ix (l5 + 4)))]) (rest := []) X (ct_X6_addConstraint l G S5 l2 (xs (ix (l5 + 1))) (xs (ix (l5 + 2))) (xs (ix (l5 + 3))) (xs (ix (l5 + 4))) _ h) mw_X6_addConstraint tw_1348 ci6 rfl hk11 ⟨(by (try simp only [room_1, rm_X6_addConstraint, rm_L_addConstraint] at *); omega), (by (try simp only [room_1, rm_X6_addConstraint, rm_L_addConstraint] at *); omega)⟩ rfl rfl (Nat.le_of_ble_eq_true rfl) dL_law_1996 ⟨(by (try simp only [room_1, rm_X6_addConstraint, rm_L_addConstraint] at *); omega), (by (try simp only [room_1, rm_X6_addConstraint, rm_L_addConstraint] at *); omega)⟩ (kI (fun r13 S12 h => ?_))
  refine gd_istore (pc := 1999) X dL_law_1999 (by decide) (E2 := [(7, .int r13), (6, .int r6), (0, .ref b), (1, rf l1), (2, rf l2), (3, rf l3), (4, rf l4), (5, .int l5)]) rfl ?_
  refine gd_aload_n (pc := 2001) X 4 dL_law_2001 rfl ?_
  obtain ⟨hk14, h⟩ := h
  refine gd_callV (pc := 2002) (As := []) (rest := []) X (ct_X6_thrown l G S12 l2 _ h) mw_X6_thrown tw_973 ci6 rfl hk14 ⟨(by (try simp only [room_1, rm_X6_thrown, rm_L_addConstraint, rm_X6_addConstraint] at *); omega), (by (try simp only [room_1, rm_X6_thrown, rm_L_addConstraint, rm_X6_addConstraint] at *); omega)⟩ rfl rfl (Nat.le_of_ble_eq_true rfl) dL_law_2002 ⟨(by (try simp only [room_1, rm_X6_thrown, rm_L_addConstraint, rm_X6_addConstraint] at *); omega), (by (try simp only [room_1, rm_X6_thrown, rm_L_addConstraint, rm_X6_addConstraint] at *); omega)⟩ (kI (fun r16 S15 h => ?_))
  refine gd_iload (pc := 2005) X 1 dL_law_2005 rfl ?_
  refine gd_icmp_eq (pc := 2007) X 2012 dL_law_2007 (by decide) (fun hc23 => ?_) (fun hc23 => ?_)
  · have h := h.1 hc23
    refine gd_iload (pc := 2012) X 1 dL_law_2012 rfl ?_
    refine gd_if_ne (pc := 2014) X 2029 dL_law_2014 (by decide) (fun hc22 => ?_) (fun hc22 => ?_)
    · have h := h.1 hc22
      refine gd_goto (pc := 2029) X 2345 dL_law_2029 (by decide) ?_
      obtain ⟨v17, hv17⟩ : ∃ z : Int32, z = l5 + 5 := ⟨_, rfl⟩
      have h := h v17 hv17
      refine gd_iinc (pc := 2345) (v := v17) X 7 dL_law_2345 rfl (by rw [hv17]; rfl) (by decide) (E2 := [(5, .int v17), (7, .int r13), (6, .int r6), (0, .ref b), (1, rf l1), (2, rf l2), (3, rf l3), (4, rf l4)]) (by simp [rf_cat, lv1, int_cat, ref_cat] <;> decide) ?_
      refine gd_goto (pc := 2348) X 28 dL_law_2348 (by decide) ?_
      refine gd_wide (k2 := k + 36) (j2 := j + 292) (by (try simp only [room_1, rm_X6_thrown, rm_L_addConstraint, rm_X6_addConstraint] at *); omega) (by (try simp only [room_1, rm_X6_thrown, rm_L_addConstraint, rm_X6_addConstraint] at *); omega) ?_
      refine gd_sub [3, 4, 5, 6, 7, 0] rfl ?_
      exact hKH28 _ _ _ _ _ _ h
    · have h := h.2 hc22
      refine gd_aload_n (pc := 2017) X 5 dL_law_2017 rfl ?_
      refine gd_iconst (pc := 2018) X (0) dL_law_2018 (by decide) ?_
      obtain ⟨hk18, h⟩ := h
      obtain ⟨hi19, h⟩ := h
      refine gd_lald (pc := 2019) X dL_law_2019 hk18 hi19 ?_
      refine gd_iload (pc := 2020) X 0 dL_law_2020 rfl ?_
      refine gd_i2l (pc := 2022) X dL_law_2022 ?_
      refine gd_lcmp (pc := 2023) X dL_law_2023 ?_
      refine gd_if_eq (pc := 2024) X 2029 dL_law_2024 (by decide) (fun hc21 => ?_) (fun hc21 => ?_)
      · have h := h.1 hc21
        refine gd_goto (pc := 2029) X 2345 dL_law_2029 (by decide) ?_
        obtain ⟨v20, hv20⟩ : ∃ z : Int32, z = l5 + 5 := ⟨_, rfl⟩
        have h := h v20 hv20
        refine gd_iinc (pc := 2345) (v := v20) X 7 dL_law_2345 rfl (by rw [hv20]; rfl) (by decide) (E2 := [(5, .int v20), (7, .int r13), (6, .int r6), (0, .ref b), (1, rf l1), (2, rf l2), (3, rf l3), (4, rf l4)]) (by simp [rf_cat, lv1, int_cat, ref_cat] <;> decide) ?_
        refine gd_goto (pc := 2348) X 28 dL_law_2348 (by decide) ?_
        refine gd_wide (k2 := k + 36) (j2 := j + 292) (by (try simp only [room_1, rm_X6_thrown, rm_L_addConstraint, rm_X6_addConstraint] at *); omega) (by (try simp only [room_1, rm_X6_thrown, rm_L_addConstraint, rm_X6_addConstraint] at *); omega) ?_
        refine gd_sub [3, 4, 5, 6, 7, 0] rfl ?_
        exact hKH28 _ _ _ _ _ _ h
      · have h := h.2 hc21
        refine gd_iconst (pc := 2027) X (0) dL_law_2027 (by decide) ?_
        exact h.elim
  · have h := h.2 hc23
    refine gd_iconst (pc := 2010) X (0) dL_law_2010 (by decide) ?_
    exact h.elim
def b_L_law_2032 (xs : Nat → Int32) (Lx : Nat) (KH28 : MS → Nat → Nat → Nat → Nat → Int32 → Prop) (S : MS) (l1 l2 l3 l4 : Nat) (l5 : Int32) : Prop := kT S l1 = 6 ∧ w_X5_clearConstraints S l1 (fun r3 S2 => kT S2 l2 = 7 ∧ w_X6_clearConstraints S2 l2 (fun r6 S5 => ((r3 = r6 → ∀ v7 : Int32, v7 = l5 + 5 → KH28 S5 l1 l2 l3 l4 v7) ∧ (¬ r3 = r6 → False))))
set_option maxHeartbeats 4000000 in
set_option maxRecDepth 100000 in
theorem gl_2032 {p : Program} {l : Launch} {e : Env} {s : State} {m : MethodId} {below : List Frame} {meth : Method} {c : Code} {G : GP} {b Lx : Nat} {xs : Nat → Int32} (hfl : l.stackTraces = false) (X : Cx p s m #[Value.ref b] c code 9 R_law G) (hX : va_X b Lx xs s s.heap) (hbl : b < s.heap.size) (hbA : ¬ Ab G b) (hrt : meth.sig.returnType = ret) (hlk : meth.locks = false) (hG : G.2.2 = s.heap.size) {k j : Nat} (hk : k + 36 ≤ 603072) (hj : j + 292 ≤ 7178346) (KH28 : MS → Nat → Nat → Nat → Nat → Int32 → Prop) (hKH28 : ∀ (S : MS) (l1 l2 l3 l4 : Nat) (l5 : Int32), KH28 S l1 l2 l3 l4 l5 → Gd p l e room_1 s m #[Value.ref b] below meth c 9 G (lw_Z below #[Value.ref b] s) (k + 36) (j + 292) S 28 [(0, .ref b), (1, rf l1), (2, rf l2), (3, rf l3), (4, rf l4), (5, .int l5)] []) : ∀ (S : MS) (l1 l2 l3 l4 : Nat) (l5 : Int32), b_L_law_2032 xs Lx KH28 S l1 l2 l3 l4 l5 → Gd p l e room_1 s m #[Value.ref b] below meth c 9 G (lw_Z below #[Value.ref b] s) k j S 2032 [(0, .ref b), (1, rf l1), (2, rf l2), (3, rf l3), (4, rf l4), (5, .int l5)] [] := by
  intro S l1 l2 l3 l4 l5 h
  refine gd_aload_n (pc := 2032) X 1 dL_law_2032 rfl ?_
  obtain ⟨hk1, h⟩ := h
  refine gd_callV (pc := 2033) (As := []) (rest := []) X (ct_X5_clearConstraints l G S l1 _ h) mw_X5_clearConstraints tw_214 ci5 rfl hk1 ⟨(by (try simp only [room_1, rm_X5_clearConstraints] at *); omega), (by (try simp only [room_1, rm_X5_clearConstraints] at *); omega)⟩ rfl rfl (Nat.le_of_ble_eq_true rfl) dL_law_2033 ⟨(by (try simp only [room_1, rm_X5_clearConstraints] at *); omega), (by (try simp only [room_1, rm_X5_clearConstraints] at *); omega)⟩ (kI (fun r3 S2 h => ?_))
  refine gd_aload_n (pc := 2036) X 2 dL_law_2036 rfl ?_
  obtain ⟨hk4, h⟩ := h
  refine gd_callV (pc := 2037) (As := []) (rest := [.int r3]) X (ct_X6_clearConstraints l G S2 l2 _ h) mw_X6_clearConstraints tw_1352 ci6 rfl hk4 ⟨(by (try simp only [room_1, rm_X6_clearConstraints, rm_X5_clearConstraints] at *); omega), (by (try simp only [room_1, rm_X6_clearConstraints, rm_X5_clearConstraints] at *); omega)⟩ rfl rfl (Nat.le_of_ble_eq_true rfl) dL_law_2037 ⟨(by (try simp only [room_1, rm_X6_clearConstraints, rm_X5_clearConstraints] at *); omega), (by (try simp only [room_1, rm_X6_clearConstraints, rm_X5_clearConstraints] at *); omega)⟩ (kI (fun r6 S5 h => ?_))
  refine gd_icmp_eq (pc := 2040) X 2345 dL_law_2040 (by decide) (fun hc8 => ?_) (fun hc8 => ?_)
  · have h := h.1 hc8
    obtain ⟨v7, hv7⟩ : ∃ z : Int32, z = l5 + 5 := ⟨_, rfl⟩
    have h := h v7 hv7
    refine gd_iinc (pc := 2345) (v := v7) X 5 dL_law_2345 rfl (by rw [hv7]; rfl) (by decide) (E2 := [(5, .int v7), (0, .ref b), (1, rf l1), (2, rf l2), (3, rf l3), (4, rf l4)]) (by simp [rf_cat, lv1, int_cat, ref_cat] <;> decide) ?_
    refine gd_goto (pc := 2348) X 28 dL_law_2348 (by decide) ?_
    refine gd_wide (k2 := k + 36) (j2 := j + 292) (by (try simp only [room_1, rm_X6_clearConstraints, rm_X5_clearConstraints] at *); omega) (by (try simp only [room_1, rm_X6_clearConstraints, rm_X5_clearConstraints] at *); omega) ?_
    refine gd_sub [1, 2, 3, 4, 5, 0] rfl ?_
    exact hKH28 _ _ _ _ _ _ h
  · have h := h.2 hc8
    refine gd_iconst (pc := 2043) X (0) dL_law_2043 (by decide) ?_
    exact h.elim
def b_L_law_2045 (xs : Nat → Int32) (Lx : Nat) (KH28 : MS → Nat → Nat → Nat → Nat → Int32 → Prop) (S : MS) (l1 l2 l3 l4 : Nat) (l5 : Int32) : Prop := vp_in (l5 + 1) Lx ∧ w_L_aborts S l1 (xs (ix (l5 + 1))) l3 (fun r3 S2 => vp_in (l5 + 1) Lx ∧ kT S2 l2 = 7 ∧ w_X6_aborts S2 l2 (xs (ix (l5 + 1))) (fun r7 S6 => kT S6 l2 = 7 ∧ w_X6_thrown S6 l2 (fun r10 S9 => ((r10 = r3 → ((¬ r3 = 0 → ∀ v11 : Int32, v11 = l5 + 5 → KH28 S9 l1 l2 l3 l4 v11) ∧ (r3 = 0 → kT S9 l3 = 15 ∧ vp_in 0 (kL S9 l3) ∧ (((lg_cmp (sL S9 l3 (ix 0)) r7.toInt64) = 0 → ∀ v14 : Int32, v14 = l5 + 5 → KH28 S9 l1 l2 l3 l4 v14) ∧ (¬ (lg_cmp (sL S9 l3 (ix 0)) r7.toInt64) = 0 → False))))) ∧ (¬ r10 = r3 → False)))))
set_option maxHeartbeats 4000000 in
set_option maxRecDepth 100000 in
theorem gl_2045 {p : Program} {l : Launch} {e : Env} {s : State} {m : MethodId} {below : List Frame} {meth : Method} {c : Code} {G : GP} {b Lx : Nat} {xs : Nat → Int32} (hfl : l.stackTraces = false) (X : Cx p s m #[Value.ref b] c code 9 R_law G) (hX : va_X b Lx xs s s.heap) (hbl : b < s.heap.size) (hbA : ¬ Ab G b) (hrt : meth.sig.returnType = ret) (hlk : meth.locks = false) (hG : G.2.2 = s.heap.size) {k j : Nat} (hk : k + 36 ≤ 603072) (hj : j + 292 ≤ 7178346) (KH28 : MS → Nat → Nat → Nat → Nat → Int32 → Prop) (hKH28 : ∀ (S : MS) (l1 l2 l3 l4 : Nat) (l5 : Int32), KH28 S l1 l2 l3 l4 l5 → Gd p l e room_1 s m #[Value.ref b] below meth c 9 G (lw_Z below #[Value.ref b] s) (k + 36) (j + 292) S 28 [(0, .ref b), (1, rf l1), (2, rf l2), (3, rf l3), (4, rf l4), (5, .int l5)] []) : ∀ (S : MS) (l1 l2 l3 l4 : Nat) (l5 : Int32), b_L_law_2045 xs Lx KH28 S l1 l2 l3 l4 l5 → Gd p l e room_1 s m #[Value.ref b] below meth c 9 G (lw_Z below #[Value.ref b] s) k j S 2045 [(0, .ref b), (1, rf l1), (2, rf l2), (3, rf l3), (4, rf l4), (5, .int l5)] [] := by
  intro S l1 l2 l3 l4 l5 h
  refine gd_aload_n (pc := 2045) X 1 dL_law_2045 rfl ?_
  refine gd_aloadP (pc := 2046) X 0 dL_law_2046 rfl ?_
  refine gd_iload (pc := 2047) X 5 dL_law_2047 rfl ?_
  refine gd_iconst (pc := 2049) X (1) dL_law_2049 (by decide) ?_
  refine gd_iadd (pc := 2050) X dL_law_2050 ?_
  obtain ⟨hi1, h⟩ := h
  refine gd_sld (pc := 2051) X hX hbl hbA dL_law_2051 hi1 ?_
  refine gd_aload_n (pc := 2052) X 3 dL_law_2052 rfl ?_
  refine gd_callW (n := 3) (pc := 2053) (As := [rf l1, .int (xs (ix (l5 + 1))), rf l3]) (rest := []) X (ct_L_aborts l hfl G S l1 (xs (ix (l5 + 1))) l3 _ h) tw_869 tw_0 tw_870 ⟨by decide, by decide, by decide +kernel⟩ tw_868 ⟨(by (try simp only [room_1, rm_L_aborts] at *); omega), (by (try simp only [room_1, rm_L_aborts] at *); omega)⟩ rfl rfl (Nat.le_of_ble_eq_true rfl) dL_law_2053 ⟨(by (try simp only [room_1, rm_L_aborts] at *); omega), (by (try simp only [room_1, rm_L_aborts] at *); omega)⟩ (kI (fun r3 S2 h => ?_))
  refine gd_istore (pc := 2056) X dL_law_2056 (by decide) (E2 := [(6, .int r3), (0, .ref b), (1, rf l1), (2, rf l2), (3, rf l3), (4, rf l4), (5, .int l5)]) rfl ?_
  refine gd_aload_n (pc := 2058) X 3 dL_law_2058 rfl ?_
  refine gd_aloadP (pc := 2059) X 1 dL_law_2059 rfl ?_
  refine gd_iload (pc := 2060) X 6 dL_law_2060 rfl ?_
  refine gd_iconst (pc := 2062) X (1) dL_law_2062 (by decide) ?_
  refine gd_iadd (pc := 2063) X dL_law_2063 ?_
  obtain ⟨hi4, h⟩ := h
  refine gd_sld (pc := 2064) X hX hbl hbA dL_law_2064 hi4 ?_
  obtain ⟨hk5, h⟩ := h
  refine gd_callV (pc := 2065) (As := [.int (xs (ix (l5 + 1)))]) (rest := []) X (ct_X6_aborts l G S2 l2 (xs (ix (l5 + 1))) _ h) mw_X6_aborts tw_1356 ci6 rfl hk5 ⟨(by (try simp only [room_1, rm_X6_aborts, rm_L_aborts] at *); omega), (by (try simp only [room_1, rm_X6_aborts, rm_L_aborts] at *); omega)⟩ rfl rfl (Nat.le_of_ble_eq_true rfl) dL_law_2065 ⟨(by (try simp only [room_1, rm_X6_aborts, rm_L_aborts] at *); omega), (by (try simp only [room_1, rm_X6_aborts, rm_L_aborts] at *); omega)⟩ (kI (fun r7 S6 h => ?_))
  refine gd_istore (pc := 2068) X dL_law_2068 (by decide) (E2 := [(7, .int r7), (6, .int r3), (0, .ref b), (1, rf l1), (2, rf l2), (3, rf l3), (4, rf l4), (5, .int l5)]) rfl ?_
  refine gd_aload_n (pc := 2070) X 4 dL_law_2070 rfl ?_
  obtain ⟨hk8, h⟩ := h
  refine gd_callV (pc := 2071) (As := []) (rest := []) X (ct_X6_thrown l G S6 l2 _ h) mw_X6_thrown tw_973 ci6 rfl hk8 ⟨(by (try simp only [room_1, rm_X6_thrown, rm_L_aborts, rm_X6_aborts] at *); omega), (by (try simp only [room_1, rm_X6_thrown, rm_L_aborts, rm_X6_aborts] at *); omega)⟩ rfl rfl (Nat.le_of_ble_eq_true rfl) dL_law_2071 ⟨(by (try simp only [room_1, rm_X6_thrown, rm_L_aborts, rm_X6_aborts] at *); omega), (by (try simp only [room_1, rm_X6_thrown, rm_L_aborts, rm_X6_aborts] at *); omega)⟩ (kI (fun r10 S9 h => ?_))
  refine gd_iload (pc := 2074) X 1 dL_law_2074 rfl ?_
  refine gd_icmp_eq (pc := 2076) X 2081 dL_law_2076 (by decide) (fun hc17 => ?_) (fun hc17 => ?_)
  · have h := h.1 hc17
    refine gd_iload (pc := 2081) X 1 dL_law_2081 rfl ?_
    refine gd_if_ne (pc := 2083) X 2098 dL_law_2083 (by decide) (fun hc16 => ?_) (fun hc16 => ?_)
    · have h := h.1 hc16
      refine gd_goto (pc := 2098) X 2345 dL_law_2098 (by decide) ?_
      obtain ⟨v11, hv11⟩ : ∃ z : Int32, z = l5 + 5 := ⟨_, rfl⟩
      have h := h v11 hv11
      refine gd_iinc (pc := 2345) (v := v11) X 7 dL_law_2345 rfl (by rw [hv11]; rfl) (by decide) (E2 := [(5, .int v11), (7, .int r7), (6, .int r3), (0, .ref b), (1, rf l1), (2, rf l2), (3, rf l3), (4, rf l4)]) (by simp [rf_cat, lv1, int_cat, ref_cat] <;> decide) ?_
      refine gd_goto (pc := 2348) X 28 dL_law_2348 (by decide) ?_
      refine gd_wide (k2 := k + 36) (j2 := j + 292) (by (try simp only [room_1, rm_X6_thrown, rm_L_aborts, rm_X6_aborts] at *); omega) (by (try simp only [room_1, rm_X6_thrown, rm_L_aborts, rm_X6_aborts] at *); omega) ?_
      refine gd_sub [3, 4, 5, 6, 7, 0] rfl ?_
      exact hKH28 _ _ _ _ _ _ h
    · have h := h.2 hc16
      refine gd_aload_n (pc := 2086) X 5 dL_law_2086 rfl ?_
      refine gd_iconst (pc := 2087) X (0) dL_law_2087 (by decide) ?_
      obtain ⟨hk12, h⟩ := h
      obtain ⟨hi13, h⟩ := h
      refine gd_lald (pc := 2088) X dL_law_2088 hk12 hi13 ?_
      refine gd_iload (pc := 2089) X 0 dL_law_2089 rfl ?_
      refine gd_i2l (pc := 2091) X dL_law_2091 ?_
      refine gd_lcmp (pc := 2092) X dL_law_2092 ?_
      refine gd_if_eq (pc := 2093) X 2098 dL_law_2093 (by decide) (fun hc15 => ?_) (fun hc15 => ?_)
      · have h := h.1 hc15
        refine gd_goto (pc := 2098) X 2345 dL_law_2098 (by decide) ?_
        obtain ⟨v14, hv14⟩ : ∃ z : Int32, z = l5 + 5 := ⟨_, rfl⟩
        have h := h v14 hv14
        refine gd_iinc (pc := 2345) (v := v14) X 7 dL_law_2345 rfl (by rw [hv14]; rfl) (by decide) (E2 := [(5, .int v14), (7, .int r7), (6, .int r3), (0, .ref b), (1, rf l1), (2, rf l2), (3, rf l3), (4, rf l4)]) (by simp [rf_cat, lv1, int_cat, ref_cat] <;> decide) ?_
        refine gd_goto (pc := 2348) X 28 dL_law_2348 (by decide) ?_
        refine gd_wide (k2 := k + 36) (j2 := j + 292) (by (try simp only [room_1, rm_X6_thrown, rm_L_aborts, rm_X6_aborts] at *); omega) (by (try simp only [room_1, rm_X6_thrown, rm_L_aborts, rm_X6_aborts] at *); omega) ?_
        refine gd_sub [3, 4, 5, 6, 7, 0] rfl ?_
        exact hKH28 _ _ _ _ _ _ h
      · have h := h.2 hc15
        refine gd_iconst (pc := 2096) X (0) dL_law_2096 (by decide) ?_
        exact h.elim
  · have h := h.2 hc17
    refine gd_iconst (pc := 2079) X (0) dL_law_2079 (by decide) ?_
    exact h.elim
def b_L_law_2101 (xs : Nat → Int32) (Lx : Nat) (KH28 : MS → Nat → Nat → Nat → Nat → Int32 → Prop) (S : MS) (l1 l2 l3 l4 : Nat) (l5 : Int32) : Prop := w_L_averageAttempts S l1 l4 (fun r2 S1 => kT S1 l2 = 7 ∧ w_X6_averageAttempts S1 l2 (fun r5 S4 => kT S4 l2 = 7 ∧ w_X6_thrown S4 l2 (fun r8 S7 => ((r8 = r2 → ((¬ r2 = 0 → ∀ v9 : Int32, v9 = l5 + 5 → KH28 S7 l1 l2 l3 l4 v9) ∧ (r2 = 0 → kT S7 l4 = 16 ∧ vp_in 0 (kL S7 l4) ∧ (((Op.cmpValue (FP.dcmp (sD S7 l4 (ix 0)) r5) .l) = 0 → ∀ v12 : Int32, v12 = l5 + 5 → KH28 S7 l1 l2 l3 l4 v12) ∧ (¬ (Op.cmpValue (FP.dcmp (sD S7 l4 (ix 0)) r5) .l) = 0 → vp_in 0 (kL S7 l4) ∧ vp_in 0 (kL S7 l4) ∧ (((Op.cmpValue (FP.dcmp (sD S7 l4 (ix 0)) (sD S7 l4 (ix 0))) .l) = 0 → False) ∧ (¬ (Op.cmpValue (FP.dcmp (sD S7 l4 (ix 0)) (sD S7 l4 (ix 0))) .l) = 0 → ((¬ (Op.cmpValue (FP.dcmp r5 r5) .l) = 0 → ∀ v15 : Int32, v15 = l5 + 5 → KH28 S7 l1 l2 l3 l4 v15) ∧ ((Op.cmpValue (FP.dcmp r5 r5) .l) = 0 → False))))))))) ∧ (¬ r8 = r2 → False)))))
set_option maxHeartbeats 4000000 in
set_option maxRecDepth 100000 in
theorem gl_2101 {p : Program} {l : Launch} {e : Env} {s : State} {m : MethodId} {below : List Frame} {meth : Method} {c : Code} {G : GP} {b Lx : Nat} {xs : Nat → Int32} (hfl : l.stackTraces = false) (X : Cx p s m #[Value.ref b] c code 9 R_law G) (hX : va_X b Lx xs s s.heap) (hbl : b < s.heap.size) (hbA : ¬ Ab G b) (hrt : meth.sig.returnType = ret) (hlk : meth.locks = false) (hG : G.2.2 = s.heap.size) {k j : Nat} (hk : k + 36 ≤ 603072) (hj : j + 292 ≤ 7178346) (KH28 : MS → Nat → Nat → Nat → Nat → Int32 → Prop) (hKH28 : ∀ (S : MS) (l1 l2 l3 l4 : Nat) (l5 : Int32), KH28 S l1 l2 l3 l4 l5 → Gd p l e room_1 s m #[Value.ref b] below meth c 9 G (lw_Z below #[Value.ref b] s) (k + 36) (j + 292) S 28 [(0, .ref b), (1, rf l1), (2, rf l2), (3, rf l3), (4, rf l4), (5, .int l5)] []) : ∀ (S : MS) (l1 l2 l3 l4 : Nat) (l5 : Int32), b_L_law_2101 xs Lx KH28 S l1 l2 l3 l4 l5 → Gd p l e room_1 s m #[Value.ref b] below meth c 9 G (lw_Z below #[Value.ref b] s) k j S 2101 [(0, .ref b), (1, rf l1), (2, rf l2), (3, rf l3), (4, rf l4), (5, .int l5)] [] := by
  intro S l1 l2 l3 l4 l5 h
  refine gd_aload_n (pc := 2101) X 1 dL_law_2101 rfl ?_
  refine gd_aload (pc := 2102) X 4 dL_law_2102 rfl ?_
  refine gd_callW (n := 2) (pc := 2104) (As := [rf l1, rf l4]) (rest := []) X (ct_L_averageAttempts l hfl G S l1 l4 _ h) tw_877 tw_0 tw_878 ⟨by decide, by decide, by decide +kernel⟩ tw_876 ⟨(by (try simp only [room_1, rm_L_averageAttempts] at *); omega), (by (try simp only [room_1, rm_L_averageAttempts] at *); omega)⟩ rfl rfl (Nat.le_of_ble_eq_true rfl) dL_law_2104 ⟨(by (try simp only [room_1, rm_L_averageAttempts] at *); omega), (by (try simp only [room_1, rm_L_averageAttempts] at *); omega)⟩ (kI (fun r2 S1 h => ?_))
  refine gd_istore (pc := 2107) X dL_law_2107 (by decide) (E2 := [(6, .int r2), (0, .ref b), (1, rf l1), (2, rf l2), (3, rf l3), (4, rf l4), (5, .int l5)]) rfl ?_
  refine gd_aload_n (pc := 2109) X 3 dL_law_2109 rfl ?_
  obtain ⟨hk3, h⟩ := h
  refine gd_callV (pc := 2110) (As := []) (rest := []) X (ct_X6_averageAttempts l G S1 l2 _ h) mw_X6_averageAttempts tw_1364 ci6 rfl hk3 ⟨(by (try simp only [room_1, rm_X6_averageAttempts, rm_L_averageAttempts] at *); omega), (by (try simp only [room_1, rm_X6_averageAttempts, rm_L_averageAttempts] at *); omega)⟩ rfl rfl (Nat.le_of_ble_eq_true rfl) dL_law_2110 ⟨(by (try simp only [room_1, rm_X6_averageAttempts, rm_L_averageAttempts] at *); omega), (by (try simp only [room_1, rm_X6_averageAttempts, rm_L_averageAttempts] at *); omega)⟩ (kD (fun r5 S4 h => ?_))
  refine gd_dstore (pc := 2113) X dL_law_2113 (by decide) (E2 := [(7, .double r5), (6, .int r2), (0, .ref b), (1, rf l1), (2, rf l2), (3, rf l3), (4, rf l4), (5, .int l5)]) (by simp [rf_cat, lv1, int_cat, ref_cat] <;> decide) ?_
  refine gd_aload_n (pc := 2115) X 4 dL_law_2115 rfl ?_
  obtain ⟨hk6, h⟩ := h
  refine gd_callV (pc := 2116) (As := []) (rest := []) X (ct_X6_thrown l G S4 l2 _ h) mw_X6_thrown tw_973 ci6 rfl hk6 ⟨(by (try simp only [room_1, rm_X6_thrown, rm_L_averageAttempts, rm_X6_averageAttempts] at *); omega), (by (try simp only [room_1, rm_X6_thrown, rm_L_averageAttempts, rm_X6_averageAttempts] at *); omega)⟩ rfl rfl (Nat.le_of_ble_eq_true rfl) dL_law_2116 ⟨(by (try simp only [room_1, rm_X6_thrown, rm_L_averageAttempts, rm_X6_averageAttempts] at *); omega), (by (try simp only [room_1, rm_X6_thrown, rm_L_averageAttempts, rm_X6_averageAttempts] at *); omega)⟩ (kI (fun r8 S7 h => ?_))
  refine gd_iload (pc := 2119) X 1 dL_law_2119 rfl ?_
  refine gd_icmp_eq (pc := 2121) X 2126 dL_law_2121 (by decide) (fun hc20 => ?_) (fun hc20 => ?_)
  · have h := h.1 hc20
    refine gd_iload (pc := 2126) X 1 dL_law_2126 rfl ?_
    refine gd_if_ne (pc := 2128) X 2163 dL_law_2128 (by decide) (fun hc19 => ?_) (fun hc19 => ?_)
    · have h := h.1 hc19
      refine gd_goto (pc := 2163) X 2345 dL_law_2163 (by decide) ?_
      obtain ⟨v9, hv9⟩ : ∃ z : Int32, z = l5 + 5 := ⟨_, rfl⟩
      have h := h v9 hv9
      refine gd_iinc (pc := 2345) (v := v9) X 7 dL_law_2345 rfl (by rw [hv9]; rfl) (by decide) (E2 := [(5, .int v9), (7, .double r5), (6, .int r2), (0, .ref b), (1, rf l1), (2, rf l2), (3, rf l3), (4, rf l4)]) (by simp [rf_cat, lv1, int_cat, ref_cat] <;> decide) ?_
      refine gd_goto (pc := 2348) X 28 dL_law_2348 (by decide) ?_
      refine gd_wide (k2 := k + 36) (j2 := j + 292) (by (try simp only [room_1, rm_X6_thrown, rm_L_averageAttempts, rm_X6_averageAttempts] at *); omega) (by (try simp only [room_1, rm_X6_thrown, rm_L_averageAttempts, rm_X6_averageAttempts] at *); omega) ?_
      refine gd_sub [3, 4, 5, 6, 7, 0] rfl ?_
      exact hKH28 _ _ _ _ _ _ h
    · have h := h.2 hc19
      refine gd_aload (pc := 2131) X 6 dL_law_2131 rfl ?_
      refine gd_iconst (pc := 2133) X (0) dL_law_2133 (by decide) ?_
      obtain ⟨hk10, h⟩ := h
      obtain ⟨hi11, h⟩ := h
      refine gd_dald (pc := 2134) X dL_law_2134 hk10 hi11 ?_
      refine gd_dload (pc := 2135) X 0 dL_law_2135 rfl ?_
      refine gd_dcmp (pc := 2137) X dL_law_2137 ?_
      refine gd_if_eq (pc := 2138) X 2163 dL_law_2138 (by decide) (fun hc18 => ?_) (fun hc18 => ?_)
      · have h := h.1 hc18
        refine gd_goto (pc := 2163) X 2345 dL_law_2163 (by decide) ?_
        obtain ⟨v12, hv12⟩ : ∃ z : Int32, z = l5 + 5 := ⟨_, rfl⟩
        have h := h v12 hv12
        refine gd_iinc (pc := 2345) (v := v12) X 7 dL_law_2345 rfl (by rw [hv12]; rfl) (by decide) (E2 := [(5, .int v12), (7, .double r5), (6, .int r2), (0, .ref b), (1, rf l1), (2, rf l2), (3, rf l3), (4, rf l4)]) (by simp [rf_cat, lv1, int_cat, ref_cat] <;> decide) ?_
        refine gd_goto (pc := 2348) X 28 dL_law_2348 (by decide) ?_
        refine gd_wide (k2 := k + 36) (j2 := j + 292) (by (try simp only [room_1, rm_X6_thrown, rm_L_averageAttempts, rm_X6_averageAttempts] at *); omega) (by (try simp only [room_1, rm_X6_thrown, rm_L_averageAttempts, rm_X6_averageAttempts] at *); omega) ?_
        refine gd_sub [3, 4, 5, 6, 7, 0] rfl ?_
        exact hKH28 _ _ _ _ _ _ h
      · have h := h.2 hc18
        refine gd_aload (pc := 2141) X 6 dL_law_2141 rfl ?_
        refine gd_iconst (pc := 2143) X (0) dL_law_2143 (by decide) ?_
        obtain ⟨hi13, h⟩ := h
        refine gd_dald (pc := 2144) X dL_law_2144 hk10 hi13 ?_
        refine gd_aload (pc := 2145) X 6 dL_law_2145 rfl ?_
        refine gd_iconst (pc := 2147) X (0) dL_law_2147 (by decide) ?_
        obtain ⟨hi14, h⟩ := h
        refine gd_dald (pc := 2148) X dL_law_2148 hk10 hi14 ?_
        refine gd_dcmp (pc := 2149) X dL_law_2149 ?_
        refine gd_if_eq (pc := 2150) X 2161 dL_law_2150 (by decide) (fun hc17 => ?_) (fun hc17 => ?_)
        · have h := h.1 hc17
          refine gd_iconst (pc := 2161) X (0) dL_law_2161 (by decide) ?_
          exact h.elim
        · have h := h.2 hc17
          refine gd_dload (pc := 2153) X 0 dL_law_2153 rfl ?_
          refine gd_dload (pc := 2155) X 0 dL_law_2155 rfl ?_
          refine gd_dcmp (pc := 2157) X dL_law_2157 ?_
          refine gd_if_ne (pc := 2158) X 2163 dL_law_2158 (by decide) (fun hc16 => ?_) (fun hc16 => ?_)
          · have h := h.1 hc16
            refine gd_goto (pc := 2163) X 2345 dL_law_2163 (by decide) ?_
            obtain ⟨v15, hv15⟩ : ∃ z : Int32, z = l5 + 5 := ⟨_, rfl⟩
            have h := h v15 hv15
            refine gd_iinc (pc := 2345) (v := v15) X 7 dL_law_2345 rfl (by rw [hv15]; rfl) (by decide) (E2 := [(5, .int v15), (7, .double r5), (6, .int r2), (0, .ref b), (1, rf l1), (2, rf l2), (3, rf l3), (4, rf l4)]) (by simp [rf_cat, lv1, int_cat, ref_cat] <;> decide) ?_
            refine gd_goto (pc := 2348) X 28 dL_law_2348 (by decide) ?_
            refine gd_wide (k2 := k + 36) (j2 := j + 292) (by (try simp only [room_1, rm_X6_thrown, rm_L_averageAttempts, rm_X6_averageAttempts] at *); omega) (by (try simp only [room_1, rm_X6_thrown, rm_L_averageAttempts, rm_X6_averageAttempts] at *); omega) ?_
            refine gd_sub [3, 4, 5, 6, 7, 0] rfl ?_
            exact hKH28 _ _ _ _ _ _ h
          · have h := h.2 hc16
            refine gd_iconst (pc := 2161) X (0) dL_law_2161 (by decide) ?_
            exact h.elim
  · have h := h.2 hc20
    refine gd_iconst (pc := 2124) X (0) dL_law_2124 (by decide) ?_
    exact h.elim
def b_L_law_2166 (xs : Nat → Int32) (Lx : Nat) (KH28 : MS → Nat → Nat → Nat → Nat → Int32 → Prop) (S : MS) (l1 l2 l3 l4 : Nat) (l5 : Int32) : Prop := w_L_abortRate S l1 l4 (fun r2 S1 => kT S1 l2 = 7 ∧ w_X6_abortRate S1 l2 (fun r5 S4 => kT S4 l2 = 7 ∧ w_X6_thrown S4 l2 (fun r8 S7 => ((r8 = r2 → ((¬ r2 = 0 → ∀ v9 : Int32, v9 = l5 + 5 → KH28 S7 l1 l2 l3 l4 v9) ∧ (r2 = 0 → kT S7 l4 = 16 ∧ vp_in 0 (kL S7 l4) ∧ vf_n64 (FP.f2d r5) ∧ (((Op.cmpValue (FP.dcmp (sD S7 l4 (ix 0)) (FP.f2d r5)) .l) = 0 → ∀ v13 : Int32, v13 = l5 + 5 → KH28 S7 l1 l2 l3 l4 v13) ∧ (¬ (Op.cmpValue (FP.dcmp (sD S7 l4 (ix 0)) (FP.f2d r5)) .l) = 0 → vp_in 0 (kL S7 l4) ∧ vp_in 0 (kL S7 l4) ∧ (((Op.cmpValue (FP.dcmp (sD S7 l4 (ix 0)) (sD S7 l4 (ix 0))) .l) = 0 → False) ∧ (¬ (Op.cmpValue (FP.dcmp (sD S7 l4 (ix 0)) (sD S7 l4 (ix 0))) .l) = 0 → ((¬ (Op.cmpValue (FP.fcmp r5 r5) .l) = 0 → ∀ v16 : Int32, v16 = l5 + 5 → KH28 S7 l1 l2 l3 l4 v16) ∧ ((Op.cmpValue (FP.fcmp r5 r5) .l) = 0 → False))))))))) ∧ (¬ r8 = r2 → False)))))
set_option maxHeartbeats 4000000 in
set_option maxRecDepth 100000 in
theorem gl_2166 {p : Program} {l : Launch} {e : Env} {s : State} {m : MethodId} {below : List Frame} {meth : Method} {c : Code} {G : GP} {b Lx : Nat} {xs : Nat → Int32} (hfl : l.stackTraces = false) (X : Cx p s m #[Value.ref b] c code 9 R_law G) (hX : va_X b Lx xs s s.heap) (hbl : b < s.heap.size) (hbA : ¬ Ab G b) (hrt : meth.sig.returnType = ret) (hlk : meth.locks = false) (hG : G.2.2 = s.heap.size) {k j : Nat} (hk : k + 36 ≤ 603072) (hj : j + 292 ≤ 7178346) (KH28 : MS → Nat → Nat → Nat → Nat → Int32 → Prop) (hKH28 : ∀ (S : MS) (l1 l2 l3 l4 : Nat) (l5 : Int32), KH28 S l1 l2 l3 l4 l5 → Gd p l e room_1 s m #[Value.ref b] below meth c 9 G (lw_Z below #[Value.ref b] s) (k + 36) (j + 292) S 28 [(0, .ref b), (1, rf l1), (2, rf l2), (3, rf l3), (4, rf l4), (5, .int l5)] []) : ∀ (S : MS) (l1 l2 l3 l4 : Nat) (l5 : Int32), b_L_law_2166 xs Lx KH28 S l1 l2 l3 l4 l5 → Gd p l e room_1 s m #[Value.ref b] below meth c 9 G (lw_Z below #[Value.ref b] s) k j S 2166 [(0, .ref b), (1, rf l1), (2, rf l2), (3, rf l3), (4, rf l4), (5, .int l5)] [] := by
  intro S l1 l2 l3 l4 l5 h
  refine gd_aload_n (pc := 2166) X 1 dL_law_2166 rfl ?_
  refine gd_aload (pc := 2167) X 4 dL_law_2167 rfl ?_
  refine gd_callW (n := 2) (pc := 2169) (As := [rf l1, rf l4]) (rest := []) X (ct_L_abortRate l hfl G S l1 l4 _ h) tw_885 tw_0 tw_886 ⟨by decide, by decide, by decide +kernel⟩ tw_884 ⟨(by (try simp only [room_1, rm_L_abortRate] at *); omega), (by (try simp only [room_1, rm_L_abortRate] at *); omega)⟩ rfl rfl (Nat.le_of_ble_eq_true rfl) dL_law_2169 ⟨(by (try simp only [room_1, rm_L_abortRate] at *); omega), (by (try simp only [room_1, rm_L_abortRate] at *); omega)⟩ (kI (fun r2 S1 h => ?_))
  refine gd_istore (pc := 2172) X dL_law_2172 (by decide) (E2 := [(6, .int r2), (0, .ref b), (1, rf l1), (2, rf l2), (3, rf l3), (4, rf l4), (5, .int l5)]) rfl ?_
  refine gd_aload_n (pc := 2174) X 3 dL_law_2174 rfl ?_
  obtain ⟨hk3, h⟩ := h
  refine gd_callV (pc := 2175) (As := []) (rest := []) X (ct_X6_abortRate l G S1 l2 _ h) mw_X6_abortRate tw_1368 ci6 rfl hk3 ⟨(by (try simp only [room_1, rm_X6_abortRate, rm_L_abortRate] at *); omega), (by (try simp only [room_1, rm_X6_abortRate, rm_L_abortRate] at *); omega)⟩ rfl rfl (Nat.le_of_ble_eq_true rfl) dL_law_2175 ⟨(by (try simp only [room_1, rm_X6_abortRate, rm_L_abortRate] at *); omega), (by (try simp only [room_1, rm_X6_abortRate, rm_L_abortRate] at *); omega)⟩ (kF (fun r5 S4 h => ?_))
  refine gd_fstore (pc := 2178) X dL_law_2178 (by decide) (E2 := [(7, .float r5), (6, .int r2), (0, .ref b), (1, rf l1), (2, rf l2), (3, rf l3), (4, rf l4), (5, .int l5)]) rfl ?_
  refine gd_aload_n (pc := 2180) X 4 dL_law_2180 rfl ?_
  obtain ⟨hk6, h⟩ := h
  refine gd_callV (pc := 2181) (As := []) (rest := []) X (ct_X6_thrown l G S4 l2 _ h) mw_X6_thrown tw_973 ci6 rfl hk6 ⟨(by (try simp only [room_1, rm_X6_thrown, rm_L_abortRate, rm_X6_abortRate] at *); omega), (by (try simp only [room_1, rm_X6_thrown, rm_L_abortRate, rm_X6_abortRate] at *); omega)⟩ rfl rfl (Nat.le_of_ble_eq_true rfl) dL_law_2181 ⟨(by (try simp only [room_1, rm_X6_thrown, rm_L_abortRate, rm_X6_abortRate] at *); omega), (by (try simp only [room_1, rm_X6_thrown, rm_L_abortRate, rm_X6_abortRate] at *); omega)⟩ (kI (fun r8 S7 h => ?_))
  refine gd_iload (pc := 2184) X 1 dL_law_2184 rfl ?_
  refine gd_icmp_eq (pc := 2186) X 2191 dL_law_2186 (by decide) (fun hc21 => ?_) (fun hc21 => ?_)
  · have h := h.1 hc21
    refine gd_iload (pc := 2191) X 1 dL_law_2191 rfl ?_
    refine gd_if_ne (pc := 2193) X 2229 dL_law_2193 (by decide) (fun hc20 => ?_) (fun hc20 => ?_)
    · have h := h.1 hc20
      refine gd_goto (pc := 2229) X 2345 dL_law_2229 (by decide) ?_
      obtain ⟨v9, hv9⟩ : ∃ z : Int32, z = l5 + 5 := ⟨_, rfl⟩
      have h := h v9 hv9
      refine gd_iinc (pc := 2345) (v := v9) X 7 dL_law_2345 rfl (by rw [hv9]; rfl) (by decide) (E2 := [(5, .int v9), (7, .float r5), (6, .int r2), (0, .ref b), (1, rf l1), (2, rf l2), (3, rf l3), (4, rf l4)]) (by simp [rf_cat, lv1, int_cat, ref_cat] <;> decide) ?_
      refine gd_goto (pc := 2348) X 28 dL_law_2348 (by decide) ?_
      refine gd_wide (k2 := k + 36) (j2 := j + 292) (by (try simp only [room_1, rm_X6_thrown, rm_L_abortRate, rm_X6_abortRate] at *); omega) (by (try simp only [room_1, rm_X6_thrown, rm_L_abortRate, rm_X6_abortRate] at *); omega) ?_
      refine gd_sub [3, 4, 5, 6, 7, 0] rfl ?_
      exact hKH28 _ _ _ _ _ _ h
    · have h := h.2 hc20
      refine gd_aload (pc := 2196) X 6 dL_law_2196 rfl ?_
      refine gd_iconst (pc := 2198) X (0) dL_law_2198 (by decide) ?_
      obtain ⟨hk10, h⟩ := h
      obtain ⟨hi11, h⟩ := h
      refine gd_dald (pc := 2199) X dL_law_2199 hk10 hi11 ?_
      refine gd_fload (pc := 2200) X 0 dL_law_2200 rfl ?_
      obtain ⟨hn12, h⟩ := h
      refine gd_f2d (pc := 2202) X dL_law_2202 hn12 ?_
      refine gd_dcmp (pc := 2203) X dL_law_2203 ?_
      refine gd_if_eq (pc := 2204) X 2229 dL_law_2204 (by decide) (fun hc19 => ?_) (fun hc19 => ?_)
      · have h := h.1 hc19
        refine gd_goto (pc := 2229) X 2345 dL_law_2229 (by decide) ?_
        obtain ⟨v13, hv13⟩ : ∃ z : Int32, z = l5 + 5 := ⟨_, rfl⟩
        have h := h v13 hv13
        refine gd_iinc (pc := 2345) (v := v13) X 7 dL_law_2345 rfl (by rw [hv13]; rfl) (by decide) (E2 := [(5, .int v13), (7, .float r5), (6, .int r2), (0, .ref b), (1, rf l1), (2, rf l2), (3, rf l3), (4, rf l4)]) (by simp [rf_cat, lv1, int_cat, ref_cat] <;> decide) ?_
        refine gd_goto (pc := 2348) X 28 dL_law_2348 (by decide) ?_
        refine gd_wide (k2 := k + 36) (j2 := j + 292) (by (try simp only [room_1, rm_X6_thrown, rm_L_abortRate, rm_X6_abortRate] at *); omega) (by (try simp only [room_1, rm_X6_thrown, rm_L_abortRate, rm_X6_abortRate] at *); omega) ?_
        refine gd_sub [3, 4, 5, 6, 7, 0] rfl ?_
        exact hKH28 _ _ _ _ _ _ h
      · have h := h.2 hc19
        refine gd_aload (pc := 2207) X 6 dL_law_2207 rfl ?_
        refine gd_iconst (pc := 2209) X (0) dL_law_2209 (by decide) ?_
        obtain ⟨hi14, h⟩ := h
        refine gd_dald (pc := 2210) X dL_law_2210 hk10 hi14 ?_
        refine gd_aload (pc := 2211) X 6 dL_law_2211 rfl ?_
        refine gd_iconst (pc := 2213) X (0) dL_law_2213 (by decide) ?_
        obtain ⟨hi15, h⟩ := h
        refine gd_dald (pc := 2214) X dL_law_2214 hk10 hi15 ?_
        refine gd_dcmp (pc := 2215) X dL_law_2215 ?_
        refine gd_if_eq (pc := 2216) X 2227 dL_law_2216 (by decide) (fun hc18 => ?_) (fun hc18 => ?_)
        · have h := h.1 hc18
          refine gd_iconst (pc := 2227) X (0) dL_law_2227 (by decide) ?_
          exact h.elim
        · have h := h.2 hc18
          refine gd_fload (pc := 2219) X 0 dL_law_2219 rfl ?_
          refine gd_fload (pc := 2221) X 0 dL_law_2221 rfl ?_
          refine gd_fcmp (pc := 2223) X dL_law_2223 ?_
          refine gd_if_ne (pc := 2224) X 2229 dL_law_2224 (by decide) (fun hc17 => ?_) (fun hc17 => ?_)
          · have h := h.1 hc17
            refine gd_goto (pc := 2229) X 2345 dL_law_2229 (by decide) ?_
            obtain ⟨v16, hv16⟩ : ∃ z : Int32, z = l5 + 5 := ⟨_, rfl⟩
            have h := h v16 hv16
            refine gd_iinc (pc := 2345) (v := v16) X 7 dL_law_2345 rfl (by rw [hv16]; rfl) (by decide) (E2 := [(5, .int v16), (7, .float r5), (6, .int r2), (0, .ref b), (1, rf l1), (2, rf l2), (3, rf l3), (4, rf l4)]) (by simp [rf_cat, lv1, int_cat, ref_cat] <;> decide) ?_
            refine gd_goto (pc := 2348) X 28 dL_law_2348 (by decide) ?_
            refine gd_wide (k2 := k + 36) (j2 := j + 292) (by (try simp only [room_1, rm_X6_thrown, rm_L_abortRate, rm_X6_abortRate] at *); omega) (by (try simp only [room_1, rm_X6_thrown, rm_L_abortRate, rm_X6_abortRate] at *); omega) ?_
            refine gd_sub [3, 4, 5, 6, 7, 0] rfl ?_
            exact hKH28 _ _ _ _ _ _ h
          · have h := h.2 hc17
            refine gd_iconst (pc := 2227) X (0) dL_law_2227 (by decide) ?_
            exact h.elim
  · have h := h.2 hc21
    refine gd_iconst (pc := 2189) X (0) dL_law_2189 (by decide) ?_
    exact h.elim
def b_L_law_2232 (xs : Nat → Int32) (Lx : Nat) (KH28 : MS → Nat → Nat → Nat → Nat → Int32 → Prop) (S : MS) (l1 l2 l3 l4 : Nat) (l5 : Int32) : Prop := vp_in (l5 + 1) Lx ∧ w_L_appendCharacter S l1 (xs (ix (l5 + 1))) l3 (fun r3 S2 => vp_in (l5 + 1) Lx ∧ kT S2 l2 = 7 ∧ w_X6_appendCharacter S2 l2 (xs (ix (l5 + 1))) (fun r7 S6 => kT S6 l2 = 7 ∧ w_X6_thrown S6 l2 (fun r10 S9 => ((r10 = r3 → ((¬ r3 = 0 → ∀ v11 : Int32, v11 = l5 + 5 → KH28 S9 l1 l2 l3 l4 v11) ∧ (r3 = 0 → kT S9 l3 = 15 ∧ vp_in 0 (kL S9 l3) ∧ (((lg_cmp (sL S9 l3 (ix 0)) r7.toInt64) = 0 → ∀ v14 : Int32, v14 = l5 + 5 → KH28 S9 l1 l2 l3 l4 v14) ∧ (¬ (lg_cmp (sL S9 l3 (ix 0)) r7.toInt64) = 0 → False))))) ∧ (¬ r10 = r3 → False)))))
set_option maxHeartbeats 4000000 in
set_option maxRecDepth 100000 in
theorem gl_2232 {p : Program} {l : Launch} {e : Env} {s : State} {m : MethodId} {below : List Frame} {meth : Method} {c : Code} {G : GP} {b Lx : Nat} {xs : Nat → Int32} (hfl : l.stackTraces = false) (X : Cx p s m #[Value.ref b] c code 9 R_law G) (hX : va_X b Lx xs s s.heap) (hbl : b < s.heap.size) (hbA : ¬ Ab G b) (hrt : meth.sig.returnType = ret) (hlk : meth.locks = false) (hG : G.2.2 = s.heap.size) {k j : Nat} (hk : k + 36 ≤ 603072) (hj : j + 292 ≤ 7178346) (KH28 : MS → Nat → Nat → Nat → Nat → Int32 → Prop) (hKH28 : ∀ (S : MS) (l1 l2 l3 l4 : Nat) (l5 : Int32), KH28 S l1 l2 l3 l4 l5 → Gd p l e room_1 s m #[Value.ref b] below meth c 9 G (lw_Z below #[Value.ref b] s) (k + 36) (j + 292) S 28 [(0, .ref b), (1, rf l1), (2, rf l2), (3, rf l3), (4, rf l4), (5, .int l5)] []) : ∀ (S : MS) (l1 l2 l3 l4 : Nat) (l5 : Int32), b_L_law_2232 xs Lx KH28 S l1 l2 l3 l4 l5 → Gd p l e room_1 s m #[Value.ref b] below meth c 9 G (lw_Z below #[Value.ref b] s) k j S 2232 [(0, .ref b), (1, rf l1), (2, rf l2), (3, rf l3), (4, rf l4), (5, .int l5)] [] := by
  intro S l1 l2 l3 l4 l5 h
  refine gd_aload_n (pc := 2232) X 1 dL_law_2232 rfl ?_
  refine gd_aloadP (pc := 2233) X 0 dL_law_2233 rfl ?_
  refine gd_iload (pc := 2234) X 5 dL_law_2234 rfl ?_
  refine gd_iconst (pc := 2236) X (1) dL_law_2236 (by decide) ?_
  refine gd_iadd (pc := 2237) X dL_law_2237 ?_
  obtain ⟨hi1, h⟩ := h
  refine gd_sld (pc := 2238) X hX hbl hbA dL_law_2238 hi1 ?_
  refine gd_aload_n (pc := 2239) X 3 dL_law_2239 rfl ?_
  refine gd_callW (n := 3) (pc := 2240) (As := [rf l1, .int (xs (ix (l5 + 1))), rf l3]) (rest := []) X (ct_L_appendCharacter l hfl G S l1 (xs (ix (l5 + 1))) l3 _ h) tw_893 tw_0 tw_894 ⟨by decide, by decide, by decide +kernel⟩ tw_892 ⟨(by (try simp only [room_1, rm_L_appendCharacter] at *); omega), (by (try simp only [room_1, rm_L_appendCharacter] at *); omega)⟩ rfl rfl (Nat.le_of_ble_eq_true rfl) dL_law_2240 ⟨(by (try simp only [room_1, rm_L_appendCharacter] at *); omega), (by (try simp only [room_1, rm_L_appendCharacter] at *); omega)⟩ (kI (fun r3 S2 h => ?_))
  refine gd_istore (pc := 2243) X dL_law_2243 (by decide) (E2 := [(6, .int r3), (0, .ref b), (1, rf l1), (2, rf l2), (3, rf l3), (4, rf l4), (5, .int l5)]) rfl ?_
  refine gd_aload_n (pc := 2245) X 3 dL_law_2245 rfl ?_
  refine gd_aloadP (pc := 2246) X 1 dL_law_2246 rfl ?_
  refine gd_iload (pc := 2247) X 6 dL_law_2247 rfl ?_
  refine gd_iconst (pc := 2249) X (1) dL_law_2249 (by decide) ?_
  refine gd_iadd (pc := 2250) X dL_law_2250 ?_
  obtain ⟨hi4, h⟩ := h
  refine gd_sld (pc := 2251) X hX hbl hbA dL_law_2251 hi4 ?_
  obtain ⟨hk5, h⟩ := h
  refine gd_callV (pc := 2252) (As := [.int (xs (ix (l5 + 1)))]) (rest := []) X (ct_X6_appendCharacter l G S2 l2 (xs (ix (l5 + 1))) _ h) mw_X6_appendCharacter tw_1372 ci6 rfl hk5 ⟨(by (try simp only [room_1, rm_X6_appendCharacter, rm_L_appendCharacter] at *); omega), (by (try simp only [room_1, rm_X6_appendCharacter, rm_L_appendCharacter] at *); omega)⟩ rfl rfl (Nat.le_of_ble_eq_true rfl) dL_law_2252 ⟨(by (try simp only [room_1, rm_X6_appendCharacter, rm_L_appendCharacter] at *); omega), (by (try simp only [room_1, rm_X6_appendCharacter, rm_L_appendCharacter] at *); omega)⟩ (kI (fun r7 S6 h => ?_))
  refine gd_istore (pc := 2255) X dL_law_2255 (by decide) (E2 := [(7, .int r7), (6, .int r3), (0, .ref b), (1, rf l1), (2, rf l2), (3, rf l3), (4, rf l4), (5, .int l5)]) rfl ?_
  refine gd_aload_n (pc := 2257) X 4 dL_law_2257 rfl ?_
  obtain ⟨hk8, h⟩ := h
  refine gd_callV (pc := 2258) (As := []) (rest := []) X (ct_X6_thrown l G S6 l2 _ h) mw_X6_thrown tw_973 ci6 rfl hk8 ⟨(by (try simp only [room_1, rm_X6_thrown, rm_L_appendCharacter, rm_X6_appendCharacter] at *); omega), (by (try simp only [room_1, rm_X6_thrown, rm_L_appendCharacter, rm_X6_appendCharacter] at *); omega)⟩ rfl rfl (Nat.le_of_ble_eq_true rfl) dL_law_2258 ⟨(by (try simp only [room_1, rm_X6_thrown, rm_L_appendCharacter, rm_X6_appendCharacter] at *); omega), (by (try simp only [room_1, rm_X6_thrown, rm_L_appendCharacter, rm_X6_appendCharacter] at *); omega)⟩ (kI (fun r10 S9 h => ?_))
  refine gd_iload (pc := 2261) X 1 dL_law_2261 rfl ?_
  refine gd_icmp_eq (pc := 2263) X 2268 dL_law_2263 (by decide) (fun hc17 => ?_) (fun hc17 => ?_)
  · have h := h.1 hc17
    refine gd_iload (pc := 2268) X 1 dL_law_2268 rfl ?_
    refine gd_if_ne (pc := 2270) X 2285 dL_law_2270 (by decide) (fun hc16 => ?_) (fun hc16 => ?_)
    · have h := h.1 hc16
      refine gd_goto (pc := 2285) X 2345 dL_law_2285 (by decide) ?_
      obtain ⟨v11, hv11⟩ : ∃ z : Int32, z = l5 + 5 := ⟨_, rfl⟩
      have h := h v11 hv11
      refine gd_iinc (pc := 2345) (v := v11) X 7 dL_law_2345 rfl (by rw [hv11]; rfl) (by decide) (E2 := [(5, .int v11), (7, .int r7), (6, .int r3), (0, .ref b), (1, rf l1), (2, rf l2), (3, rf l3), (4, rf l4)]) (by simp [rf_cat, lv1, int_cat, ref_cat] <;> decide) ?_
      refine gd_goto (pc := 2348) X 28 dL_law_2348 (by decide) ?_
      refine gd_wide (k2 := k + 36) (j2 := j + 292) (by (try simp only [room_1, rm_X6_thrown, rm_L_appendCharacter, rm_X6_appendCharacter] at *); omega) (by (try simp only [room_1, rm_X6_thrown, rm_L_appendCharacter, rm_X6_appendCharacter] at *); omega) ?_
      refine gd_sub [3, 4, 5, 6, 7, 0] rfl ?_
      exact hKH28 _ _ _ _ _ _ h
    · have h := h.2 hc16
      refine gd_aload_n (pc := 2273) X 5 dL_law_2273 rfl ?_
      refine gd_iconst (pc := 2274) X (0) dL_law_2274 (by decide) ?_
      obtain ⟨hk12, h⟩ := h
      obtain ⟨hi13, h⟩ := h
      refine gd_lald (pc := 2275) X dL_law_2275 hk12 hi13 ?_
      refine gd_iload (pc := 2276) X 0 dL_law_2276 rfl ?_
      refine gd_i2l (pc := 2278) X dL_law_2278 ?_
      refine gd_lcmp (pc := 2279) X dL_law_2279 ?_
      refine gd_if_eq (pc := 2280) X 2285 dL_law_2280 (by decide) (fun hc15 => ?_) (fun hc15 => ?_)
      · have h := h.1 hc15
        refine gd_goto (pc := 2285) X 2345 dL_law_2285 (by decide) ?_
        obtain ⟨v14, hv14⟩ : ∃ z : Int32, z = l5 + 5 := ⟨_, rfl⟩
        have h := h v14 hv14
        refine gd_iinc (pc := 2345) (v := v14) X 7 dL_law_2345 rfl (by rw [hv14]; rfl) (by decide) (E2 := [(5, .int v14), (7, .int r7), (6, .int r3), (0, .ref b), (1, rf l1), (2, rf l2), (3, rf l3), (4, rf l4)]) (by simp [rf_cat, lv1, int_cat, ref_cat] <;> decide) ?_
        refine gd_goto (pc := 2348) X 28 dL_law_2348 (by decide) ?_
        refine gd_wide (k2 := k + 36) (j2 := j + 292) (by (try simp only [room_1, rm_X6_thrown, rm_L_appendCharacter, rm_X6_appendCharacter] at *); omega) (by (try simp only [room_1, rm_X6_thrown, rm_L_appendCharacter, rm_X6_appendCharacter] at *); omega) ?_
        refine gd_sub [3, 4, 5, 6, 7, 0] rfl ?_
        exact hKH28 _ _ _ _ _ _ h
      · have h := h.2 hc15
        refine gd_iconst (pc := 2283) X (0) dL_law_2283 (by decide) ?_
        exact h.elim
  · have h := h.2 hc17
    refine gd_iconst (pc := 2266) X (0) dL_law_2266 (by decide) ?_
    exact h.elim
def b_L_law_2288 (xs : Nat → Int32) (Lx : Nat) (KH28 : MS → Nat → Nat → Nat → Nat → Int32 → Prop) (S : MS) (l1 l2 l3 l4 : Nat) (l5 : Int32) : Prop := w_L_runScript S l1 l3 (fun r2 S1 => kT S1 l2 = 7 ∧ w_X6_runScript S1 l2 (fun r5 S4 => kT S4 l2 = 7 ∧ w_X6_thrown S4 l2 (fun r8 S7 => ((r8 = r2 → ((¬ r2 = 0 → ∀ v9 : Int32, v9 = l5 + 5 → KH28 S7 l1 l2 l3 l4 v9) ∧ (r2 = 0 → kT S7 l3 = 15 ∧ vp_in 0 (kL S7 l3) ∧ (((lg_cmp (sL S7 l3 (ix 0)) r5.toInt64) = 0 → ∀ v12 : Int32, v12 = l5 + 5 → KH28 S7 l1 l2 l3 l4 v12) ∧ (¬ (lg_cmp (sL S7 l3 (ix 0)) r5.toInt64) = 0 → False))))) ∧ (¬ r8 = r2 → False)))))
set_option maxHeartbeats 4000000 in
set_option maxRecDepth 100000 in
theorem gl_2288 {p : Program} {l : Launch} {e : Env} {s : State} {m : MethodId} {below : List Frame} {meth : Method} {c : Code} {G : GP} {b Lx : Nat} {xs : Nat → Int32} (hfl : l.stackTraces = false) (X : Cx p s m #[Value.ref b] c code 9 R_law G) (hX : va_X b Lx xs s s.heap) (hbl : b < s.heap.size) (hbA : ¬ Ab G b) (hrt : meth.sig.returnType = ret) (hlk : meth.locks = false) (hG : G.2.2 = s.heap.size) {k j : Nat} (hk : k + 36 ≤ 603072) (hj : j + 292 ≤ 7178346) (KH28 : MS → Nat → Nat → Nat → Nat → Int32 → Prop) (hKH28 : ∀ (S : MS) (l1 l2 l3 l4 : Nat) (l5 : Int32), KH28 S l1 l2 l3 l4 l5 → Gd p l e room_1 s m #[Value.ref b] below meth c 9 G (lw_Z below #[Value.ref b] s) (k + 36) (j + 292) S 28 [(0, .ref b), (1, rf l1), (2, rf l2), (3, rf l3), (4, rf l4), (5, .int l5)] []) : ∀ (S : MS) (l1 l2 l3 l4 : Nat) (l5 : Int32), b_L_law_2288 xs Lx KH28 S l1 l2 l3 l4 l5 → Gd p l e room_1 s m #[Value.ref b] below meth c 9 G (lw_Z below #[Value.ref b] s) k j S 2288 [(0, .ref b), (1, rf l1), (2, rf l2), (3, rf l3), (4, rf l4), (5, .int l5)] [] := by
  intro S l1 l2 l3 l4 l5 h
  refine gd_aload_n (pc := 2288) X 1 dL_law_2288 rfl ?_
  refine gd_aload_n (pc := 2289) X 3 dL_law_2289 rfl ?_
  refine gd_callW (n := 2) (pc := 2290) (As := [rf l1, rf l3]) (rest := []) X (ct_L_runScript l hfl G S l1 l3 _ h) tw_906 tw_0 tw_907 ⟨by decide, by decide, by decide +kernel⟩ tw_905 ⟨(by (try simp only [room_1, rm_L_runScript] at *); omega), (by (try simp only [room_1, rm_L_runScript] at *); omega)⟩ rfl rfl (Nat.le_of_ble_eq_true rfl) dL_law_2290 ⟨(by (try simp only [room_1, rm_L_runScript] at *); omega), (by (try simp only [room_1, rm_L_runScript] at *); omega)⟩ (kI (fun r2 S1 h => ?_))
  refine gd_istore (pc := 2293) X dL_law_2293 (by decide) (E2 := [(6, .int r2), (0, .ref b), (1, rf l1), (2, rf l2), (3, rf l3), (4, rf l4), (5, .int l5)]) rfl ?_
  refine gd_aload_n (pc := 2295) X 3 dL_law_2295 rfl ?_
  obtain ⟨hk3, h⟩ := h
  refine gd_callV (pc := 2296) (As := []) (rest := []) X (ct_X6_runScript l G S1 l2 _ h) mw_X6_runScript tw_1376 ci6 rfl hk3 ⟨(by (try simp only [room_1, rm_X6_runScript, rm_L_runScript] at *); omega), (by (try simp only [room_1, rm_X6_runScript, rm_L_runScript] at *); omega)⟩ rfl rfl (Nat.le_of_ble_eq_true rfl) dL_law_2296 ⟨(by (try simp only [room_1, rm_X6_runScript, rm_L_runScript] at *); omega), (by (try simp only [room_1, rm_X6_runScript, rm_L_runScript] at *); omega)⟩ (kI (fun r5 S4 h => ?_))
  refine gd_istore (pc := 2299) X dL_law_2299 (by decide) (E2 := [(7, .int r5), (6, .int r2), (0, .ref b), (1, rf l1), (2, rf l2), (3, rf l3), (4, rf l4), (5, .int l5)]) rfl ?_
  refine gd_aload_n (pc := 2301) X 4 dL_law_2301 rfl ?_
  obtain ⟨hk6, h⟩ := h
  refine gd_callV (pc := 2302) (As := []) (rest := []) X (ct_X6_thrown l G S4 l2 _ h) mw_X6_thrown tw_973 ci6 rfl hk6 ⟨(by (try simp only [room_1, rm_X6_thrown, rm_L_runScript, rm_X6_runScript] at *); omega), (by (try simp only [room_1, rm_X6_thrown, rm_L_runScript, rm_X6_runScript] at *); omega)⟩ rfl rfl (Nat.le_of_ble_eq_true rfl) dL_law_2302 ⟨(by (try simp only [room_1, rm_X6_thrown, rm_L_runScript, rm_X6_runScript] at *); omega), (by (try simp only [room_1, rm_X6_thrown, rm_L_runScript, rm_X6_runScript] at *); omega)⟩ (kI (fun r8 S7 h => ?_))
  refine gd_iload (pc := 2305) X 1 dL_law_2305 rfl ?_
  refine gd_icmp_eq (pc := 2307) X 2312 dL_law_2307 (by decide) (fun hc15 => ?_) (fun hc15 => ?_)
  · have h := h.1 hc15
    refine gd_iload (pc := 2312) X 1 dL_law_2312 rfl ?_
    refine gd_if_ne (pc := 2314) X 2329 dL_law_2314 (by decide) (fun hc14 => ?_) (fun hc14 => ?_)
    · have h := h.1 hc14
      refine gd_goto (pc := 2329) X 2345 dL_law_2329 (by decide) ?_
      obtain ⟨v9, hv9⟩ : ∃ z : Int32, z = l5 + 5 := ⟨_, rfl⟩
      have h := h v9 hv9
      refine gd_iinc (pc := 2345) (v := v9) X 7 dL_law_2345 rfl (by rw [hv9]; rfl) (by decide) (E2 := [(5, .int v9), (7, .int r5), (6, .int r2), (0, .ref b), (1, rf l1), (2, rf l2), (3, rf l3), (4, rf l4)]) (by simp [rf_cat, lv1, int_cat, ref_cat] <;> decide) ?_
      refine gd_goto (pc := 2348) X 28 dL_law_2348 (by decide) ?_
      refine gd_wide (k2 := k + 36) (j2 := j + 292) (by (try simp only [room_1, rm_X6_thrown, rm_L_runScript, rm_X6_runScript] at *); omega) (by (try simp only [room_1, rm_X6_thrown, rm_L_runScript, rm_X6_runScript] at *); omega) ?_
      refine gd_sub [3, 4, 5, 6, 7, 0] rfl ?_
      exact hKH28 _ _ _ _ _ _ h
    · have h := h.2 hc14
      refine gd_aload_n (pc := 2317) X 5 dL_law_2317 rfl ?_
      refine gd_iconst (pc := 2318) X (0) dL_law_2318 (by decide) ?_
      obtain ⟨hk10, h⟩ := h
      obtain ⟨hi11, h⟩ := h
      refine gd_lald (pc := 2319) X dL_law_2319 hk10 hi11 ?_
      refine gd_iload (pc := 2320) X 0 dL_law_2320 rfl ?_
      refine gd_i2l (pc := 2322) X dL_law_2322 ?_
      refine gd_lcmp (pc := 2323) X dL_law_2323 ?_
      refine gd_if_eq (pc := 2324) X 2329 dL_law_2324 (by decide) (fun hc13 => ?_) (fun hc13 => ?_)
      · have h := h.1 hc13
        refine gd_goto (pc := 2329) X 2345 dL_law_2329 (by decide) ?_
        obtain ⟨v12, hv12⟩ : ∃ z : Int32, z = l5 + 5 := ⟨_, rfl⟩
        have h := h v12 hv12
        refine gd_iinc (pc := 2345) (v := v12) X 7 dL_law_2345 rfl (by rw [hv12]; rfl) (by decide) (E2 := [(5, .int v12), (7, .int r5), (6, .int r2), (0, .ref b), (1, rf l1), (2, rf l2), (3, rf l3), (4, rf l4)]) (by simp [rf_cat, lv1, int_cat, ref_cat] <;> decide) ?_
        refine gd_goto (pc := 2348) X 28 dL_law_2348 (by decide) ?_
        refine gd_wide (k2 := k + 36) (j2 := j + 292) (by (try simp only [room_1, rm_X6_thrown, rm_L_runScript, rm_X6_runScript] at *); omega) (by (try simp only [room_1, rm_X6_thrown, rm_L_runScript, rm_X6_runScript] at *); omega) ?_
        refine gd_sub [3, 4, 5, 6, 7, 0] rfl ?_
        exact hKH28 _ _ _ _ _ _ h
      · have h := h.2 hc13
        refine gd_iconst (pc := 2327) X (0) dL_law_2327 (by decide) ?_
        exact h.elim
  · have h := h.2 hc15
    refine gd_iconst (pc := 2310) X (0) dL_law_2310 (by decide) ?_
    exact h.elim
