def b_L_law_1267 (xs : Nat → Int32) (Lx : Nat) (KH28 : MS → Nat → Nat → Nat → Nat → Int32 → Prop) (S : MS) (l1 l2 l3 l4 : Nat) (l5 : Int32) : Prop := vp_in (l5 + 1) Lx ∧ w_L_recordedKeys S l1 (xs (ix (l5 + 1))) l3 (fun r3 S2 => vp_in (l5 + 1) Lx ∧ kT S2 l2 = 7 ∧ w_X6_recordedKeys S2 l2 (xs (ix (l5 + 1))) (fun r7 S6 => kT S6 l2 = 7 ∧ w_X6_thrown S6 l2 (fun r10 S9 => ((r10 = r3 → ((¬ r3 = 0 → ∀ v11 : Int32, v11 = l5 + 5 → KH28 S9 l1 l2 l3 l4 v11) ∧ (r3 = 0 → kT S9 l3 = 15 ∧ vp_in 0 (kL S9 l3) ∧ (((lg_cmp (sL S9 l3 (ix 0)) r7.toInt64) = 0 → ∀ v14 : Int32, v14 = l5 + 5 → KH28 S9 l1 l2 l3 l4 v14) ∧ (¬ (lg_cmp (sL S9 l3 (ix 0)) r7.toInt64) = 0 → False))))) ∧ (¬ r10 = r3 → False)))))
set_option maxHeartbeats 4000000 in
set_option maxRecDepth 100000 in
theorem gl_1267 {p : Program} {l : Launch} {e : Env} {s : State} {m : MethodId} {below : List Frame} {meth : Method} {c : Code} {G : GP} {b Lx : Nat} {xs : Nat → Int32} (hfl : l.stackTraces = false) (X : Cx p s m #[Value.ref b] c code 9 R_law G) (hX : va_X b Lx xs s s.heap) (hbl : b < s.heap.size) (hbA : ¬ Ab G b) (hrt : meth.sig.returnType = ret) (hlk : meth.locks = false) (hG : G.2.2 = s.heap.size) {k j : Nat} (hk : k + 36 ≤ 603072) (hj : j + 292 ≤ 7178346) (KH28 : MS → Nat → Nat → Nat → Nat → Int32 → Prop) (hKH28 : ∀ (S : MS) (l1 l2 l3 l4 : Nat) (l5 : Int32), KH28 S l1 l2 l3 l4 l5 → Gd p l e room_1 s m #[Value.ref b] below meth c 9 G (lw_Z below #[Value.ref b] s) (k + 36) (j + 292) S 28 [(0, .ref b), (1, rf l1), (2, rf l2), (3, rf l3), (4, rf l4), (5, .int l5)] []) : ∀ (S : MS) (l1 l2 l3 l4 : Nat) (l5 : Int32), b_L_law_1267 xs Lx KH28 S l1 l2 l3 l4 l5 → Gd p l e room_1 s m #[Value.ref b] below meth c 9 G (lw_Z below #[Value.ref b] s) k j S 1267 [(0, .ref b), (1, rf l1), (2, rf l2), (3, rf l3), (4, rf l4), (5, .int l5)] [] := by
  intro S l1 l2 l3 l4 l5 h
  refine gd_aload_n (pc := 1267) X 1 dL_law_1267 rfl ?_
  refine gd_aloadP (pc := 1268) X 0 dL_law_1268 rfl ?_
  refine gd_iload (pc := 1269) X 5 dL_law_1269 rfl ?_
  refine gd_iconst (pc := 1271) X (1) dL_law_1271 (by decide) ?_
  refine gd_iadd (pc := 1272) X dL_law_1272 ?_
  obtain ⟨hi1, h⟩ := h
  refine gd_sld (pc := 1273) X hX hbl hbA dL_law_1273 hi1 ?_
  refine gd_aload_n (pc := 1274) X 3 dL_law_1274 rfl ?_
  refine gd_callW (n := 3) (pc := 1275) (As := [rf l1, .int (xs (ix (l5 + 1))), rf l3]) (rest := []) X (ct_L_recordedKeys l hfl G S l1 (xs (ix (l5 + 1))) l3 _ h) tw_739 tw_0 tw_740 ⟨by decide, by decide, by decide +kernel⟩ tw_738 ⟨(by (try simp only [room_1, rm_L_recordedKeys] at *); omega), (by (try simp only [room_1, rm_L_recordedKeys] at *); omega)⟩ rfl rfl (Nat.le_of_ble_eq_true rfl) dL_law_1275 ⟨(by (try simp only [room_1, rm_L_recordedKeys] at *); omega), (by (try simp only [room_1, rm_L_recordedKeys] at *); omega)⟩ (kI (fun r3 S2 h => ?_))
  refine gd_istore (pc := 1278) X dL_law_1278 (by decide) (E2 := [(6, .int r3), (0, .ref b), (1, rf l1), (2, rf l2), (3, rf l3), (4, rf l4), (5, .int l5)]) rfl ?_
  refine gd_aload_n (pc := 1280) X 3 dL_law_1280 rfl ?_
  refine gd_aloadP (pc := 1281) X 1 dL_law_1281 rfl ?_
  refine gd_iload (pc := 1282) X 6 dL_law_1282 rfl ?_
  refine gd_iconst (pc := 1284) X (1) dL_law_1284 (by decide) ?_
  refine gd_iadd (pc := 1285) X dL_law_1285 ?_
  obtain ⟨hi4, h⟩ := h
  refine gd_sld (pc := 1286) X hX hbl hbA dL_law_1286 hi4 ?_
  obtain ⟨hk5, h⟩ := h
  refine gd_callV (pc := 1287) (As := [.int (xs (ix (l5 + 1)))]) (rest := []) X (ct_X6_recordedKeys l G S2 l2 (xs (ix (l5 + 1))) _ h) mw_X6_recordedKeys tw_1283 ci6 rfl hk5 ⟨(by (try simp only [room_1, rm_X6_recordedKeys, rm_L_recordedKeys] at *); omega), (by (try simp only [room_1, rm_X6_recordedKeys, rm_L_recordedKeys] at *); omega)⟩ rfl rfl (Nat.le_of_ble_eq_true rfl) dL_law_1287 ⟨(by (try simp only [room_1, rm_X6_recordedKeys, rm_L_recordedKeys] at *); omega), (by (try simp only [room_1, rm_X6_recordedKeys, rm_L_recordedKeys] at *); omega)⟩ (kI (fun r7 S6 h => ?_))
  refine gd_istore (pc := 1290) X dL_law_1290 (by decide) (E2 := [(7, .int r7), (6, .int r3), (0, .ref b), (1, rf l1), (2, rf l2), (3, rf l3), (4, rf l4), (5, .int l5)]) rfl ?_
  refine gd_aload_n (pc := 1292) X 4 dL_law_1292 rfl ?_
  obtain ⟨hk8, h⟩ := h
  refine gd_callV (pc := 1293) (As := []) (rest := []) X (ct_X6_thrown l G S6 l2 _ h) mw_X6_thrown tw_973 ci6 rfl hk8 ⟨(by (try simp only [room_1, rm_X6_thrown, rm_L_recordedKeys, rm_X6_recordedKeys] at *); omega), (by (try simp only [room_1, rm_X6_thrown, rm_L_recordedKeys, rm_X6_recordedKeys] at *); omega)⟩ rfl rfl (Nat.le_of_ble_eq_true rfl) dL_law_1293 ⟨(by (try simp only [room_1, rm_X6_thrown, rm_L_recordedKeys, rm_X6_recordedKeys] at *); omega), (by (try simp only [room_1, rm_X6_thrown, rm_L_recordedKeys, rm_X6_recordedKeys] at *); omega)⟩ (kI (fun r10 S9 h => ?_))
  refine gd_iload (pc := 1296) X 1 dL_law_1296 rfl ?_
  refine gd_icmp_eq (pc := 1298) X 1303 dL_law_1298 (by decide) (fun hc17 => ?_) (fun hc17 => ?_)
  · have h := h.1 hc17
    refine gd_iload (pc := 1303) X 1 dL_law_1303 rfl ?_
    refine gd_if_ne (pc := 1305) X 1320 dL_law_1305 (by decide) (fun hc16 => ?_) (fun hc16 => ?_)
    · have h := h.1 hc16
      refine gd_goto (pc := 1320) X 2345 dL_law_1320 (by decide) ?_
      obtain ⟨v11, hv11⟩ : ∃ z : Int32, z = l5 + 5 := ⟨_, rfl⟩
      have h := h v11 hv11
      refine gd_iinc (pc := 2345) (v := v11) X 7 dL_law_2345 rfl (by rw [hv11]; rfl) (by decide) (E2 := [(5, .int v11), (7, .int r7), (6, .int r3), (0, .ref b), (1, rf l1), (2, rf l2), (3, rf l3), (4, rf l4)]) (by simp [rf_cat, lv1, int_cat, ref_cat] <;> decide) ?_
      refine gd_goto (pc := 2348) X 28 dL_law_2348 (by decide) ?_
      refine gd_wide (k2 := k + 36) (j2 := j + 292) (by (try simp only [room_1, rm_X6_thrown, rm_L_recordedKeys, rm_X6_recordedKeys] at *); omega) (by (try simp only [room_1, rm_X6_thrown, rm_L_recordedKeys, rm_X6_recordedKeys] at *); omega) ?_
      refine gd_sub [3, 4, 5, 6, 7, 0] rfl ?_
      exact hKH28 _ _ _ _ _ _ h
    · have h := h.2 hc16
      refine gd_aload_n (pc := 1308) X 5 dL_law_1308 rfl ?_
      refine gd_iconst (pc := 1309) X (0) dL_law_1309 (by decide) ?_
      obtain ⟨hk12, h⟩ := h
      obtain ⟨hi13, h⟩ := h
      refine gd_lald (pc := 1310) X dL_law_1310 hk12 hi13 ?_
      refine gd_iload (pc := 1311) X 0 dL_law_1311 rfl ?_
      refine gd_i2l (pc := 1313) X dL_law_1313 ?_
      refine gd_lcmp (pc := 1314) X dL_law_1314 ?_
      refine gd_if_eq (pc := 1315) X 1320 dL_law_1315 (by decide) (fun hc15 => ?_) (fun hc15 => ?_)
      · have h := h.1 hc15
        refine gd_goto (pc := 1320) X 2345 dL_law_1320 (by decide) ?_
        obtain ⟨v14, hv14⟩ : ∃ z : Int32, z = l5 + 5 := ⟨_, rfl⟩
        have h := h v14 hv14
        refine gd_iinc (pc := 2345) (v := v14) X 7 dL_law_2345 rfl (by rw [hv14]; rfl) (by decide) (E2 := [(5, .int v14), (7, .int r7), (6, .int r3), (0, .ref b), (1, rf l1), (2, rf l2), (3, rf l3), (4, rf l4)]) (by simp [rf_cat, lv1, int_cat, ref_cat] <;> decide) ?_
        refine gd_goto (pc := 2348) X 28 dL_law_2348 (by decide) ?_
        refine gd_wide (k2 := k + 36) (j2 := j + 292) (by (try simp only [room_1, rm_X6_thrown, rm_L_recordedKeys, rm_X6_recordedKeys] at *); omega) (by (try simp only [room_1, rm_X6_thrown, rm_L_recordedKeys, rm_X6_recordedKeys] at *); omega) ?_
        refine gd_sub [3, 4, 5, 6, 7, 0] rfl ?_
        exact hKH28 _ _ _ _ _ _ h
      · have h := h.2 hc15
        refine gd_iconst (pc := 1318) X (0) dL_law_1318 (by decide) ?_
        exact h.elim
  · have h := h.2 hc17
    refine gd_iconst (pc := 1301) X (0) dL_law_1301 (by decide) ?_
    exact h.elim
def b_L_law_1323 (xs : Nat → Int32) (Lx : Nat) (KH28 : MS → Nat → Nat → Nat → Nat → Int32 → Prop) (S : MS) (l1 l2 l3 l4 : Nat) (l5 : Int32) : Prop := vp_in (l5 + 1) Lx ∧ w_L_predicateCount S l1 (xs (ix (l5 + 1))) l3 (fun r3 S2 => vp_in (l5 + 1) Lx ∧ kT S2 l2 = 7 ∧ w_X6_predicateCount S2 l2 (xs (ix (l5 + 1))) (fun r7 S6 => kT S6 l2 = 7 ∧ w_X6_thrown S6 l2 (fun r10 S9 => ((r10 = r3 → ((¬ r3 = 0 → ∀ v11 : Int32, v11 = l5 + 5 → KH28 S9 l1 l2 l3 l4 v11) ∧ (r3 = 0 → kT S9 l3 = 15 ∧ vp_in 0 (kL S9 l3) ∧ (((lg_cmp (sL S9 l3 (ix 0)) r7.toInt64) = 0 → ∀ v14 : Int32, v14 = l5 + 5 → KH28 S9 l1 l2 l3 l4 v14) ∧ (¬ (lg_cmp (sL S9 l3 (ix 0)) r7.toInt64) = 0 → False))))) ∧ (¬ r10 = r3 → False)))))
set_option maxHeartbeats 4000000 in
set_option maxRecDepth 100000 in
theorem gl_1323 {p : Program} {l : Launch} {e : Env} {s : State} {m : MethodId} {below : List Frame} {meth : Method} {c : Code} {G : GP} {b Lx : Nat} {xs : Nat → Int32} (hfl : l.stackTraces = false) (X : Cx p s m #[Value.ref b] c code 9 R_law G) (hX : va_X b Lx xs s s.heap) (hbl : b < s.heap.size) (hbA : ¬ Ab G b) (hrt : meth.sig.returnType = ret) (hlk : meth.locks = false) (hG : G.2.2 = s.heap.size) {k j : Nat} (hk : k + 36 ≤ 603072) (hj : j + 292 ≤ 7178346) (KH28 : MS → Nat → Nat → Nat → Nat → Int32 → Prop) (hKH28 : ∀ (S : MS) (l1 l2 l3 l4 : Nat) (l5 : Int32), KH28 S l1 l2 l3 l4 l5 → Gd p l e room_1 s m #[Value.ref b] below meth c 9 G (lw_Z below #[Value.ref b] s) (k + 36) (j + 292) S 28 [(0, .ref b), (1, rf l1), (2, rf l2), (3, rf l3), (4, rf l4), (5, .int l5)] []) : ∀ (S : MS) (l1 l2 l3 l4 : Nat) (l5 : Int32), b_L_law_1323 xs Lx KH28 S l1 l2 l3 l4 l5 → Gd p l e room_1 s m #[Value.ref b] below meth c 9 G (lw_Z below #[Value.ref b] s) k j S 1323 [(0, .ref b), (1, rf l1), (2, rf l2), (3, rf l3), (4, rf l4), (5, .int l5)] [] := by
  intro S l1 l2 l3 l4 l5 h
  refine gd_aload_n (pc := 1323) X 1 dL_law_1323 rfl ?_
  refine gd_aloadP (pc := 1324) X 0 dL_law_1324 rfl ?_
  refine gd_iload (pc := 1325) X 5 dL_law_1325 rfl ?_
  refine gd_iconst (pc := 1327) X (1) dL_law_1327 (by decide) ?_
  refine gd_iadd (pc := 1328) X dL_law_1328 ?_
  obtain ⟨hi1, h⟩ := h
  refine gd_sld (pc := 1329) X hX hbl hbA dL_law_1329 hi1 ?_
  refine gd_aload_n (pc := 1330) X 3 dL_law_1330 rfl ?_
  refine gd_callW (n := 3) (pc := 1331) (As := [rf l1, .int (xs (ix (l5 + 1))), rf l3]) (rest := []) X (ct_L_predicateCount l hfl G S l1 (xs (ix (l5 + 1))) l3 _ h) tw_746 tw_0 tw_747 ⟨by decide, by decide, by decide +kernel⟩ tw_745 ⟨(by (try simp only [room_1, rm_L_predicateCount] at *); omega), (by (try simp only [room_1, rm_L_predicateCount] at *); omega)⟩ rfl rfl (Nat.le_of_ble_eq_true rfl) dL_law_1331 ⟨(by (try simp only [room_1, rm_L_predicateCount] at *); omega), (by (try simp only [room_1, rm_L_predicateCount] at *); omega)⟩ (kI (fun r3 S2 h => ?_))
  refine gd_istore (pc := 1334) X dL_law_1334 (by decide) (E2 := [(6, .int r3), (0, .ref b), (1, rf l1), (2, rf l2), (3, rf l3), (4, rf l4), (5, .int l5)]) rfl ?_
  refine gd_aload_n (pc := 1336) X 3 dL_law_1336 rfl ?_
  refine gd_aloadP (pc := 1337) X 1 dL_law_1337 rfl ?_
  refine gd_iload (pc := 1338) X 6 dL_law_1338 rfl ?_
  refine gd_iconst (pc := 1340) X (1) dL_law_1340 (by decide) ?_
  refine gd_iadd (pc := 1341) X dL_law_1341 ?_
  obtain ⟨hi4, h⟩ := h
  refine gd_sld (pc := 1342) X hX hbl hbA dL_law_1342 hi4 ?_
  obtain ⟨hk5, h⟩ := h
  refine gd_callV (pc := 1343) (As := [.int (xs (ix (l5 + 1)))]) (rest := []) X (ct_X6_predicateCount l G S2 l2 (xs (ix (l5 + 1))) _ h) mw_X6_predicateCount tw_1287 ci6 rfl hk5 ⟨(by (try simp only [room_1, rm_X6_predicateCount, rm_L_predicateCount] at *); omega), (by (try simp only [room_1, rm_X6_predicateCount, rm_L_predicateCount] at *); omega)⟩ rfl rfl (Nat.le_of_ble_eq_true rfl) dL_law_1343 ⟨(by (try simp only [room_1, rm_X6_predicateCount, rm_L_predicateCount] at *); omega), (by (try simp only [room_1, rm_X6_predicateCount, rm_L_predicateCount] at *); omega)⟩ (kI (fun r7 S6 h => ?_))
  refine gd_istore (pc := 1346) X dL_law_1346 (by decide) (E2 := [(7, .int r7), (6, .int r3), (0, .ref b), (1, rf l1), (2, rf l2), (3, rf l3), (4, rf l4), (5, .int l5)]) rfl ?_
  refine gd_aload_n (pc := 1348) X 4 dL_law_1348 rfl ?_
  obtain ⟨hk8, h⟩ := h
  refine gd_callV (pc := 1349) (As := []) (rest := []) X (ct_X6_thrown l G S6 l2 _ h) mw_X6_thrown tw_973 ci6 rfl hk8 ⟨(by (try simp only [room_1, rm_X6_thrown, rm_L_predicateCount, rm_X6_predicateCount] at *); omega), (by (try simp only [room_1, rm_X6_thrown, rm_L_predicateCount, rm_X6_predicateCount] at *); omega)⟩ rfl rfl (Nat.le_of_ble_eq_true rfl) dL_law_1349 ⟨(by (try simp only [room_1, rm_X6_thrown, rm_L_predicateCount, rm_X6_predicateCount] at *); omega), (by (try simp only [room_1, rm_X6_thrown, rm_L_predicateCount, rm_X6_predicateCount] at *); omega)⟩ (kI (fun r10 S9 h => ?_))
  refine gd_iload (pc := 1352) X 1 dL_law_1352 rfl ?_
  refine gd_icmp_eq (pc := 1354) X 1359 dL_law_1354 (by decide) (fun hc17 => ?_) (fun hc17 => ?_)
  · have h := h.1 hc17
    refine gd_iload (pc := 1359) X 1 dL_law_1359 rfl ?_
    refine gd_if_ne (pc := 1361) X 1376 dL_law_1361 (by decide) (fun hc16 => ?_) (fun hc16 => ?_)
    · have h := h.1 hc16
      refine gd_goto (pc := 1376) X 2345 dL_law_1376 (by decide) ?_
      obtain ⟨v11, hv11⟩ : ∃ z : Int32, z = l5 + 5 := ⟨_, rfl⟩
      have h := h v11 hv11
      refine gd_iinc (pc := 2345) (v := v11) X 7 dL_law_2345 rfl (by rw [hv11]; rfl) (by decide) (E2 := [(5, .int v11), (7, .int r7), (6, .int r3), (0, .ref b), (1, rf l1), (2, rf l2), (3, rf l3), (4, rf l4)]) (by simp [rf_cat, lv1, int_cat, ref_cat] <;> decide) ?_
      refine gd_goto (pc := 2348) X 28 dL_law_2348 (by decide) ?_
      refine gd_wide (k2 := k + 36) (j2 := j + 292) (by (try simp only [room_1, rm_X6_thrown, rm_L_predicateCount, rm_X6_predicateCount] at *); omega) (by (try simp only [room_1, rm_X6_thrown, rm_L_predicateCount, rm_X6_predicateCount] at *); omega) ?_
      refine gd_sub [3, 4, 5, 6, 7, 0] rfl ?_
      exact hKH28 _ _ _ _ _ _ h
    · have h := h.2 hc16
      refine gd_aload_n (pc := 1364) X 5 dL_law_1364 rfl ?_
      refine gd_iconst (pc := 1365) X (0) dL_law_1365 (by decide) ?_
      obtain ⟨hk12, h⟩ := h
      obtain ⟨hi13, h⟩ := h
      refine gd_lald (pc := 1366) X dL_law_1366 hk12 hi13 ?_
      refine gd_iload (pc := 1367) X 0 dL_law_1367 rfl ?_
      refine gd_i2l (pc := 1369) X dL_law_1369 ?_
      refine gd_lcmp (pc := 1370) X dL_law_1370 ?_
      refine gd_if_eq (pc := 1371) X 1376 dL_law_1371 (by decide) (fun hc15 => ?_) (fun hc15 => ?_)
      · have h := h.1 hc15
        refine gd_goto (pc := 1376) X 2345 dL_law_1376 (by decide) ?_
        obtain ⟨v14, hv14⟩ : ∃ z : Int32, z = l5 + 5 := ⟨_, rfl⟩
        have h := h v14 hv14
        refine gd_iinc (pc := 2345) (v := v14) X 7 dL_law_2345 rfl (by rw [hv14]; rfl) (by decide) (E2 := [(5, .int v14), (7, .int r7), (6, .int r3), (0, .ref b), (1, rf l1), (2, rf l2), (3, rf l3), (4, rf l4)]) (by simp [rf_cat, lv1, int_cat, ref_cat] <;> decide) ?_
        refine gd_goto (pc := 2348) X 28 dL_law_2348 (by decide) ?_
        refine gd_wide (k2 := k + 36) (j2 := j + 292) (by (try simp only [room_1, rm_X6_thrown, rm_L_predicateCount, rm_X6_predicateCount] at *); omega) (by (try simp only [room_1, rm_X6_thrown, rm_L_predicateCount, rm_X6_predicateCount] at *); omega) ?_
        refine gd_sub [3, 4, 5, 6, 7, 0] rfl ?_
        exact hKH28 _ _ _ _ _ _ h
      · have h := h.2 hc15
        refine gd_iconst (pc := 1374) X (0) dL_law_1374 (by decide) ?_
        exact h.elim
  · have h := h.2 hc17
    refine gd_iconst (pc := 1357) X (0) dL_law_1357 (by decide) ?_
    exact h.elim
def b_L_law_1379 (xs : Nat → Int32) (Lx : Nat) (KH28 : MS → Nat → Nat → Nat → Nat → Int32 → Prop) (S : MS) (l1 l2 l3 l4 : Nat) (l5 : Int32) : Prop := vp_in (l5 + 1) Lx ∧ w_L_writtenKeys S l1 (xs (ix (l5 + 1))) l3 (fun r3 S2 => vp_in (l5 + 1) Lx ∧ kT S2 l2 = 7 ∧ w_X6_writtenKeys S2 l2 (xs (ix (l5 + 1))) (fun r7 S6 => kT S6 l2 = 7 ∧ w_X6_thrown S6 l2 (fun r10 S9 => ((r10 = r3 → ((¬ r3 = 0 → ∀ v11 : Int32, v11 = l5 + 5 → KH28 S9 l1 l2 l3 l4 v11) ∧ (r3 = 0 → kT S9 l3 = 15 ∧ vp_in 0 (kL S9 l3) ∧ (((lg_cmp (sL S9 l3 (ix 0)) r7.toInt64) = 0 → ∀ v14 : Int32, v14 = l5 + 5 → KH28 S9 l1 l2 l3 l4 v14) ∧ (¬ (lg_cmp (sL S9 l3 (ix 0)) r7.toInt64) = 0 → False))))) ∧ (¬ r10 = r3 → False)))))
set_option maxHeartbeats 4000000 in
set_option maxRecDepth 100000 in
theorem gl_1379 {p : Program} {l : Launch} {e : Env} {s : State} {m : MethodId} {below : List Frame} {meth : Method} {c : Code} {G : GP} {b Lx : Nat} {xs : Nat → Int32} (hfl : l.stackTraces = false) (X : Cx p s m #[Value.ref b] c code 9 R_law G) (hX : va_X b Lx xs s s.heap) (hbl : b < s.heap.size) (hbA : ¬ Ab G b) (hrt : meth.sig.returnType = ret) (hlk : meth.locks = false) (hG : G.2.2 = s.heap.size) {k j : Nat} (hk : k + 36 ≤ 603072) (hj : j + 292 ≤ 7178346) (KH28 : MS → Nat → Nat → Nat → Nat → Int32 → Prop) (hKH28 : ∀ (S : MS) (l1 l2 l3 l4 : Nat) (l5 : Int32), KH28 S l1 l2 l3 l4 l5 → Gd p l e room_1 s m #[Value.ref b] below meth c 9 G (lw_Z below #[Value.ref b] s) (k + 36) (j + 292) S 28 [(0, .ref b), (1, rf l1), (2, rf l2), (3, rf l3), (4, rf l4), (5, .int l5)] []) : ∀ (S : MS) (l1 l2 l3 l4 : Nat) (l5 : Int32), b_L_law_1379 xs Lx KH28 S l1 l2 l3 l4 l5 → Gd p l e room_1 s m #[Value.ref b] below meth c 9 G (lw_Z below #[Value.ref b] s) k j S 1379 [(0, .ref b), (1, rf l1), (2, rf l2), (3, rf l3), (4, rf l4), (5, .int l5)] [] := by
  intro S l1 l2 l3 l4 l5 h
  refine gd_aload_n (pc := 1379) X 1 dL_law_1379 rfl ?_
  refine gd_aloadP (pc := 1380) X 0 dL_law_1380 rfl ?_
  refine gd_iload (pc := 1381) X 5 dL_law_1381 rfl ?_
  refine gd_iconst (pc := 1383) X (1) dL_law_1383 (by decide) ?_
  refine gd_iadd (pc := 1384) X dL_law_1384 ?_
  obtain ⟨hi1, h⟩ := h
  refine gd_sld (pc := 1385) X hX hbl hbA dL_law_1385 hi1 ?_
  refine gd_aload_n (pc := 1386) X 3 dL_law_1386 rfl ?_
  refine gd_callW (n := 3) (pc := 1387) (As := [rf l1, .int (xs (ix (l5 + 1))), rf l3]) (rest := []) X (ct_L_writtenKeys l hfl G S l1 (xs (ix (l5 + 1))) l3 _ h) tw_758 tw_0 tw_759 ⟨by decide, by decide, by decide +kernel⟩ tw_757 ⟨(by (try simp only [room_1, rm_L_writtenKeys] at *); omega), (by (try simp only [room_1, rm_L_writtenKeys] at *); omega)⟩ rfl rfl (Nat.le_of_ble_eq_true rfl) dL_law_1387 ⟨(by (try simp only [room_1, rm_L_writtenKeys] at *); omega), (by (try simp only [room_1, rm_L_writtenKeys] at *); omega)⟩ (kI (fun r3 S2 h => ?_))
  refine gd_istore (pc := 1390) X dL_law_1390 (by decide) (E2 := [(6, .int r3), (0, .ref b), (1, rf l1), (2, rf l2), (3, rf l3), (4, rf l4), (5, .int l5)]) rfl ?_
  refine gd_aload_n (pc := 1392) X 3 dL_law_1392 rfl ?_
  refine gd_aloadP (pc := 1393) X 1 dL_law_1393 rfl ?_
  refine gd_iload (pc := 1394) X 6 dL_law_1394 rfl ?_
  refine gd_iconst (pc := 1396) X (1) dL_law_1396 (by decide) ?_
  refine gd_iadd (pc := 1397) X dL_law_1397 ?_
  obtain ⟨hi4, h⟩ := h
  refine gd_sld (pc := 1398) X hX hbl hbA dL_law_1398 hi4 ?_
  obtain ⟨hk5, h⟩ := h
  refine gd_callV (pc := 1399) (As := [.int (xs (ix (l5 + 1)))]) (rest := []) X (ct_X6_writtenKeys l G S2 l2 (xs (ix (l5 + 1))) _ h) mw_X6_writtenKeys tw_1291 ci6 rfl hk5 ⟨(by (try simp only [room_1, rm_X6_writtenKeys, rm_L_writtenKeys] at *); omega), (by (try simp only [room_1, rm_X6_writtenKeys, rm_L_writtenKeys] at *); omega)⟩ rfl rfl (Nat.le_of_ble_eq_true rfl) dL_law_1399 ⟨(by (try simp only [room_1, rm_X6_writtenKeys, rm_L_writtenKeys] at *); omega), (by (try simp only [room_1, rm_X6_writtenKeys, rm_L_writtenKeys] at *); omega)⟩ (kI (fun r7 S6 h => ?_))
  refine gd_istore (pc := 1402) X dL_law_1402 (by decide) (E2 := [(7, .int r7), (6, .int r3), (0, .ref b), (1, rf l1), (2, rf l2), (3, rf l3), (4, rf l4), (5, .int l5)]) rfl ?_
  refine gd_aload_n (pc := 1404) X 4 dL_law_1404 rfl ?_
  obtain ⟨hk8, h⟩ := h
  refine gd_callV (pc := 1405) (As := []) (rest := []) X (ct_X6_thrown l G S6 l2 _ h) mw_X6_thrown tw_973 ci6 rfl hk8 ⟨(by (try simp only [room_1, rm_X6_thrown, rm_L_writtenKeys, rm_X6_writtenKeys] at *); omega), (by (try simp only [room_1, rm_X6_thrown, rm_L_writtenKeys, rm_X6_writtenKeys] at *); omega)⟩ rfl rfl (Nat.le_of_ble_eq_true rfl) dL_law_1405 ⟨(by (try simp only [room_1, rm_X6_thrown, rm_L_writtenKeys, rm_X6_writtenKeys] at *); omega), (by (try simp only [room_1, rm_X6_thrown, rm_L_writtenKeys, rm_X6_writtenKeys] at *); omega)⟩ (kI (fun r10 S9 h => ?_))
  refine gd_iload (pc := 1408) X 1 dL_law_1408 rfl ?_
  refine gd_icmp_eq (pc := 1410) X 1415 dL_law_1410 (by decide) (fun hc17 => ?_) (fun hc17 => ?_)
  · have h := h.1 hc17
    refine gd_iload (pc := 1415) X 1 dL_law_1415 rfl ?_
    refine gd_if_ne (pc := 1417) X 1432 dL_law_1417 (by decide) (fun hc16 => ?_) (fun hc16 => ?_)
    · have h := h.1 hc16
      refine gd_goto (pc := 1432) X 2345 dL_law_1432 (by decide) ?_
      obtain ⟨v11, hv11⟩ : ∃ z : Int32, z = l5 + 5 := ⟨_, rfl⟩
      have h := h v11 hv11
      refine gd_iinc (pc := 2345) (v := v11) X 7 dL_law_2345 rfl (by rw [hv11]; rfl) (by decide) (E2 := [(5, .int v11), (7, .int r7), (6, .int r3), (0, .ref b), (1, rf l1), (2, rf l2), (3, rf l3), (4, rf l4)]) (by simp [rf_cat, lv1, int_cat, ref_cat] <;> decide) ?_
      refine gd_goto (pc := 2348) X 28 dL_law_2348 (by decide) ?_
      refine gd_wide (k2 := k + 36) (j2 := j + 292) (by (try simp only [room_1, rm_X6_thrown, rm_L_writtenKeys, rm_X6_writtenKeys] at *); omega) (by (try simp only [room_1, rm_X6_thrown, rm_L_writtenKeys, rm_X6_writtenKeys] at *); omega) ?_
      refine gd_sub [3, 4, 5, 6, 7, 0] rfl ?_
      exact hKH28 _ _ _ _ _ _ h
    · have h := h.2 hc16
      refine gd_aload_n (pc := 1420) X 5 dL_law_1420 rfl ?_
      refine gd_iconst (pc := 1421) X (0) dL_law_1421 (by decide) ?_
      obtain ⟨hk12, h⟩ := h
      obtain ⟨hi13, h⟩ := h
      refine gd_lald (pc := 1422) X dL_law_1422 hk12 hi13 ?_
      refine gd_iload (pc := 1423) X 0 dL_law_1423 rfl ?_
      refine gd_i2l (pc := 1425) X dL_law_1425 ?_
      refine gd_lcmp (pc := 1426) X dL_law_1426 ?_
      refine gd_if_eq (pc := 1427) X 1432 dL_law_1427 (by decide) (fun hc15 => ?_) (fun hc15 => ?_)
      · have h := h.1 hc15
        refine gd_goto (pc := 1432) X 2345 dL_law_1432 (by decide) ?_
        obtain ⟨v14, hv14⟩ : ∃ z : Int32, z = l5 + 5 := ⟨_, rfl⟩
        have h := h v14 hv14
        refine gd_iinc (pc := 2345) (v := v14) X 7 dL_law_2345 rfl (by rw [hv14]; rfl) (by decide) (E2 := [(5, .int v14), (7, .int r7), (6, .int r3), (0, .ref b), (1, rf l1), (2, rf l2), (3, rf l3), (4, rf l4)]) (by simp [rf_cat, lv1, int_cat, ref_cat] <;> decide) ?_
        refine gd_goto (pc := 2348) X 28 dL_law_2348 (by decide) ?_
        refine gd_wide (k2 := k + 36) (j2 := j + 292) (by (try simp only [room_1, rm_X6_thrown, rm_L_writtenKeys, rm_X6_writtenKeys] at *); omega) (by (try simp only [room_1, rm_X6_thrown, rm_L_writtenKeys, rm_X6_writtenKeys] at *); omega) ?_
        refine gd_sub [3, 4, 5, 6, 7, 0] rfl ?_
        exact hKH28 _ _ _ _ _ _ h
      · have h := h.2 hc15
        refine gd_iconst (pc := 1430) X (0) dL_law_1430 (by decide) ?_
        exact h.elim
  · have h := h.2 hc17
    refine gd_iconst (pc := 1413) X (0) dL_law_1413 (by decide) ?_
    exact h.elim
def b_L_law_1435 (xs : Nat → Int32) (Lx : Nat) (KH28 : MS → Nat → Nat → Nat → Nat → Int32 → Prop) (S : MS) (l1 l2 l3 l4 : Nat) (l5 : Int32) : Prop := vp_in (l5 + 1) Lx ∧ w_L_isStale S l1 (xs (ix (l5 + 1))) l3 (fun r3 S2 => vp_in (l5 + 1) Lx ∧ kT S2 l2 = 7 ∧ w_X6_isStale S2 l2 (xs (ix (l5 + 1))) (fun r7 S6 => kT S6 l2 = 7 ∧ w_X6_thrown S6 l2 (fun r10 S9 => ((r10 = r3 → ((¬ r3 = 0 → ∀ v11 : Int32, v11 = l5 + 5 → KH28 S9 l1 l2 l3 l4 v11) ∧ (r3 = 0 → kT S9 l3 = 15 ∧ vp_in 0 (kL S9 l3) ∧ ((r7 = 0 → (((lg_cmp (sL S9 l3 (ix 0)) 0) = 0 → ∀ v14 : Int32, v14 = l5 + 5 → KH28 S9 l1 l2 l3 l4 v14) ∧ (¬ (lg_cmp (sL S9 l3 (ix 0)) 0) = 0 → False))) ∧ (¬ r7 = 0 → (((lg_cmp (sL S9 l3 (ix 0)) 1) = 0 → ∀ v16 : Int32, v16 = l5 + 5 → KH28 S9 l1 l2 l3 l4 v16) ∧ (¬ (lg_cmp (sL S9 l3 (ix 0)) 1) = 0 → False))))))) ∧ (¬ r10 = r3 → False)))))
set_option maxHeartbeats 4000000 in
set_option maxRecDepth 100000 in
theorem gl_1435 {p : Program} {l : Launch} {e : Env} {s : State} {m : MethodId} {below : List Frame} {meth : Method} {c : Code} {G : GP} {b Lx : Nat} {xs : Nat → Int32} (hfl : l.stackTraces = false) (X : Cx p s m #[Value.ref b] c code 9 R_law G) (hX : va_X b Lx xs s s.heap) (hbl : b < s.heap.size) (hbA : ¬ Ab G b) (hrt : meth.sig.returnType = ret) (hlk : meth.locks = false) (hG : G.2.2 = s.heap.size) {k j : Nat} (hk : k + 36 ≤ 603072) (hj : j + 292 ≤ 7178346) (KH28 : MS → Nat → Nat → Nat → Nat → Int32 → Prop) (hKH28 : ∀ (S : MS) (l1 l2 l3 l4 : Nat) (l5 : Int32), KH28 S l1 l2 l3 l4 l5 → Gd p l e room_1 s m #[Value.ref b] below meth c 9 G (lw_Z below #[Value.ref b] s) (k + 36) (j + 292) S 28 [(0, .ref b), (1, rf l1), (2, rf l2), (3, rf l3), (4, rf l4), (5, .int l5)] []) : ∀ (S : MS) (l1 l2 l3 l4 : Nat) (l5 : Int32), b_L_law_1435 xs Lx KH28 S l1 l2 l3 l4 l5 → Gd p l e room_1 s m #[Value.ref b] below meth c 9 G (lw_Z below #[Value.ref b] s) k j S 1435 [(0, .ref b), (1, rf l1), (2, rf l2), (3, rf l3), (4, rf l4), (5, .int l5)] [] := by
  intro S l1 l2 l3 l4 l5 h
  refine gd_aload_n (pc := 1435) X 1 dL_law_1435 rfl ?_
  refine gd_aloadP (pc := 1436) X 0 dL_law_1436 rfl ?_
  refine gd_iload (pc := 1437) X 5 dL_law_1437 rfl ?_
  refine gd_iconst (pc := 1439) X (1) dL_law_1439 (by decide) ?_
  refine gd_iadd (pc := 1440) X dL_law_1440 ?_
  obtain ⟨hi1, h⟩ := h
  refine gd_sld (pc := 1441) X hX hbl hbA dL_law_1441 hi1 ?_
  refine gd_aload_n (pc := 1442) X 3 dL_law_1442 rfl ?_
  refine gd_callW (n := 3) (pc := 1443) (As := [rf l1, .int (xs (ix (l5 + 1))), rf l3]) (rest := []) X (ct_L_isStale l hfl G S l1 (xs (ix (l5 + 1))) l3 _ h) tw_765 tw_0 tw_766 ⟨by decide, by decide, by decide +kernel⟩ tw_764 ⟨(by (try simp only [room_1, rm_L_isStale] at *); omega), (by (try simp only [room_1, rm_L_isStale] at *); omega)⟩ rfl rfl (Nat.le_of_ble_eq_true rfl) dL_law_1443 ⟨(by (try simp only [room_1, rm_L_isStale] at *); omega), (by (try simp only [room_1, rm_L_isStale] at *); omega)⟩ (kI (fun r3 S2 h => ?_))
  refine gd_istore (pc := 1446) X dL_law_1446 (by decide) (E2 := [(6, .int r3), (0, .ref b), (1, rf l1), (2, rf l2), (3, rf l3), (4, rf l4), (5, .int l5)]) rfl ?_
  refine gd_aload_n (pc := 1448) X 3 dL_law_1448 rfl ?_
  refine gd_aloadP (pc := 1449) X 1 dL_law_1449 rfl ?_
  refine gd_iload (pc := 1450) X 6 dL_law_1450 rfl ?_
  refine gd_iconst (pc := 1452) X (1) dL_law_1452 (by decide) ?_
  refine gd_iadd (pc := 1453) X dL_law_1453 ?_
  obtain ⟨hi4, h⟩ := h
  refine gd_sld (pc := 1454) X hX hbl hbA dL_law_1454 hi4 ?_
  obtain ⟨hk5, h⟩ := h
  refine gd_callV (pc := 1455) (As := [.int (xs (ix (l5 + 1)))]) (rest := []) X (ct_X6_isStale l G S2 l2 (xs (ix (l5 + 1))) _ h) mw_X6_isStale tw_1179 ci6 rfl hk5 ⟨(by (try simp only [room_1, rm_X6_isStale, rm_L_isStale] at *); omega), (by (try simp only [room_1, rm_X6_isStale, rm_L_isStale] at *); omega)⟩ rfl rfl (Nat.le_of_ble_eq_true rfl) dL_law_1455 ⟨(by (try simp only [room_1, rm_X6_isStale, rm_L_isStale] at *); omega), (by (try simp only [room_1, rm_X6_isStale, rm_L_isStale] at *); omega)⟩ (kI (fun r7 S6 h => ?_))
  refine gd_istore (pc := 1458) X dL_law_1458 (by decide) (E2 := [(7, .int r7), (6, .int r3), (0, .ref b), (1, rf l1), (2, rf l2), (3, rf l3), (4, rf l4), (5, .int l5)]) rfl ?_
  refine gd_aload_n (pc := 1460) X 4 dL_law_1460 rfl ?_
  obtain ⟨hk8, h⟩ := h
  refine gd_callV (pc := 1461) (As := []) (rest := []) X (ct_X6_thrown l G S6 l2 _ h) mw_X6_thrown tw_973 ci6 rfl hk8 ⟨(by (try simp only [room_1, rm_X6_thrown, rm_L_isStale, rm_X6_isStale] at *); omega), (by (try simp only [room_1, rm_X6_thrown, rm_L_isStale, rm_X6_isStale] at *); omega)⟩ rfl rfl (Nat.le_of_ble_eq_true rfl) dL_law_1461 ⟨(by (try simp only [room_1, rm_X6_thrown, rm_L_isStale, rm_X6_isStale] at *); omega), (by (try simp only [room_1, rm_X6_thrown, rm_L_isStale, rm_X6_isStale] at *); omega)⟩ (kI (fun r10 S9 h => ?_))
  refine gd_iload (pc := 1464) X 1 dL_law_1464 rfl ?_
  refine gd_icmp_eq (pc := 1466) X 1471 dL_law_1466 (by decide) (fun hc20 => ?_) (fun hc20 => ?_)
  · have h := h.1 hc20
    refine gd_iload (pc := 1471) X 1 dL_law_1471 rfl ?_
    refine gd_if_ne (pc := 1473) X 1495 dL_law_1473 (by decide) (fun hc19 => ?_) (fun hc19 => ?_)
    · have h := h.1 hc19
      refine gd_goto (pc := 1495) X 2345 dL_law_1495 (by decide) ?_
      obtain ⟨v11, hv11⟩ : ∃ z : Int32, z = l5 + 5 := ⟨_, rfl⟩
      have h := h v11 hv11
      refine gd_iinc (pc := 2345) (v := v11) X 7 dL_law_2345 rfl (by rw [hv11]; rfl) (by decide) (E2 := [(5, .int v11), (7, .int r7), (6, .int r3), (0, .ref b), (1, rf l1), (2, rf l2), (3, rf l3), (4, rf l4)]) (by simp [rf_cat, lv1, int_cat, ref_cat] <;> decide) ?_
      refine gd_goto (pc := 2348) X 28 dL_law_2348 (by decide) ?_
      refine gd_wide (k2 := k + 36) (j2 := j + 292) (by (try simp only [room_1, rm_X6_thrown, rm_L_isStale, rm_X6_isStale] at *); omega) (by (try simp only [room_1, rm_X6_thrown, rm_L_isStale, rm_X6_isStale] at *); omega) ?_
      refine gd_sub [3, 4, 5, 6, 7, 0] rfl ?_
      exact hKH28 _ _ _ _ _ _ h
    · have h := h.2 hc19
      refine gd_aload_n (pc := 1476) X 5 dL_law_1476 rfl ?_
      refine gd_iconst (pc := 1477) X (0) dL_law_1477 (by decide) ?_
      obtain ⟨hk12, h⟩ := h
      obtain ⟨hi13, h⟩ := h
      refine gd_lald (pc := 1478) X dL_law_1478 hk12 hi13 ?_
      refine gd_iload (pc := 1479) X 0 dL_law_1479 rfl ?_
      refine gd_if_eq (pc := 1481) X 1488 dL_law_1481 (by decide) (fun hc18 => ?_) (fun hc18 => ?_)
      · have h := h.1 hc18
        refine gd_lconst (pc := 1488) X 0 dL_law_1488 (by decide) ?_
        refine gd_lcmp (pc := 1489) X dL_law_1489 ?_
        refine gd_if_eq (pc := 1490) X 1495 dL_law_1490 (by decide) (fun hc15 => ?_) (fun hc15 => ?_)
        · have h := h.1 hc15
          refine gd_goto (pc := 1495) X 2345 dL_law_1495 (by decide) ?_
          obtain ⟨v14, hv14⟩ : ∃ z : Int32, z = l5 + 5 := ⟨_, rfl⟩
          have h := h v14 hv14
          refine gd_iinc (pc := 2345) (v := v14) X 7 dL_law_2345 rfl (by rw [hv14]; rfl) (by decide) (E2 := [(5, .int v14), (7, .int r7), (6, .int r3), (0, .ref b), (1, rf l1), (2, rf l2), (3, rf l3), (4, rf l4)]) (by simp [rf_cat, lv1, int_cat, ref_cat] <;> decide) ?_
          refine gd_goto (pc := 2348) X 28 dL_law_2348 (by decide) ?_
          refine gd_wide (k2 := k + 36) (j2 := j + 292) (by (try simp only [room_1, rm_X6_thrown, rm_L_isStale, rm_X6_isStale] at *); omega) (by (try simp only [room_1, rm_X6_thrown, rm_L_isStale, rm_X6_isStale] at *); omega) ?_
          refine gd_sub [3, 4, 5, 6, 7, 0] rfl ?_
          exact hKH28 _ _ _ _ _ _ h
        · have h := h.2 hc15
          refine gd_iconst (pc := 1493) X (0) dL_law_1493 (by decide) ?_
          exact h.elim
      · have h := h.2 hc18
        refine gd_lconst (pc := 1484) X 1 dL_law_1484 (by decide) ?_
        refine gd_goto (pc := 1485) X 1489 dL_law_1485 (by decide) ?_
        refine gd_lcmp (pc := 1489) X dL_law_1489 ?_
        refine gd_if_eq (pc := 1490) X 1495 dL_law_1490 (by decide) (fun hc17 => ?_) (fun hc17 => ?_)
        · have h := h.1 hc17
          refine gd_goto (pc := 1495) X 2345 dL_law_1495 (by decide) ?_
          obtain ⟨v16, hv16⟩ : ∃ z : Int32, z = l5 + 5 := ⟨_, rfl⟩
          have h := h v16 hv16
          refine gd_iinc (pc := 2345) (v := v16) X 7 dL_law_2345 rfl (by rw [hv16]; rfl) (by decide) (E2 := [(5, .int v16), (7, .int r7), (6, .int r3), (0, .ref b), (1, rf l1), (2, rf l2), (3, rf l3), (4, rf l4)]) (by simp [rf_cat, lv1, int_cat, ref_cat] <;> decide) ?_
          refine gd_goto (pc := 2348) X 28 dL_law_2348 (by decide) ?_
          refine gd_wide (k2 := k + 36) (j2 := j + 292) (by (try simp only [room_1, rm_X6_thrown, rm_L_isStale, rm_X6_isStale] at *); omega) (by (try simp only [room_1, rm_X6_thrown, rm_L_isStale, rm_X6_isStale] at *); omega) ?_
          refine gd_sub [3, 4, 5, 6, 7, 0] rfl ?_
          exact hKH28 _ _ _ _ _ _ h
        · have h := h.2 hc17
          refine gd_iconst (pc := 1493) X (0) dL_law_1493 (by decide) ?_
          exact h.elim
  · have h := h.2 hc20
    refine gd_iconst (pc := 1469) X (0) dL_law_1469 (by decide) ?_
    exact h.elim
def b_L_law_1498 (xs : Nat → Int32) (Lx : Nat) (KH28 : MS → Nat → Nat → Nat → Nat → Int32 → Prop) (S : MS) (l1 l2 l3 l4 : Nat) (l5 : Int32) : Prop := vp_in (l5 + 1) Lx ∧ w_L_rivals S l1 (xs (ix (l5 + 1))) l3 (fun r3 S2 => vp_in (l5 + 1) Lx ∧ kT S2 l2 = 7 ∧ w_X6_rivals S2 l2 (xs (ix (l5 + 1))) (fun r7 S6 => kT S6 l2 = 7 ∧ w_X6_thrown S6 l2 (fun r10 S9 => ((r10 = r3 → ((¬ r3 = 0 → ∀ v11 : Int32, v11 = l5 + 5 → KH28 S9 l1 l2 l3 l4 v11) ∧ (r3 = 0 → kT S9 l3 = 15 ∧ vp_in 0 (kL S9 l3) ∧ (((lg_cmp (sL S9 l3 (ix 0)) r7.toInt64) = 0 → ∀ v14 : Int32, v14 = l5 + 5 → KH28 S9 l1 l2 l3 l4 v14) ∧ (¬ (lg_cmp (sL S9 l3 (ix 0)) r7.toInt64) = 0 → False))))) ∧ (¬ r10 = r3 → False)))))
set_option maxHeartbeats 4000000 in
set_option maxRecDepth 100000 in
theorem gl_1498 {p : Program} {l : Launch} {e : Env} {s : State} {m : MethodId} {below : List Frame} {meth : Method} {c : Code} {G : GP} {b Lx : Nat} {xs : Nat → Int32} (hfl : l.stackTraces = false) (X : Cx p s m #[Value.ref b] c code 9 R_law G) (hX : va_X b Lx xs s s.heap) (hbl : b < s.heap.size) (hbA : ¬ Ab G b) (hrt : meth.sig.returnType = ret) (hlk : meth.locks = false) (hG : G.2.2 = s.heap.size) {k j : Nat} (hk : k + 36 ≤ 603072) (hj : j + 292 ≤ 7178346) (KH28 : MS → Nat → Nat → Nat → Nat → Int32 → Prop) (hKH28 : ∀ (S : MS) (l1 l2 l3 l4 : Nat) (l5 : Int32), KH28 S l1 l2 l3 l4 l5 → Gd p l e room_1 s m #[Value.ref b] below meth c 9 G (lw_Z below #[Value.ref b] s) (k + 36) (j + 292) S 28 [(0, .ref b), (1, rf l1), (2, rf l2), (3, rf l3), (4, rf l4), (5, .int l5)] []) : ∀ (S : MS) (l1 l2 l3 l4 : Nat) (l5 : Int32), b_L_law_1498 xs Lx KH28 S l1 l2 l3 l4 l5 → Gd p l e room_1 s m #[Value.ref b] below meth c 9 G (lw_Z below #[Value.ref b] s) k j S 1498 [(0, .ref b), (1, rf l1), (2, rf l2), (3, rf l3), (4, rf l4), (5, .int l5)] [] := by
  intro S l1 l2 l3 l4 l5 h
  refine gd_aload_n (pc := 1498) X 1 dL_law_1498 rfl ?_
  refine gd_aloadP (pc := 1499) X 0 dL_law_1499 rfl ?_
  refine gd_iload (pc := 1500) X 5 dL_law_1500 rfl ?_
  refine gd_iconst (pc := 1502) X (1) dL_law_1502 (by decide) ?_
  refine gd_iadd (pc := 1503) X dL_law_1503 ?_
  obtain ⟨hi1, h⟩ := h
  refine gd_sld (pc := 1504) X hX hbl hbA dL_law_1504 hi1 ?_
  refine gd_aload_n (pc := 1505) X 3 dL_law_1505 rfl ?_
  refine gd_callW (n := 3) (pc := 1506) (As := [rf l1, .int (xs (ix (l5 + 1))), rf l3]) (rest := []) X (ct_L_rivals l hfl G S l1 (xs (ix (l5 + 1))) l3 _ h) tw_772 tw_0 tw_773 ⟨by decide, by decide, by decide +kernel⟩ tw_771 ⟨(by (try simp only [room_1, rm_L_rivals] at *); omega), (by (try simp only [room_1, rm_L_rivals] at *); omega)⟩ rfl rfl (Nat.le_of_ble_eq_true rfl) dL_law_1506 ⟨(by (try simp only [room_1, rm_L_rivals] at *); omega), (by (try simp only [room_1, rm_L_rivals] at *); omega)⟩ (kI (fun r3 S2 h => ?_))
  refine gd_istore (pc := 1509) X dL_law_1509 (by decide) (E2 := [(6, .int r3), (0, .ref b), (1, rf l1), (2, rf l2), (3, rf l3), (4, rf l4), (5, .int l5)]) rfl ?_
  refine gd_aload_n (pc := 1511) X 3 dL_law_1511 rfl ?_
  refine gd_aloadP (pc := 1512) X 1 dL_law_1512 rfl ?_
  refine gd_iload (pc := 1513) X 6 dL_law_1513 rfl ?_
  refine gd_iconst (pc := 1515) X (1) dL_law_1515 (by decide) ?_
  refine gd_iadd (pc := 1516) X dL_law_1516 ?_
  obtain ⟨hi4, h⟩ := h
  refine gd_sld (pc := 1517) X hX hbl hbA dL_law_1517 hi4 ?_
  obtain ⟨hk5, h⟩ := h
  refine gd_callV (pc := 1518) (As := [.int (xs (ix (l5 + 1)))]) (rest := []) X (ct_X6_rivals l G S2 l2 (xs (ix (l5 + 1))) _ h) mw_X6_rivals tw_1203 ci6 rfl hk5 ⟨(by (try simp only [room_1, rm_X6_rivals, rm_L_rivals] at *); omega), (by (try simp only [room_1, rm_X6_rivals, rm_L_rivals] at *); omega)⟩ rfl rfl (Nat.le_of_ble_eq_true rfl) dL_law_1518 ⟨(by (try simp only [room_1, rm_X6_rivals, rm_L_rivals] at *); omega), (by (try simp only [room_1, rm_X6_rivals, rm_L_rivals] at *); omega)⟩ (kI (fun r7 S6 h => ?_))
  refine gd_istore (pc := 1521) X dL_law_1521 (by decide) (E2 := [(7, .int r7), (6, .int r3), (0, .ref b), (1, rf l1), (2, rf l2), (3, rf l3), (4, rf l4), (5, .int l5)]) rfl ?_
  refine gd_aload_n (pc := 1523) X 4 dL_law_1523 rfl ?_
  obtain ⟨hk8, h⟩ := h
  refine gd_callV (pc := 1524) (As := []) (rest := []) X (ct_X6_thrown l G S6 l2 _ h) mw_X6_thrown tw_973 ci6 rfl hk8 ⟨(by (try simp only [room_1, rm_X6_thrown, rm_L_rivals, rm_X6_rivals] at *); omega), (by (try simp only [room_1, rm_X6_thrown, rm_L_rivals, rm_X6_rivals] at *); omega)⟩ rfl rfl (Nat.le_of_ble_eq_true rfl) dL_law_1524 ⟨(by (try simp only [room_1, rm_X6_thrown, rm_L_rivals, rm_X6_rivals] at *); omega), (by (try simp only [room_1, rm_X6_thrown, rm_L_rivals, rm_X6_rivals] at *); omega)⟩ (kI (fun r10 S9 h => ?_))
  refine gd_iload (pc := 1527) X 1 dL_law_1527 rfl ?_
  refine gd_icmp_eq (pc := 1529) X 1534 dL_law_1529 (by decide) (fun hc17 => ?_) (fun hc17 => ?_)
  · have h := h.1 hc17
    refine gd_iload (pc := 1534) X 1 dL_law_1534 rfl ?_
    refine gd_if_ne (pc := 1536) X 1551 dL_law_1536 (by decide) (fun hc16 => ?_) (fun hc16 => ?_)
    · have h := h.1 hc16
      refine gd_goto (pc := 1551) X 2345 dL_law_1551 (by decide) ?_
      obtain ⟨v11, hv11⟩ : ∃ z : Int32, z = l5 + 5 := ⟨_, rfl⟩
      have h := h v11 hv11
      refine gd_iinc (pc := 2345) (v := v11) X 7 dL_law_2345 rfl (by rw [hv11]; rfl) (by decide) (E2 := [(5, .int v11), (7, .int r7), (6, .int r3), (0, .ref b), (1, rf l1), (2, rf l2), (3, rf l3), (4, rf l4)]) (by simp [rf_cat, lv1, int_cat, ref_cat] <;> decide) ?_
      refine gd_goto (pc := 2348) X 28 dL_law_2348 (by decide) ?_
      refine gd_wide (k2 := k + 36) (j2 := j + 292) (by (try simp only [room_1, rm_X6_thrown, rm_L_rivals, rm_X6_rivals] at *); omega) (by (try simp only [room_1, rm_X6_thrown, rm_L_rivals, rm_X6_rivals] at *); omega) ?_
      refine gd_sub [3, 4, 5, 6, 7, 0] rfl ?_
      exact hKH28 _ _ _ _ _ _ h
    · have h := h.2 hc16
      refine gd_aload_n (pc := 1539) X 5 dL_law_1539 rfl ?_
      refine gd_iconst (pc := 1540) X (0) dL_law_1540 (by decide) ?_
      obtain ⟨hk12, h⟩ := h
      obtain ⟨hi13, h⟩ := h
      refine gd_lald (pc := 1541) X dL_law_1541 hk12 hi13 ?_
      refine gd_iload (pc := 1542) X 0 dL_law_1542 rfl ?_
      refine gd_i2l (pc := 1544) X dL_law_1544 ?_
      refine gd_lcmp (pc := 1545) X dL_law_1545 ?_
      refine gd_if_eq (pc := 1546) X 1551 dL_law_1546 (by decide) (fun hc15 => ?_) (fun hc15 => ?_)
      · have h := h.1 hc15
        refine gd_goto (pc := 1551) X 2345 dL_law_1551 (by decide) ?_
        obtain ⟨v14, hv14⟩ : ∃ z : Int32, z = l5 + 5 := ⟨_, rfl⟩
        have h := h v14 hv14
        refine gd_iinc (pc := 2345) (v := v14) X 7 dL_law_2345 rfl (by rw [hv14]; rfl) (by decide) (E2 := [(5, .int v14), (7, .int r7), (6, .int r3), (0, .ref b), (1, rf l1), (2, rf l2), (3, rf l3), (4, rf l4)]) (by simp [rf_cat, lv1, int_cat, ref_cat] <;> decide) ?_
        refine gd_goto (pc := 2348) X 28 dL_law_2348 (by decide) ?_
        refine gd_wide (k2 := k + 36) (j2 := j + 292) (by (try simp only [room_1, rm_X6_thrown, rm_L_rivals, rm_X6_rivals] at *); omega) (by (try simp only [room_1, rm_X6_thrown, rm_L_rivals, rm_X6_rivals] at *); omega) ?_
        refine gd_sub [3, 4, 5, 6, 7, 0] rfl ?_
        exact hKH28 _ _ _ _ _ _ h
      · have h := h.2 hc15
        refine gd_iconst (pc := 1549) X (0) dL_law_1549 (by decide) ?_
        exact h.elim
  · have h := h.2 hc17
    refine gd_iconst (pc := 1532) X (0) dL_law_1532 (by decide) ?_
    exact h.elim
def b_L_law_1554 (xs : Nat → Int32) (Lx : Nat) (KH28 : MS → Nat → Nat → Nat → Nat → Int32 → Prop) (S : MS) (l1 l2 l3 l4 : Nat) (l5 : Int32) : Prop := vp_in (l5 + 1) Lx ∧ w_L_value S l1 (xs (ix (l5 + 1))) l3 (fun r3 S2 => vp_in (l5 + 1) Lx ∧ kT S2 l2 = 7 ∧ w_X6_value S2 l2 (xs (ix (l5 + 1))) (fun r7 S6 => kT S6 l2 = 7 ∧ w_X6_thrown S6 l2 (fun r10 S9 => ((r10 = r3 → ((¬ r3 = 0 → ∀ v11 : Int32, v11 = l5 + 5 → KH28 S9 l1 l2 l3 l4 v11) ∧ (r3 = 0 → kT S9 l3 = 15 ∧ vp_in 0 (kL S9 l3) ∧ (((lg_cmp (sL S9 l3 (ix 0)) r7.toInt64) = 0 → ∀ v14 : Int32, v14 = l5 + 5 → KH28 S9 l1 l2 l3 l4 v14) ∧ (¬ (lg_cmp (sL S9 l3 (ix 0)) r7.toInt64) = 0 → False))))) ∧ (¬ r10 = r3 → False)))))
set_option maxHeartbeats 4000000 in
set_option maxRecDepth 100000 in
theorem gl_1554 {p : Program} {l : Launch} {e : Env} {s : State} {m : MethodId} {below : List Frame} {meth : Method} {c : Code} {G : GP} {b Lx : Nat} {xs : Nat → Int32} (hfl : l.stackTraces = false) (X : Cx p s m #[Value.ref b] c code 9 R_law G) (hX : va_X b Lx xs s s.heap) (hbl : b < s.heap.size) (hbA : ¬ Ab G b) (hrt : meth.sig.returnType = ret) (hlk : meth.locks = false) (hG : G.2.2 = s.heap.size) {k j : Nat} (hk : k + 36 ≤ 603072) (hj : j + 292 ≤ 7178346) (KH28 : MS → Nat → Nat → Nat → Nat → Int32 → Prop) (hKH28 : ∀ (S : MS) (l1 l2 l3 l4 : Nat) (l5 : Int32), KH28 S l1 l2 l3 l4 l5 → Gd p l e room_1 s m #[Value.ref b] below meth c 9 G (lw_Z below #[Value.ref b] s) (k + 36) (j + 292) S 28 [(0, .ref b), (1, rf l1), (2, rf l2), (3, rf l3), (4, rf l4), (5, .int l5)] []) : ∀ (S : MS) (l1 l2 l3 l4 : Nat) (l5 : Int32), b_L_law_1554 xs Lx KH28 S l1 l2 l3 l4 l5 → Gd p l e room_1 s m #[Value.ref b] below meth c 9 G (lw_Z below #[Value.ref b] s) k j S 1554 [(0, .ref b), (1, rf l1), (2, rf l2), (3, rf l3), (4, rf l4), (5, .int l5)] [] := by
  intro S l1 l2 l3 l4 l5 h
  refine gd_aload_n (pc := 1554) X 1 dL_law_1554 rfl ?_
  refine gd_aloadP (pc := 1555) X 0 dL_law_1555 rfl ?_
  refine gd_iload (pc := 1556) X 5 dL_law_1556 rfl ?_
  refine gd_iconst (pc := 1558) X (1) dL_law_1558 (by decide) ?_
  refine gd_iadd (pc := 1559) X dL_law_1559 ?_
  obtain ⟨hi1, h⟩ := h
  refine gd_sld (pc := 1560) X hX hbl hbA dL_law_1560 hi1 ?_
  refine gd_aload_n (pc := 1561) X 3 dL_law_1561 rfl ?_
  refine gd_callW (n := 3) (pc := 1562) (As := [rf l1, .int (xs (ix (l5 + 1))), rf l3]) (rest := []) X (ct_L_value l hfl G S l1 (xs (ix (l5 + 1))) l3 _ h) tw_783 tw_0 tw_784 ⟨by decide, by decide, by decide +kernel⟩ tw_782 ⟨(by (try simp only [room_1, rm_L_value] at *); omega), (by (try simp only [room_1, rm_L_value] at *); omega)⟩ rfl rfl (Nat.le_of_ble_eq_true rfl) dL_law_1562 ⟨(by (try simp only [room_1, rm_L_value] at *); omega), (by (try simp only [room_1, rm_L_value] at *); omega)⟩ (kI (fun r3 S2 h => ?_))
  refine gd_istore (pc := 1565) X dL_law_1565 (by decide) (E2 := [(6, .int r3), (0, .ref b), (1, rf l1), (2, rf l2), (3, rf l3), (4, rf l4), (5, .int l5)]) rfl ?_
  refine gd_aload_n (pc := 1567) X 3 dL_law_1567 rfl ?_
  refine gd_aloadP (pc := 1568) X 1 dL_law_1568 rfl ?_
  refine gd_iload (pc := 1569) X 6 dL_law_1569 rfl ?_
  refine gd_iconst (pc := 1571) X (1) dL_law_1571 (by decide) ?_
  refine gd_iadd (pc := 1572) X dL_law_1572 ?_
  obtain ⟨hi4, h⟩ := h
  refine gd_sld (pc := 1573) X hX hbl hbA dL_law_1573 hi4 ?_
  obtain ⟨hk5, h⟩ := h
  refine gd_callV (pc := 1574) (As := [.int (xs (ix (l5 + 1)))]) (rest := []) X (ct_X6_value l G S2 l2 (xs (ix (l5 + 1))) _ h) mw_X6_value tw_1295 ci6 rfl hk5 ⟨(by (try simp only [room_1, rm_X6_value, rm_L_value] at *); omega), (by (try simp only [room_1, rm_X6_value, rm_L_value] at *); omega)⟩ rfl rfl (Nat.le_of_ble_eq_true rfl) dL_law_1574 ⟨(by (try simp only [room_1, rm_X6_value, rm_L_value] at *); omega), (by (try simp only [room_1, rm_X6_value, rm_L_value] at *); omega)⟩ (kI (fun r7 S6 h => ?_))
  refine gd_istore (pc := 1577) X dL_law_1577 (by decide) (E2 := [(7, .int r7), (6, .int r3), (0, .ref b), (1, rf l1), (2, rf l2), (3, rf l3), (4, rf l4), (5, .int l5)]) rfl ?_
  refine gd_aload_n (pc := 1579) X 4 dL_law_1579 rfl ?_
  obtain ⟨hk8, h⟩ := h
  refine gd_callV (pc := 1580) (As := []) (rest := []) X (ct_X6_thrown l G S6 l2 _ h) mw_X6_thrown tw_973 ci6 rfl hk8 ⟨(by (try simp only [room_1, rm_X6_thrown, rm_L_value, rm_X6_value] at *); omega), (by (try simp only [room_1, rm_X6_thrown, rm_L_value, rm_X6_value] at *); omega)⟩ rfl rfl (Nat.le_of_ble_eq_true rfl) dL_law_1580 ⟨(by (try simp only [room_1, rm_X6_thrown, rm_L_value, rm_X6_value] at *); omega), (by (try simp only [room_1, rm_X6_thrown, rm_L_value, rm_X6_value] at *); omega)⟩ (kI (fun r10 S9 h => ?_))
  refine gd_iload (pc := 1583) X 1 dL_law_1583 rfl ?_
  refine gd_icmp_eq (pc := 1585) X 1590 dL_law_1585 (by decide) (fun hc17 => ?_) (fun hc17 => ?_)
  · have h := h.1 hc17
    refine gd_iload (pc := 1590) X 1 dL_law_1590 rfl ?_
    refine gd_if_ne (pc := 1592) X 1607 dL_law_1592 (by decide) (fun hc16 => ?_) (fun hc16 => ?_)
    · have h := h.1 hc16
      refine gd_goto (pc := 1607) X 2345 dL_law_1607 (by decide) ?_
      obtain ⟨v11, hv11⟩ : ∃ z : Int32, z = l5 + 5 := ⟨_, rfl⟩
      have h := h v11 hv11
      refine gd_iinc (pc := 2345) (v := v11) X 7 dL_law_2345 rfl (by rw [hv11]; rfl) (by decide) (E2 := [(5, .int v11), (7, .int r7), (6, .int r3), (0, .ref b), (1, rf l1), (2, rf l2), (3, rf l3), (4, rf l4)]) (by simp [rf_cat, lv1, int_cat, ref_cat] <;> decide) ?_
      refine gd_goto (pc := 2348) X 28 dL_law_2348 (by decide) ?_
      refine gd_wide (k2 := k + 36) (j2 := j + 292) (by (try simp only [room_1, rm_X6_thrown, rm_L_value, rm_X6_value] at *); omega) (by (try simp only [room_1, rm_X6_thrown, rm_L_value, rm_X6_value] at *); omega) ?_
      refine gd_sub [3, 4, 5, 6, 7, 0] rfl ?_
      exact hKH28 _ _ _ _ _ _ h
    · have h := h.2 hc16
      refine gd_aload_n (pc := 1595) X 5 dL_law_1595 rfl ?_
      refine gd_iconst (pc := 1596) X (0) dL_law_1596 (by decide) ?_
      obtain ⟨hk12, h⟩ := h
      obtain ⟨hi13, h⟩ := h
      refine gd_lald (pc := 1597) X dL_law_1597 hk12 hi13 ?_
      refine gd_iload (pc := 1598) X 0 dL_law_1598 rfl ?_
      refine gd_i2l (pc := 1600) X dL_law_1600 ?_
      refine gd_lcmp (pc := 1601) X dL_law_1601 ?_
      refine gd_if_eq (pc := 1602) X 1607 dL_law_1602 (by decide) (fun hc15 => ?_) (fun hc15 => ?_)
      · have h := h.1 hc15
        refine gd_goto (pc := 1607) X 2345 dL_law_1607 (by decide) ?_
        obtain ⟨v14, hv14⟩ : ∃ z : Int32, z = l5 + 5 := ⟨_, rfl⟩
        have h := h v14 hv14
        refine gd_iinc (pc := 2345) (v := v14) X 7 dL_law_2345 rfl (by rw [hv14]; rfl) (by decide) (E2 := [(5, .int v14), (7, .int r7), (6, .int r3), (0, .ref b), (1, rf l1), (2, rf l2), (3, rf l3), (4, rf l4)]) (by simp [rf_cat, lv1, int_cat, ref_cat] <;> decide) ?_
        refine gd_goto (pc := 2348) X 28 dL_law_2348 (by decide) ?_
        refine gd_wide (k2 := k + 36) (j2 := j + 292) (by (try simp only [room_1, rm_X6_thrown, rm_L_value, rm_X6_value] at *); omega) (by (try simp only [room_1, rm_X6_thrown, rm_L_value, rm_X6_value] at *); omega) ?_
        refine gd_sub [3, 4, 5, 6, 7, 0] rfl ?_
        exact hKH28 _ _ _ _ _ _ h
      · have h := h.2 hc15
        refine gd_iconst (pc := 1605) X (0) dL_law_1605 (by decide) ?_
        exact h.elim
  · have h := h.2 hc17
    refine gd_iconst (pc := 1588) X (0) dL_law_1588 (by decide) ?_
    exact h.elim
def b_L_law_1610 (xs : Nat → Int32) (Lx : Nat) (KH28 : MS → Nat → Nat → Nat → Nat → Int32 → Prop) (S : MS) (l1 l2 l3 l4 : Nat) (l5 : Int32) : Prop := vp_in (l5 + 1) Lx ∧ vp_in (l5 + 2) Lx ∧ w_L_valueAt S l1 (xs (ix (l5 + 1))) (xs (ix (l5 + 2))) l3 (fun r4 S3 => vp_in (l5 + 1) Lx ∧ vp_in (l5 + 2) Lx ∧ kT S3 l2 = 7 ∧ w_X6_valueAt S3 l2 (xs (ix (l5 + 1))) (xs (ix (l5 + 2))) (fun r9 S8 => kT S8 l2 = 7 ∧ w_X6_thrown S8 l2 (fun r12 S11 => ((r12 = r4 → ((¬ r4 = 0 → ∀ v13 : Int32, v13 = l5 + 5 → KH28 S11 l1 l2 l3 l4 v13) ∧ (r4 = 0 → kT S11 l3 = 15 ∧ vp_in 0 (kL S11 l3) ∧ (((lg_cmp (sL S11 l3 (ix 0)) r9.toInt64) = 0 → ∀ v16 : Int32, v16 = l5 + 5 → KH28 S11 l1 l2 l3 l4 v16) ∧ (¬ (lg_cmp (sL S11 l3 (ix 0)) r9.toInt64) = 0 → False))))) ∧ (¬ r12 = r4 → False)))))
set_option maxHeartbeats 4000000 in
set_option maxRecDepth 100000 in
theorem gl_1610 {p : Program} {l : Launch} {e : Env} {s : State} {m : MethodId} {below : List Frame} {meth : Method} {c : Code} {G : GP} {b Lx : Nat} {xs : Nat → Int32} (hfl : l.stackTraces = false) (X : Cx p s m #[Value.ref b] c code 9 R_law G) (hX : va_X b Lx xs s s.heap) (hbl : b < s.heap.size) (hbA : ¬ Ab G b) (hrt : meth.sig.returnType = ret) (hlk : meth.locks = false) (hG : G.2.2 = s.heap.size) {k j : Nat} (hk : k + 36 ≤ 603072) (hj : j + 292 ≤ 7178346) (KH28 : MS → Nat → Nat → Nat → Nat → Int32 → Prop) (hKH28 : ∀ (S : MS) (l1 l2 l3 l4 : Nat) (l5 : Int32), KH28 S l1 l2 l3 l4 l5 → Gd p l e room_1 s m #[Value.ref b] below meth c 9 G (lw_Z below #[Value.ref b] s) (k + 36) (j + 292) S 28 [(0, .ref b), (1, rf l1), (2, rf l2), (3, rf l3), (4, rf l4), (5, .int l5)] []) : ∀ (S : MS) (l1 l2 l3 l4 : Nat) (l5 : Int32), b_L_law_1610 xs Lx KH28 S l1 l2 l3 l4 l5 → Gd p l e room_1 s m #[Value.ref b] below meth c 9 G (lw_Z below #[Value.ref b] s) k j S 1610 [(0, .ref b), (1, rf l1), (2, rf l2), (3, rf l3), (4, rf l4), (5, .int l5)] [] := by
  intro S l1 l2 l3 l4 l5 h
  refine gd_aload_n (pc := 1610) X 1 dL_law_1610 rfl ?_
  refine gd_aloadP (pc := 1611) X 0 dL_law_1611 rfl ?_
  refine gd_iload (pc := 1612) X 5 dL_law_1612 rfl ?_
  refine gd_iconst (pc := 1614) X (1) dL_law_1614 (by decide) ?_
  refine gd_iadd (pc := 1615) X dL_law_1615 ?_
  obtain ⟨hi1, h⟩ := h
  refine gd_sld (pc := 1616) X hX hbl hbA dL_law_1616 hi1 ?_
  refine gd_aloadP (pc := 1617) X 0 dL_law_1617 rfl ?_
  refine gd_iload (pc := 1618) X 5 dL_law_1618 rfl ?_
  refine gd_iconst (pc := 1620) X (2) dL_law_1620 (by decide) ?_
  refine gd_iadd (pc := 1621) X dL_law_1621 ?_
  obtain ⟨hi2, h⟩ := h
  refine gd_sld (pc := 1622) X hX hbl hbA dL_law_1622 hi2 ?_
  refine gd_aload_n (pc := 1623) X 3 dL_law_1623 rfl ?_
  refine gd_callW (n := 4) (pc := 1624) (As := [rf l1, .int (xs (ix (l5 + 1))), .int (xs (ix (l5 + 2))), rf l3]) (rest := []) X (ct_L_valueAt l hfl G S l1 (xs (ix (l5 + 1))) (xs (ix (l5 + 2))) l3 _ h) tw_795 tw_0 tw_796 ⟨by decide, by decide, by decide +kernel⟩ tw_794 ⟨(by (try simp only [room_1, rm_L_valueAt] at *); omega), (by (try simp only [room_1, rm_L_valueAt] at *); omega)⟩ rfl rfl (Nat.le_of_ble_eq_true rfl) dL_law_1624 ⟨(by (try simp only [room_1, rm_L_valueAt] at *); omega), (by (try simp only [room_1, rm_L_valueAt] at *); omega)⟩ (kI (fun r4 S3 h => ?_))
  refine gd_istore (pc := 1627) X dL_law_1627 (by decide) (E2 := [(6, .int r4), (0, .ref b), (1, rf l1), (2, rf l2), (3, rf l3), (4, rf l4), (5, .int l5)]) rfl ?_
  refine gd_aload_n (pc := 1629) X 3 dL_law_1629 rfl ?_
  refine gd_aloadP (pc := 1630) X 1 dL_law_1630 rfl ?_
  refine gd_iload (pc := 1631) X 6 dL_law_1631 rfl ?_
  refine gd_iconst (pc := 1633) X (1) dL_law_1633 (by decide) ?_
  refine gd_iadd (pc := 1634) X dL_law_1634 ?_
  obtain ⟨hi5, h⟩ := h
  refine gd_sld (pc := 1635) X hX hbl hbA dL_law_1635 hi5 ?_
  refine gd_aloadP (pc := 1636) X 1 dL_law_1636 rfl ?_
  refine gd_iload (pc := 1637) X 6 dL_law_1637 rfl ?_
  refine gd_iconst (pc := 1639) X (2) dL_law_1639 (by decide) ?_
  refine gd_iadd (pc := 1640) X dL_law_1640 ?_
  obtain ⟨hi6, h⟩ := h
  refine gd_sld (pc := 1641) X hX hbl hbA dL_law_1641 hi6 ?_
  obtain ⟨hk7, h⟩ := h
  refine gd_callV (pc := 1642) (As := [.int (xs (ix (l5 + 1))), .int (xs (ix (l5 + 2)))]) (rest := []) X (ct_X6_valueAt l G S3 l2 (xs (ix (l5 + 1))) (xs (ix (l5 + 2))) _ h) mw_X6_valueAt tw_1299 ci6 rfl hk7 ⟨(by (try simp only [room_1, rm_X6_valueAt, rm_L_valueAt] at *); omega), (by (try simp only [room_1, rm_X6_valueAt, rm_L_valueAt] at *); omega)⟩ rfl rfl (Nat.le_of_ble_eq_true rfl) dL_law_1642 ⟨(by (try simp only [room_1, rm_X6_valueAt, rm_L_valueAt] at *); omega), (by (try simp only [room_1, rm_X6_valueAt, rm_L_valueAt] at *); omega)⟩ (kI (fun r9 S8 h => ?_))
  refine gd_istore (pc := 1645) X dL_law_1645 (by decide) (E2 := [(7, .int r9), (6, .int r4), (0, .ref b), (1, rf l1), (2, rf l2), (3, rf l3), (4, rf l4), (5, .int l5)]) rfl ?_
  refine gd_aload_n (pc := 1647) X 4 dL_law_1647 rfl ?_
  obtain ⟨hk10, h⟩ := h
  refine gd_callV (pc := 1648) (As := []) (rest := []) X (ct_X6_thrown l G S8 l2 _ h) mw_X6_thrown tw_973 ci6 rfl hk10 ⟨(by (try simp only [room_1, rm_X6_thrown, rm_L_valueAt, rm_X6_valueAt] at *); omega), (by (try simp only [room_1, rm_X6_thrown, rm_L_valueAt, rm_X6_valueAt] at *); omega)⟩ rfl rfl (Nat.le_of_ble_eq_true rfl) dL_law_1648 ⟨(by (try simp only [room_1, rm_X6_thrown, rm_L_valueAt, rm_X6_valueAt] at *); omega), (by (try simp only [room_1, rm_X6_thrown, rm_L_valueAt, rm_X6_valueAt] at *); omega)⟩ (kI (fun r12 S11 h => ?_))
  refine gd_iload (pc := 1651) X 1 dL_law_1651 rfl ?_
  refine gd_icmp_eq (pc := 1653) X 1658 dL_law_1653 (by decide) (fun hc19 => ?_) (fun hc19 => ?_)
  · have h := h.1 hc19
    refine gd_iload (pc := 1658) X 1 dL_law_1658 rfl ?_
    refine gd_if_ne (pc := 1660) X 1675 dL_law_1660 (by decide) (fun hc18 => ?_) (fun hc18 => ?_)
    · have h := h.1 hc18
      refine gd_goto (pc := 1675) X 2345 dL_law_1675 (by decide) ?_
      obtain ⟨v13, hv13⟩ : ∃ z : Int32, z = l5 + 5 := ⟨_, rfl⟩
      have h := h v13 hv13
      refine gd_iinc (pc := 2345) (v := v13) X 7 dL_law_2345 rfl (by rw [hv13]; rfl) (by decide) (E2 := [(5, .int v13), (7, .int r9), (6, .int r4), (0, .ref b), (1, rf l1), (2, rf l2), (3, rf l3), (4, rf l4)]) (by simp [rf_cat, lv1, int_cat, ref_cat] <;> decide) ?_
      refine gd_goto (pc := 2348) X 28 dL_law_2348 (by decide) ?_
      refine gd_wide (k2 := k + 36) (j2 := j + 292) (by (try simp only [room_1, rm_X6_thrown, rm_L_valueAt, rm_X6_valueAt] at *); omega) (by (try simp only [room_1, rm_X6_thrown, rm_L_valueAt, rm_X6_valueAt] at *); omega) ?_
      refine gd_sub [3, 4, 5, 6, 7, 0] rfl ?_
      exact hKH28 _ _ _ _ _ _ h
    · have h := h.2 hc18
      refine gd_aload_n (pc := 1663) X 5 dL_law_1663 rfl ?_
      refine gd_iconst (pc := 1664) X (0) dL_law_1664 (by decide) ?_
      obtain ⟨hk14, h⟩ := h
      obtain ⟨hi15, h⟩ := h
      refine gd_lald (pc := 1665) X dL_law_1665 hk14 hi15 ?_
      refine gd_iload (pc := 1666) X 0 dL_law_1666 rfl ?_
      refine gd_i2l (pc := 1668) X dL_law_1668 ?_
      refine gd_lcmp (pc := 1669) X dL_law_1669 ?_
      refine gd_if_eq (pc := 1670) X 1675 dL_law_1670 (by decide) (fun hc17 => ?_) (fun hc17 => ?_)
      · have h := h.1 hc17
        refine gd_goto (pc := 1675) X 2345 dL_law_1675 (by decide) ?_
        obtain ⟨v16, hv16⟩ : ∃ z : Int32, z = l5 + 5 := ⟨_, rfl⟩
        have h := h v16 hv16
        refine gd_iinc (pc := 2345) (v := v16) X 7 dL_law_2345 rfl (by rw [hv16]; rfl) (by decide) (E2 := [(5, .int v16), (7, .int r9), (6, .int r4), (0, .ref b), (1, rf l1), (2, rf l2), (3, rf l3), (4, rf l4)]) (by simp [rf_cat, lv1, int_cat, ref_cat] <;> decide) ?_
        refine gd_goto (pc := 2348) X 28 dL_law_2348 (by decide) ?_
        refine gd_wide (k2 := k + 36) (j2 := j + 292) (by (try simp only [room_1, rm_X6_thrown, rm_L_valueAt, rm_X6_valueAt] at *); omega) (by (try simp only [room_1, rm_X6_thrown, rm_L_valueAt, rm_X6_valueAt] at *); omega) ?_
        refine gd_sub [3, 4, 5, 6, 7, 0] rfl ?_
        exact hKH28 _ _ _ _ _ _ h
      · have h := h.2 hc17
        refine gd_iconst (pc := 1673) X (0) dL_law_1673 (by decide) ?_
        exact h.elim
  · have h := h.2 hc19
    refine gd_iconst (pc := 1656) X (0) dL_law_1656 (by decide) ?_
    exact h.elim
def b_L_law_1678 (xs : Nat → Int32) (Lx : Nat) (KH28 : MS → Nat → Nat → Nat → Nat → Int32 → Prop) (S : MS) (l1 l2 l3 l4 : Nat) (l5 : Int32) : Prop := vp_in (l5 + 1) Lx ∧ w_L_writerOf S l1 (xs (ix (l5 + 1))) l3 (fun r3 S2 => vp_in (l5 + 1) Lx ∧ kT S2 l2 = 7 ∧ w_X6_writerOf S2 l2 (xs (ix (l5 + 1))) (fun r7 S6 => kT S6 l2 = 7 ∧ w_X6_thrown S6 l2 (fun r10 S9 => ((r10 = r3 → ((¬ r3 = 0 → ∀ v11 : Int32, v11 = l5 + 5 → KH28 S9 l1 l2 l3 l4 v11) ∧ (r3 = 0 → kT S9 l3 = 15 ∧ vp_in 0 (kL S9 l3) ∧ (((lg_cmp (sL S9 l3 (ix 0)) r7.toInt64) = 0 → ∀ v14 : Int32, v14 = l5 + 5 → KH28 S9 l1 l2 l3 l4 v14) ∧ (¬ (lg_cmp (sL S9 l3 (ix 0)) r7.toInt64) = 0 → False))))) ∧ (¬ r10 = r3 → False)))))
set_option maxHeartbeats 4000000 in
set_option maxRecDepth 100000 in
theorem gl_1678 {p : Program} {l : Launch} {e : Env} {s : State} {m : MethodId} {below : List Frame} {meth : Method} {c : Code} {G : GP} {b Lx : Nat} {xs : Nat → Int32} (hfl : l.stackTraces = false) (X : Cx p s m #[Value.ref b] c code 9 R_law G) (hX : va_X b Lx xs s s.heap) (hbl : b < s.heap.size) (hbA : ¬ Ab G b) (hrt : meth.sig.returnType = ret) (hlk : meth.locks = false) (hG : G.2.2 = s.heap.size) {k j : Nat} (hk : k + 36 ≤ 603072) (hj : j + 292 ≤ 7178346) (KH28 : MS → Nat → Nat → Nat → Nat → Int32 → Prop) (hKH28 : ∀ (S : MS) (l1 l2 l3 l4 : Nat) (l5 : Int32), KH28 S l1 l2 l3 l4 l5 → Gd p l e room_1 s m #[Value.ref b] below meth c 9 G (lw_Z below #[Value.ref b] s) (k + 36) (j + 292) S 28 [(0, .ref b), (1, rf l1), (2, rf l2), (3, rf l3), (4, rf l4), (5, .int l5)] []) : ∀ (S : MS) (l1 l2 l3 l4 : Nat) (l5 : Int32), b_L_law_1678 xs Lx KH28 S l1 l2 l3 l4 l5 → Gd p l e room_1 s m #[Value.ref b] below meth c 9 G (lw_Z below #[Value.ref b] s) k j S 1678 [(0, .ref b), (1, rf l1), (2, rf l2), (3, rf l3), (4, rf l4), (5, .int l5)] [] := by
  intro S l1 l2 l3 l4 l5 h
  refine gd_aload_n (pc := 1678) X 1 dL_law_1678 rfl ?_
  refine gd_aloadP (pc := 1679) X 0 dL_law_1679 rfl ?_
  refine gd_iload (pc := 1680) X 5 dL_law_1680 rfl ?_
  refine gd_iconst (pc := 1682) X (1) dL_law_1682 (by decide) ?_
  refine gd_iadd (pc := 1683) X dL_law_1683 ?_
  obtain ⟨hi1, h⟩ := h
  refine gd_sld (pc := 1684) X hX hbl hbA dL_law_1684 hi1 ?_
  refine gd_aload_n (pc := 1685) X 3 dL_law_1685 rfl ?_
  refine gd_callW (n := 3) (pc := 1686) (As := [rf l1, .int (xs (ix (l5 + 1))), rf l3]) (rest := []) X (ct_L_writerOf l hfl G S l1 (xs (ix (l5 + 1))) l3 _ h) tw_807 tw_0 tw_808 ⟨by decide, by decide, by decide +kernel⟩ tw_806 ⟨(by (try simp only [room_1, rm_L_writerOf] at *); omega), (by (try simp only [room_1, rm_L_writerOf] at *); omega)⟩ rfl rfl (Nat.le_of_ble_eq_true rfl) dL_law_1686 ⟨(by (try simp only [room_1, rm_L_writerOf] at *); omega), (by (try simp only [room_1, rm_L_writerOf] at *); omega)⟩ (kI (fun r3 S2 h => ?_))
  refine gd_istore (pc := 1689) X dL_law_1689 (by decide) (E2 := [(6, .int r3), (0, .ref b), (1, rf l1), (2, rf l2), (3, rf l3), (4, rf l4), (5, .int l5)]) rfl ?_
  refine gd_aload_n (pc := 1691) X 3 dL_law_1691 rfl ?_
  refine gd_aloadP (pc := 1692) X 1 dL_law_1692 rfl ?_
  refine gd_iload (pc := 1693) X 6 dL_law_1693 rfl ?_
  refine gd_iconst (pc := 1695) X (1) dL_law_1695 (by decide) ?_
  refine gd_iadd (pc := 1696) X dL_law_1696 ?_
  obtain ⟨hi4, h⟩ := h
  refine gd_sld (pc := 1697) X hX hbl hbA dL_law_1697 hi4 ?_
  obtain ⟨hk5, h⟩ := h
  refine gd_callV (pc := 1698) (As := [.int (xs (ix (l5 + 1)))]) (rest := []) X (ct_X6_writerOf l G S2 l2 (xs (ix (l5 + 1))) _ h) mw_X6_writerOf tw_1303 ci6 rfl hk5 ⟨(by (try simp only [room_1, rm_X6_writerOf, rm_L_writerOf] at *); omega), (by (try simp only [room_1, rm_X6_writerOf, rm_L_writerOf] at *); omega)⟩ rfl rfl (Nat.le_of_ble_eq_true rfl) dL_law_1698 ⟨(by (try simp only [room_1, rm_X6_writerOf, rm_L_writerOf] at *); omega), (by (try simp only [room_1, rm_X6_writerOf, rm_L_writerOf] at *); omega)⟩ (kI (fun r7 S6 h => ?_))
  refine gd_istore (pc := 1701) X dL_law_1701 (by decide) (E2 := [(7, .int r7), (6, .int r3), (0, .ref b), (1, rf l1), (2, rf l2), (3, rf l3), (4, rf l4), (5, .int l5)]) rfl ?_
  refine gd_aload_n (pc := 1703) X 4 dL_law_1703 rfl ?_
  obtain ⟨hk8, h⟩ := h
  refine gd_callV (pc := 1704) (As := []) (rest := []) X (ct_X6_thrown l G S6 l2 _ h) mw_X6_thrown tw_973 ci6 rfl hk8 ⟨(by (try simp only [room_1, rm_X6_thrown, rm_L_writerOf, rm_X6_writerOf] at *); omega), (by (try simp only [room_1, rm_X6_thrown, rm_L_writerOf, rm_X6_writerOf] at *); omega)⟩ rfl rfl (Nat.le_of_ble_eq_true rfl) dL_law_1704 ⟨(by (try simp only [room_1, rm_X6_thrown, rm_L_writerOf, rm_X6_writerOf] at *); omega), (by (try simp only [room_1, rm_X6_thrown, rm_L_writerOf, rm_X6_writerOf] at *); omega)⟩ (kI (fun r10 S9 h => ?_))
  refine gd_iload (pc := 1707) X 1 dL_law_1707 rfl ?_
  refine gd_icmp_eq (pc := 1709) X 1714 dL_law_1709 (by decide) (fun hc17 => ?_) (fun hc17 => ?_)
  · have h := h.1 hc17
    refine gd_iload (pc := 1714) X 1 dL_law_1714 rfl ?_
    refine gd_if_ne (pc := 1716) X 1731 dL_law_1716 (by decide) (fun hc16 => ?_) (fun hc16 => ?_)
    · have h := h.1 hc16
      refine gd_goto (pc := 1731) X 2345 dL_law_1731 (by decide) ?_
      obtain ⟨v11, hv11⟩ : ∃ z : Int32, z = l5 + 5 := ⟨_, rfl⟩
      have h := h v11 hv11
      refine gd_iinc (pc := 2345) (v := v11) X 7 dL_law_2345 rfl (by rw [hv11]; rfl) (by decide) (E2 := [(5, .int v11), (7, .int r7), (6, .int r3), (0, .ref b), (1, rf l1), (2, rf l2), (3, rf l3), (4, rf l4)]) (by simp [rf_cat, lv1, int_cat, ref_cat] <;> decide) ?_
      refine gd_goto (pc := 2348) X 28 dL_law_2348 (by decide) ?_
      refine gd_wide (k2 := k + 36) (j2 := j + 292) (by (try simp only [room_1, rm_X6_thrown, rm_L_writerOf, rm_X6_writerOf] at *); omega) (by (try simp only [room_1, rm_X6_thrown, rm_L_writerOf, rm_X6_writerOf] at *); omega) ?_
      refine gd_sub [3, 4, 5, 6, 7, 0] rfl ?_
      exact hKH28 _ _ _ _ _ _ h
    · have h := h.2 hc16
      refine gd_aload_n (pc := 1719) X 5 dL_law_1719 rfl ?_
      refine gd_iconst (pc := 1720) X (0) dL_law_1720 (by decide) ?_
      obtain ⟨hk12, h⟩ := h
      obtain ⟨hi13, h⟩ := h
      refine gd_lald (pc := 1721) X dL_law_1721 hk12 hi13 ?_
      refine gd_iload (pc := 1722) X 0 dL_law_1722 rfl ?_
      refine gd_i2l (pc := 1724) X dL_law_1724 ?_
      refine gd_lcmp (pc := 1725) X dL_law_1725 ?_
      refine gd_if_eq (pc := 1726) X 1731 dL_law_1726 (by decide) (fun hc15 => ?_) (fun hc15 => ?_)
      · have h := h.1 hc15
        refine gd_goto (pc := 1731) X 2345 dL_law_1731 (by decide) ?_
        obtain ⟨v14, hv14⟩ : ∃ z : Int32, z = l5 + 5 := ⟨_, rfl⟩
        have h := h v14 hv14
        refine gd_iinc (pc := 2345) (v := v14) X 7 dL_law_2345 rfl (by rw [hv14]; rfl) (by decide) (E2 := [(5, .int v14), (7, .int r7), (6, .int r3), (0, .ref b), (1, rf l1), (2, rf l2), (3, rf l3), (4, rf l4)]) (by simp [rf_cat, lv1, int_cat, ref_cat] <;> decide) ?_
        refine gd_goto (pc := 2348) X 28 dL_law_2348 (by decide) ?_
        refine gd_wide (k2 := k + 36) (j2 := j + 292) (by (try simp only [room_1, rm_X6_thrown, rm_L_writerOf, rm_X6_writerOf] at *); omega) (by (try simp only [room_1, rm_X6_thrown, rm_L_writerOf, rm_X6_writerOf] at *); omega) ?_
        refine gd_sub [3, 4, 5, 6, 7, 0] rfl ?_
        exact hKH28 _ _ _ _ _ _ h
      · have h := h.2 hc15
        refine gd_iconst (pc := 1729) X (0) dL_law_1729 (by decide) ?_
        exact h.elim
  · have h := h.2 hc17
    refine gd_iconst (pc := 1712) X (0) dL_law_1712 (by decide) ?_
    exact h.elim
def b_L_law_1734 (xs : Nat → Int32) (Lx : Nat) (KH28 : MS → Nat → Nat → Nat → Nat → Int32 → Prop) (S : MS) (l1 l2 l3 l4 : Nat) (l5 : Int32) : Prop := vp_in (l5 + 1) Lx ∧ w_L_transactionOf S l1 (xs (ix (l5 + 1))) l3 (fun r3 S2 => vp_in (l5 + 1) Lx ∧ kT S2 l2 = 7 ∧ w_X6_transactionOf S2 l2 (xs (ix (l5 + 1))) (fun r7 S6 => kT S6 l2 = 7 ∧ w_X6_thrown S6 l2 (fun r10 S9 => ((r10 = r3 → ((¬ r3 = 0 → ∀ v11 : Int32, v11 = l5 + 5 → KH28 S9 l1 l2 l3 l4 v11) ∧ (r3 = 0 → kT S9 l3 = 15 ∧ vp_in 0 (kL S9 l3) ∧ (((lg_cmp (sL S9 l3 (ix 0)) r7.toInt64) = 0 → ∀ v14 : Int32, v14 = l5 + 5 → KH28 S9 l1 l2 l3 l4 v14) ∧ (¬ (lg_cmp (sL S9 l3 (ix 0)) r7.toInt64) = 0 → False))))) ∧ (¬ r10 = r3 → False)))))
set_option maxHeartbeats 4000000 in
set_option maxRecDepth 100000 in
theorem gl_1734 {p : Program} {l : Launch} {e : Env} {s : State} {m : MethodId} {below : List Frame} {meth : Method} {c : Code} {G : GP} {b Lx : Nat} {xs : Nat → Int32} (hfl : l.stackTraces = false) (X : Cx p s m #[Value.ref b] c code 9 R_law G) (hX : va_X b Lx xs s s.heap) (hbl : b < s.heap.size) (hbA : ¬ Ab G b) (hrt : meth.sig.returnType = ret) (hlk : meth.locks = false) (hG : G.2.2 = s.heap.size) {k j : Nat} (hk : k + 36 ≤ 603072) (hj : j + 292 ≤ 7178346) (KH28 : MS → Nat → Nat → Nat → Nat → Int32 → Prop) (hKH28 : ∀ (S : MS) (l1 l2 l3 l4 : Nat) (l5 : Int32), KH28 S l1 l2 l3 l4 l5 → Gd p l e room_1 s m #[Value.ref b] below meth c 9 G (lw_Z below #[Value.ref b] s) (k + 36) (j + 292) S 28 [(0, .ref b), (1, rf l1), (2, rf l2), (3, rf l3), (4, rf l4), (5, .int l5)] []) : ∀ (S : MS) (l1 l2 l3 l4 : Nat) (l5 : Int32), b_L_law_1734 xs Lx KH28 S l1 l2 l3 l4 l5 → Gd p l e room_1 s m #[Value.ref b] below meth c 9 G (lw_Z below #[Value.ref b] s) k j S 1734 [(0, .ref b), (1, rf l1), (2, rf l2), (3, rf l3), (4, rf l4), (5, .int l5)] [] := by
  intro S l1 l2 l3 l4 l5 h
  refine gd_aload_n (pc := 1734) X 1 dL_law_1734 rfl ?_
  refine gd_aloadP (pc := 1735) X 0 dL_law_1735 rfl ?_
  refine gd_iload (pc := 1736) X 5 dL_law_1736 rfl ?_
  refine gd_iconst (pc := 1738) X (1) dL_law_1738 (by decide) ?_
  refine gd_iadd (pc := 1739) X dL_law_1739 ?_
  obtain ⟨hi1, h⟩ := h
  refine gd_sld (pc := 1740) X hX hbl hbA dL_law_1740 hi1 ?_
  refine gd_aload_n (pc := 1741) X 3 dL_law_1741 rfl ?_
  refine gd_callW (n := 3) (pc := 1742) (As := [rf l1, .int (xs (ix (l5 + 1))), rf l3]) (rest := []) X (ct_L_transactionOf l hfl G S l1 (xs (ix (l5 + 1))) l3 _ h) tw_815 tw_0 tw_816 ⟨by decide, by decide, by decide +kernel⟩ tw_814 ⟨(by (try simp only [room_1, rm_L_transactionOf] at *); omega), (by (try simp only [room_1, rm_L_transactionOf] at *); omega)⟩ rfl rfl (Nat.le_of_ble_eq_true rfl) dL_law_1742 ⟨(by (try simp only [room_1, rm_L_transactionOf] at *); omega), (by (try simp only [room_1, rm_L_transactionOf] at *); omega)⟩ (kI (fun r3 S2 h => ?_))
  refine gd_istore (pc := 1745) X dL_law_1745 (by decide) (E2 := [(6, .int r3), (0, .ref b), (1, rf l1), (2, rf l2), (3, rf l3), (4, rf l4), (5, .int l5)]) rfl ?_
  refine gd_aload_n (pc := 1747) X 3 dL_law_1747 rfl ?_
  refine gd_aloadP (pc := 1748) X 1 dL_law_1748 rfl ?_
  refine gd_iload (pc := 1749) X 6 dL_law_1749 rfl ?_
  refine gd_iconst (pc := 1751) X (1) dL_law_1751 (by decide) ?_
  refine gd_iadd (pc := 1752) X dL_law_1752 ?_
  obtain ⟨hi4, h⟩ := h
  refine gd_sld (pc := 1753) X hX hbl hbA dL_law_1753 hi4 ?_
  obtain ⟨hk5, h⟩ := h
  refine gd_callV (pc := 1754) (As := [.int (xs (ix (l5 + 1)))]) (rest := []) X (ct_X6_transactionOf l G S2 l2 (xs (ix (l5 + 1))) _ h) mw_X6_transactionOf tw_1311 ci6 rfl hk5 ⟨(by (try simp only [room_1, rm_X6_transactionOf, rm_L_transactionOf] at *); omega), (by (try simp only [room_1, rm_X6_transactionOf, rm_L_transactionOf] at *); omega)⟩ rfl rfl (Nat.le_of_ble_eq_true rfl) dL_law_1754 ⟨(by (try simp only [room_1, rm_X6_transactionOf, rm_L_transactionOf] at *); omega), (by (try simp only [room_1, rm_X6_transactionOf, rm_L_transactionOf] at *); omega)⟩ (kI (fun r7 S6 h => ?_))
  refine gd_istore (pc := 1757) X dL_law_1757 (by decide) (E2 := [(7, .int r7), (6, .int r3), (0, .ref b), (1, rf l1), (2, rf l2), (3, rf l3), (4, rf l4), (5, .int l5)]) rfl ?_
  refine gd_aload_n (pc := 1759) X 4 dL_law_1759 rfl ?_
  obtain ⟨hk8, h⟩ := h
  refine gd_callV (pc := 1760) (As := []) (rest := []) X (ct_X6_thrown l G S6 l2 _ h) mw_X6_thrown tw_973 ci6 rfl hk8 ⟨(by (try simp only [room_1, rm_X6_thrown, rm_L_transactionOf, rm_X6_transactionOf] at *); omega), (by (try simp only [room_1, rm_X6_thrown, rm_L_transactionOf, rm_X6_transactionOf] at *); omega)⟩ rfl rfl (Nat.le_of_ble_eq_true rfl) dL_law_1760 ⟨(by (try simp only [room_1, rm_X6_thrown, rm_L_transactionOf, rm_X6_transactionOf] at *); omega), (by (try simp only [room_1, rm_X6_thrown, rm_L_transactionOf, rm_X6_transactionOf] at *); omega)⟩ (kI (fun r10 S9 h => ?_))
  refine gd_iload (pc := 1763) X 1 dL_law_1763 rfl ?_
  refine gd_icmp_eq (pc := 1765) X 1770 dL_law_1765 (by decide) (fun hc17 => ?_) (fun hc17 => ?_)
  · have h := h.1 hc17
    refine gd_iload (pc := 1770) X 1 dL_law_1770 rfl ?_
    refine gd_if_ne (pc := 1772) X 1787 dL_law_1772 (by decide) (fun hc16 => ?_) (fun hc16 => ?_)
    · have h := h.1 hc16
      refine gd_goto (pc := 1787) X 2345 dL_law_1787 (by decide) ?_
      obtain ⟨v11, hv11⟩ : ∃ z : Int32, z = l5 + 5 := ⟨_, rfl⟩
      have h := h v11 hv11
      refine gd_iinc (pc := 2345) (v := v11) X 7 dL_law_2345 rfl (by rw [hv11]; rfl) (by decide) (E2 := [(5, .int v11), (7, .int r7), (6, .int r3), (0, .ref b), (1, rf l1), (2, rf l2), (3, rf l3), (4, rf l4)]) (by simp [rf_cat, lv1, int_cat, ref_cat] <;> decide) ?_
      refine gd_goto (pc := 2348) X 28 dL_law_2348 (by decide) ?_
      refine gd_wide (k2 := k + 36) (j2 := j + 292) (by (try simp only [room_1, rm_X6_thrown, rm_L_transactionOf, rm_X6_transactionOf] at *); omega) (by (try simp only [room_1, rm_X6_thrown, rm_L_transactionOf, rm_X6_transactionOf] at *); omega) ?_
      refine gd_sub [3, 4, 5, 6, 7, 0] rfl ?_
      exact hKH28 _ _ _ _ _ _ h
    · have h := h.2 hc16
      refine gd_aload_n (pc := 1775) X 5 dL_law_1775 rfl ?_
      refine gd_iconst (pc := 1776) X (0) dL_law_1776 (by decide) ?_
      obtain ⟨hk12, h⟩ := h
      obtain ⟨hi13, h⟩ := h
      refine gd_lald (pc := 1777) X dL_law_1777 hk12 hi13 ?_
      refine gd_iload (pc := 1778) X 0 dL_law_1778 rfl ?_
      refine gd_i2l (pc := 1780) X dL_law_1780 ?_
      refine gd_lcmp (pc := 1781) X dL_law_1781 ?_
      refine gd_if_eq (pc := 1782) X 1787 dL_law_1782 (by decide) (fun hc15 => ?_) (fun hc15 => ?_)
      · have h := h.1 hc15
        refine gd_goto (pc := 1787) X 2345 dL_law_1787 (by decide) ?_
        obtain ⟨v14, hv14⟩ : ∃ z : Int32, z = l5 + 5 := ⟨_, rfl⟩
        have h := h v14 hv14
        refine gd_iinc (pc := 2345) (v := v14) X 7 dL_law_2345 rfl (by rw [hv14]; rfl) (by decide) (E2 := [(5, .int v14), (7, .int r7), (6, .int r3), (0, .ref b), (1, rf l1), (2, rf l2), (3, rf l3), (4, rf l4)]) (by simp [rf_cat, lv1, int_cat, ref_cat] <;> decide) ?_
        refine gd_goto (pc := 2348) X 28 dL_law_2348 (by decide) ?_
        refine gd_wide (k2 := k + 36) (j2 := j + 292) (by (try simp only [room_1, rm_X6_thrown, rm_L_transactionOf, rm_X6_transactionOf] at *); omega) (by (try simp only [room_1, rm_X6_thrown, rm_L_transactionOf, rm_X6_transactionOf] at *); omega) ?_
        refine gd_sub [3, 4, 5, 6, 7, 0] rfl ?_
        exact hKH28 _ _ _ _ _ _ h
      · have h := h.2 hc15
        refine gd_iconst (pc := 1785) X (0) dL_law_1785 (by decide) ?_
        exact h.elim
  · have h := h.2 hc17
    refine gd_iconst (pc := 1768) X (0) dL_law_1768 (by decide) ?_
    exact h.elim
def b_L_law_1790 (xs : Nat → Int32) (Lx : Nat) (KH28 : MS → Nat → Nat → Nat → Nat → Int32 → Prop) (S : MS) (l1 l2 l3 l4 : Nat) (l5 : Int32) : Prop := vp_in (l5 + 1) Lx ∧ vp_in (l5 + 2) Lx ∧ w_L_dependency S l1 (xs (ix (l5 + 1))) (xs (ix (l5 + 2))) l3 (fun r4 S3 => vp_in (l5 + 1) Lx ∧ vp_in (l5 + 2) Lx ∧ kT S3 l2 = 7 ∧ w_X6_dependency S3 l2 (xs (ix (l5 + 1))) (xs (ix (l5 + 2))) (fun r9 S8 => kT S8 l2 = 7 ∧ w_X6_thrown S8 l2 (fun r12 S11 => ((r12 = r4 → ((¬ r4 = 0 → ∀ v13 : Int32, v13 = l5 + 5 → KH28 S11 l1 l2 l3 l4 v13) ∧ (r4 = 0 → kT S11 l3 = 15 ∧ vp_in 0 (kL S11 l3) ∧ (((lg_cmp (sL S11 l3 (ix 0)) r9.toInt64) = 0 → ∀ v16 : Int32, v16 = l5 + 5 → KH28 S11 l1 l2 l3 l4 v16) ∧ (¬ (lg_cmp (sL S11 l3 (ix 0)) r9.toInt64) = 0 → False))))) ∧ (¬ r12 = r4 → False)))))
set_option maxHeartbeats 4000000 in
set_option maxRecDepth 100000 in
theorem gl_1790 {p : Program} {l : Launch} {e : Env} {s : State} {m : MethodId} {below : List Frame} {meth : Method} {c : Code} {G : GP} {b Lx : Nat} {xs : Nat → Int32} (hfl : l.stackTraces = false) (X : Cx p s m #[Value.ref b] c code 9 R_law G) (hX : va_X b Lx xs s s.heap) (hbl : b < s.heap.size) (hbA : ¬ Ab G b) (hrt : meth.sig.returnType = ret) (hlk : meth.locks = false) (hG : G.2.2 = s.heap.size) {k j : Nat} (hk : k + 36 ≤ 603072) (hj : j + 292 ≤ 7178346) (KH28 : MS → Nat → Nat → Nat → Nat → Int32 → Prop) (hKH28 : ∀ (S : MS) (l1 l2 l3 l4 : Nat) (l5 : Int32), KH28 S l1 l2 l3 l4 l5 → Gd p l e room_1 s m #[Value.ref b] below meth c 9 G (lw_Z below #[Value.ref b] s) (k + 36) (j + 292) S 28 [(0, .ref b), (1, rf l1), (2, rf l2), (3, rf l3), (4, rf l4), (5, .int l5)] []) : ∀ (S : MS) (l1 l2 l3 l4 : Nat) (l5 : Int32), b_L_law_1790 xs Lx KH28 S l1 l2 l3 l4 l5 → Gd p l e room_1 s m #[Value.ref b] below meth c 9 G (lw_Z below #[Value.ref b] s) k j S 1790 [(0, .ref b), (1, rf l1), (2, rf l2), (3, rf l3), (4, rf l4), (5, .int l5)] [] := by
  intro S l1 l2 l3 l4 l5 h
  refine gd_aload_n (pc := 1790) X 1 dL_law_1790 rfl ?_
  refine gd_aloadP (pc := 1791) X 0 dL_law_1791 rfl ?_
  refine gd_iload (pc := 1792) X 5 dL_law_1792 rfl ?_
  refine gd_iconst (pc := 1794) X (1) dL_law_1794 (by decide) ?_
  refine gd_iadd (pc := 1795) X dL_law_1795 ?_
  obtain ⟨hi1, h⟩ := h
  refine gd_sld (pc := 1796) X hX hbl hbA dL_law_1796 hi1 ?_
  refine gd_aloadP (pc := 1797) X 0 dL_law_1797 rfl ?_
  refine gd_iload (pc := 1798) X 5 dL_law_1798 rfl ?_
  refine gd_iconst (pc := 1800) X (2) dL_law_1800 (by decide) ?_
  refine gd_iadd (pc := 1801) X dL_law_1801 ?_
  obtain ⟨hi2, h⟩ := h
  refine gd_sld (pc := 1802) X hX hbl hbA dL_law_1802 hi2 ?_
  refine gd_aload_n (pc := 1803) X 3 dL_law_1803 rfl ?_
  refine gd_callW (n := 4) (pc := 1804) (As := [rf l1, .int (xs (ix (l5 + 1))), .int (xs (ix (l5 + 2))), rf l3]) (rest := []) X (ct_L_dependency l hfl G S l1 (xs (ix (l5 + 1))) (xs (ix (l5 + 2))) l3 _ h) tw_822 tw_0 tw_823 ⟨by decide, by decide, by decide +kernel⟩ tw_821 ⟨(by (try simp only [room_1, rm_L_dependency] at *); omega), (by (try simp only [room_1, rm_L_dependency] at *); omega)⟩ rfl rfl (Nat.le_of_ble_eq_true rfl) dL_law_1804 ⟨(by (try simp only [room_1, rm_L_dependency] at *); omega), (by (try simp only [room_1, rm_L_dependency] at *); omega)⟩ (kI (fun r4 S3 h => ?_))
  refine gd_istore (pc := 1807) X dL_law_1807 (by decide) (E2 := [(6, .int r4), (0, .ref b), (1, rf l1), (2, rf l2), (3, rf l3), (4, rf l4), (5, .int l5)]) rfl ?_
  refine gd_aload_n (pc := 1809) X 3 dL_law_1809 rfl ?_
  refine gd_aloadP (pc := 1810) X 1 dL_law_1810 rfl ?_
  refine gd_iload (pc := 1811) X 6 dL_law_1811 rfl ?_
  refine gd_iconst (pc := 1813) X (1) dL_law_1813 (by decide) ?_
  refine gd_iadd (pc := 1814) X dL_law_1814 ?_
  obtain ⟨hi5, h⟩ := h
  refine gd_sld (pc := 1815) X hX hbl hbA dL_law_1815 hi5 ?_
  refine gd_aloadP (pc := 1816) X 1 dL_law_1816 rfl ?_
  refine gd_iload (pc := 1817) X 6 dL_law_1817 rfl ?_
  refine gd_iconst (pc := 1819) X (2) dL_law_1819 (by decide) ?_
  refine gd_iadd (pc := 1820) X dL_law_1820 ?_
  obtain ⟨hi6, h⟩ := h
  refine gd_sld (pc := 1821) X hX hbl hbA dL_law_1821 hi6 ?_
  obtain ⟨hk7, h⟩ := h
  refine gd_callV (pc := 1822) (As := [.int (xs (ix (l5 + 1))), .int (xs (ix (l5 + 2)))]) (rest := []) X (ct_X6_dependency l G S3 l2 (xs (ix (l5 + 1))) (xs (ix (l5 + 2))) _ h) mw_X6_dependency tw_1319 ci6 rfl hk7 ⟨(by (try simp only [room_1, rm_X6_dependency, rm_L_dependency] at *); omega), (by (try simp only [room_1, rm_X6_dependency, rm_L_dependency] at *); omega)⟩ rfl rfl (Nat.le_of_ble_eq_true rfl) dL_law_1822 ⟨(by (try simp only [room_1, rm_X6_dependency, rm_L_dependency] at *); omega), (by (try simp only [room_1, rm_X6_dependency, rm_L_dependency] at *); omega)⟩ (kI (fun r9 S8 h => ?_))
  refine gd_istore (pc := 1825) X dL_law_1825 (by decide) (E2 := [(7, .int r9), (6, .int r4), (0, .ref b), (1, rf l1), (2, rf l2), (3, rf l3), (4, rf l4), (5, .int l5)]) rfl ?_
  refine gd_aload_n (pc := 1827) X 4 dL_law_1827 rfl ?_
  obtain ⟨hk10, h⟩ := h
  refine gd_callV (pc := 1828) (As := []) (rest := []) X (ct_X6_thrown l G S8 l2 _ h) mw_X6_thrown tw_973 ci6 rfl hk10 ⟨(by (try simp only [room_1, rm_X6_thrown, rm_L_dependency, rm_X6_dependency] at *); omega), (by (try simp only [room_1, rm_X6_thrown, rm_L_dependency, rm_X6_dependency] at *); omega)⟩ rfl rfl (Nat.le_of_ble_eq_true rfl) dL_law_1828 ⟨(by (try simp only [room_1, rm_X6_thrown, rm_L_dependency, rm_X6_dependency] at *); omega), (by (try simp only [room_1, rm_X6_thrown, rm_L_dependency, rm_X6_dependency] at *); omega)⟩ (kI (fun r12 S11 h => ?_))
  refine gd_iload (pc := 1831) X 1 dL_law_1831 rfl ?_
  refine gd_icmp_eq (pc := 1833) X 1838 dL_law_1833 (by decide) (fun hc19 => ?_) (fun hc19 => ?_)
  · have h := h.1 hc19
    refine gd_iload (pc := 1838) X 1 dL_law_1838 rfl ?_
    refine gd_if_ne (pc := 1840) X 1855 dL_law_1840 (by decide) (fun hc18 => ?_) (fun hc18 => ?_)
    · have h := h.1 hc18
      refine gd_goto (pc := 1855) X 2345 dL_law_1855 (by decide) ?_
      obtain ⟨v13, hv13⟩ : ∃ z : Int32, z = l5 + 5 := ⟨_, rfl⟩
      have h := h v13 hv13
      refine gd_iinc (pc := 2345) (v := v13) X 7 dL_law_2345 rfl (by rw [hv13]; rfl) (by decide) (E2 := [(5, .int v13), (7, .int r9), (6, .int r4), (0, .ref b), (1, rf l1), (2, rf l2), (3, rf l3), (4, rf l4)]) (by simp [rf_cat, lv1, int_cat, ref_cat] <;> decide) ?_
      refine gd_goto (pc := 2348) X 28 dL_law_2348 (by decide) ?_
      refine gd_wide (k2 := k + 36) (j2 := j + 292) (by (try simp only [room_1, rm_X6_thrown, rm_L_dependency, rm_X6_dependency] at *); omega) (by (try simp only [room_1, rm_X6_thrown, rm_L_dependency, rm_X6_dependency] at *); omega) ?_
      refine gd_sub [3, 4, 5, 6, 7, 0] rfl ?_
      exact hKH28 _ _ _ _ _ _ h
    · have h := h.2 hc18
      refine gd_aload_n (pc := 1843) X 5 dL_law_1843 rfl ?_
      refine gd_iconst (pc := 1844) X (0) dL_law_1844 (by decide) ?_
      obtain ⟨hk14, h⟩ := h
      obtain ⟨hi15, h⟩ := h
      refine gd_lald (pc := 1845) X dL_law_1845 hk14 hi15 ?_
      refine gd_iload (pc := 1846) X 0 dL_law_1846 rfl ?_
      refine gd_i2l (pc := 1848) X dL_law_1848 ?_
      refine gd_lcmp (pc := 1849) X dL_law_1849 ?_
      refine gd_if_eq (pc := 1850) X 1855 dL_law_1850 (by decide) (fun hc17 => ?_) (fun hc17 => ?_)
      · have h := h.1 hc17
        refine gd_goto (pc := 1855) X 2345 dL_law_1855 (by decide) ?_
        obtain ⟨v16, hv16⟩ : ∃ z : Int32, z = l5 + 5 := ⟨_, rfl⟩
        have h := h v16 hv16
        refine gd_iinc (pc := 2345) (v := v16) X 7 dL_law_2345 rfl (by rw [hv16]; rfl) (by decide) (E2 := [(5, .int v16), (7, .int r9), (6, .int r4), (0, .ref b), (1, rf l1), (2, rf l2), (3, rf l3), (4, rf l4)]) (by simp [rf_cat, lv1, int_cat, ref_cat] <;> decide) ?_
        refine gd_goto (pc := 2348) X 28 dL_law_2348 (by decide) ?_
        refine gd_wide (k2 := k + 36) (j2 := j + 292) (by (try simp only [room_1, rm_X6_thrown, rm_L_dependency, rm_X6_dependency] at *); omega) (by (try simp only [room_1, rm_X6_thrown, rm_L_dependency, rm_X6_dependency] at *); omega) ?_
        refine gd_sub [3, 4, 5, 6, 7, 0] rfl ?_
        exact hKH28 _ _ _ _ _ _ h
      · have h := h.2 hc17
        refine gd_iconst (pc := 1853) X (0) dL_law_1853 (by decide) ?_
        exact h.elim
  · have h := h.2 hc19
    refine gd_iconst (pc := 1836) X (0) dL_law_1836 (by decide) ?_
    exact h.elim
