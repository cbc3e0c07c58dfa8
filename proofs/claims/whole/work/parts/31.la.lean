def b_L_law_224 (xs : Nat → Int32) (Lx : Nat) (KH28 : MS → Nat → Nat → Nat → Nat → Int32 → Prop) (S : MS) (l1 l2 l3 l4 : Nat) (l5 : Int32) : Prop := vp_in (l5 + 1) Lx ∧ vp_in (l5 + 2) Lx ∧ vp_in (l5 + 3) Lx ∧ w_L_configure S l1 (xs (ix (l5 + 1))) (xs (ix (l5 + 2))) (xs (ix (l5 + 3))) (fun r5 S4 => vp_in (l5 + 1) Lx ∧ vp_in (l5 + 2) Lx ∧ vp_in (l5 + 3) Lx ∧ kT S4 l2 = 7 ∧ w_X6_configure S4 l2 (xs (ix (l5 + 1))) (xs (ix (l5 + 2))) (xs (ix (l5 + 3))) (fun S10 => kT S10 l2 = 7 ∧ w_X6_thrown S10 l2 (fun r14 S13 => ((r14 = r5 → ∀ v15 : Int32, v15 = l5 + 5 → KH28 S13 l1 l2 l3 l4 v15) ∧ (¬ r14 = r5 → False)))))
set_option maxHeartbeats 4000000 in
set_option maxRecDepth 100000 in
theorem gl_224 {p : Program} {l : Launch} {e : Env} {s : State} {m : MethodId} {below : List Frame} {meth : Method} {c : Code} {G : GP} {b Lx : Nat} {xs : Nat → Int32} (hfl : l.stackTraces = false) (X : Cx p s m #[Value.ref b] c code 9 R_law G) (hX : va_X b Lx xs s s.heap) (hbl : b < s.heap.size) (hbA : ¬ Ab G b) (hrt : meth.sig.returnType = ret) (hlk : meth.locks = false) (hG : G.2.2 = s.heap.size) {k j : Nat} (hk : k + 36 ≤ 603072) (hj : j + 292 ≤ 7178346) (KH28 : MS → Nat → Nat → Nat → Nat → Int32 → Prop) (hKH28 : ∀ (S : MS) (l1 l2 l3 l4 : Nat) (l5 : Int32), KH28 S l1 l2 l3 l4 l5 → Gd p l e room_1 s m #[Value.ref b] below meth c 9 G (lw_Z below #[Value.ref b] s) (k + 36) (j + 292) S 28 [(0, .ref b), (1, rf l1), (2, rf l2), (3, rf l3), (4, rf l4), (5, .int l5)] []) : ∀ (S : MS) (l1 l2 l3 l4 : Nat) (l5 : Int32), b_L_law_224 xs Lx KH28 S l1 l2 l3 l4 l5 → Gd p l e room_1 s m #[Value.ref b] below meth c 9 G (lw_Z below #[Value.ref b] s) k j S 224 [(0, .ref b), (1, rf l1), (2, rf l2), (3, rf l3), (4, rf l4), (5, .int l5)] [] := by
  intro S l1 l2 l3 l4 l5 h
  refine gd_aload_n (pc := 224) X 1 dL_law_224 rfl ?_
  refine gd_aloadP (pc := 225) X 0 dL_law_225 rfl ?_
  refine gd_iload (pc := 226) X 5 dL_law_226 rfl ?_
  refine gd_iconst (pc := 228) X (1) dL_law_228 (by decide) ?_
  refine gd_iadd (pc := 229) X dL_law_229 ?_
  obtain ⟨hi1, h⟩ := h
  refine gd_sld (pc := 230) X hX hbl hbA dL_law_230 hi1 ?_
  refine gd_aloadP (pc := 231) X 0 dL_law_231 rfl ?_
  refine gd_iload (pc := 232) X 5 dL_law_232 rfl ?_
  refine gd_iconst (pc := 234) X (2) dL_law_234 (by decide) ?_
  refine gd_iadd (pc := 235) X dL_law_235 ?_
  obtain ⟨hi2, h⟩ := h
  refine gd_sld (pc := 236) X hX hbl hbA dL_law_236 hi2 ?_
  refine gd_aloadP (pc := 237) X 0 dL_law_237 rfl ?_
  refine gd_iload (pc := 238) X 5 dL_law_238 rfl ?_
  refine gd_iconst (pc := 240) X (3) dL_law_240 (by decide) ?_
  refine gd_iadd (pc := 241) X dL_law_241 ?_
  obtain ⟨hi3, h⟩ := h
  refine gd_sld (pc := 242) X hX hbl hbA dL_law_242 hi3 ?_
  refine gd_callW (n := 4) (pc := 243) (As := [rf l1, .int (xs (ix (l5 + 1))), .int (xs (ix (l5 + 2))), .int (xs (ix (l5 + 3)))]) (rest := []) X (ct_L_configure l hfl G S l1 (xs (ix (l5 + 1))) (xs (ix (l5 + 2))) (xs (ix (l5 + 3))) _ h) tw_223 tw_0 tw_224 ⟨by decide, by decide, by decide +kernel⟩ tw_222 ⟨(by (try simp only [room_1, rm_L_configure] at *); omega), (by (try simp only [room_1, rm_L_configure] at *); omega)⟩ rfl rfl (Nat.le_of_ble_eq_true rfl) dL_law_243 ⟨(by (try simp only [room_1, rm_L_configure] at *); omega), (by (try simp only [room_1, rm_L_configure] at *); omega)⟩ (kI (fun r5 S4 h => ?_))
  refine gd_istore (pc := 246) X dL_law_246 (by decide) (E2 := [(6, .int r5), (0, .ref b), (1, rf l1), (2, rf l2), (3, rf l3), (4, rf l4), (5, .int l5)]) rfl ?_
  refine gd_aload_n (pc := 248) X 3 dL_law_248 rfl ?_
  refine gd_aloadP (pc := 249) X 1 dL_law_249 rfl ?_
  refine gd_iload (pc := 250) X 6 dL_law_250 rfl ?_
  refine gd_iconst (pc := 252) X (1) dL_law_252 (by decide) ?_
  refine gd_iadd (pc := 253) X dL_law_253 ?_
  obtain ⟨hi6, h⟩ := h
  refine gd_sld (pc := 254) X hX hbl hbA dL_law_254 hi6 ?_
  refine gd_aloadP (pc := 255) X 1 dL_law_255 rfl ?_
  refine gd_iload (pc := 256) X 6 dL_law_256 rfl ?_
  refine gd_iconst (pc := 258) X (2) dL_law_258 (by decide) ?_
  refine gd_iadd (pc := 259) X dL_law_259 ?_
  obtain ⟨hi7, h⟩ := h
  refine gd_sld (pc := 260) X hX hbl hbA dL_law_260 hi7 ?_
  refine gd_aloadP (pc := 261) X 1 dL_law_261 rfl ?_
  refine gd_iload (pc := 262) X 6 dL_law_262 rfl ?_
  refine gd_iconst (pc := 264) X (3) dL_law_264 (by decide) ?_
  refine gd_iadd (pc := 265) X dL_law_265 ?_
  obtain ⟨hi8, h⟩ := h
  refine gd_sld (pc := 266) X hX hbl hbA dL_law_266 hi8 ?_
  obtain ⟨hk9, h⟩ := h
  refine gd_callV (pc := 267) (As := [.int (xs (ix (l5 + 1))), .int (xs (ix (l5 + 2))), .int (xs (ix (l5 + 3)))]) (rest := []) X (ct_X6_configure l G S4 l2 (xs (ix (l5 + 1))) (xs (ix (l5 + 2))) (xs (ix (l5 + 3))) _ h) mw_X6_configure tw_1078 ci6 rfl hk9 ⟨(by (try simp only [room_1, rm_X6_configure, rm_L_configure] at *); omega), (by (try simp only [room_1, rm_X6_configure, rm_L_configure] at *); omega)⟩ rfl rfl (Nat.le_of_ble_eq_true rfl) dL_law_267 ⟨(by (try simp only [room_1, rm_X6_configure, rm_L_configure] at *); omega), (by (try simp only [room_1, rm_X6_configure, rm_L_configure] at *); omega)⟩ (kV (fun S10 h => ?_))
  refine gd_aload_n (pc := 270) X 3 dL_law_270 rfl ?_
  obtain ⟨hk12, h⟩ := h
  refine gd_callV (pc := 271) (As := []) (rest := []) X (ct_X6_thrown l G S10 l2 _ h) mw_X6_thrown tw_973 ci6 rfl hk12 ⟨(by (try simp only [room_1, rm_X6_thrown, rm_L_configure, rm_X6_configure] at *); omega), (by (try simp only [room_1, rm_X6_thrown, rm_L_configure, rm_X6_configure] at *); omega)⟩ rfl rfl (Nat.le_of_ble_eq_true rfl) dL_law_271 ⟨(by (try simp only [room_1, rm_X6_thrown, rm_L_configure, rm_X6_configure] at *); omega), (by (try simp only [room_1, rm_X6_thrown, rm_L_configure, rm_X6_configure] at *); omega)⟩ (kI (fun r14 S13 h => ?_))
  refine gd_iload (pc := 274) X 0 dL_law_274 rfl ?_
  refine gd_icmp_eq (pc := 276) X 281 dL_law_276 (by decide) (fun hc16 => ?_) (fun hc16 => ?_)
  · have h := h.1 hc16
    refine gd_goto (pc := 281) X 2345 dL_law_281 (by decide) ?_
    obtain ⟨v15, hv15⟩ : ∃ z : Int32, z = l5 + 5 := ⟨_, rfl⟩
    have h := h v15 hv15
    refine gd_iinc (pc := 2345) (v := v15) X 6 dL_law_2345 rfl (by rw [hv15]; rfl) (by decide) (E2 := [(5, .int v15), (6, .int r5), (0, .ref b), (1, rf l1), (2, rf l2), (3, rf l3), (4, rf l4)]) (by simp [rf_cat, lv1, int_cat, ref_cat] <;> decide) ?_
    refine gd_goto (pc := 2348) X 28 dL_law_2348 (by decide) ?_
    refine gd_wide (k2 := k + 36) (j2 := j + 292) (by (try simp only [room_1, rm_X6_thrown, rm_L_configure, rm_X6_configure] at *); omega) (by (try simp only [room_1, rm_X6_thrown, rm_L_configure, rm_X6_configure] at *); omega) ?_
    refine gd_sub [2, 3, 4, 5, 6, 0] rfl ?_
    exact hKH28 _ _ _ _ _ _ h
  · have h := h.2 hc16
    refine gd_iconst (pc := 279) X (0) dL_law_279 (by decide) ?_
    exact h.elim
def b_L_law_284 (xs : Nat → Int32) (Lx : Nat) (KH28 : MS → Nat → Nat → Nat → Nat → Int32 → Prop) (S : MS) (l1 l2 l3 l4 : Nat) (l5 : Int32) : Prop := w_L_begin S l1 l3 (fun r2 S1 => kT S1 l2 = 7 ∧ w_X6_begin S1 l2 (fun r5 S4 => kT S4 l2 = 7 ∧ w_X6_thrown S4 l2 (fun r8 S7 => ((r8 = r2 → ((¬ r2 = 0 → ∀ v9 : Int32, v9 = l5 + 5 → KH28 S7 l1 l2 l3 l4 v9) ∧ (r2 = 0 → kT S7 l3 = 15 ∧ vp_in 0 (kL S7 l3) ∧ (((lg_cmp (sL S7 l3 (ix 0)) r5.toInt64) = 0 → ∀ v12 : Int32, v12 = l5 + 5 → KH28 S7 l1 l2 l3 l4 v12) ∧ (¬ (lg_cmp (sL S7 l3 (ix 0)) r5.toInt64) = 0 → False))))) ∧ (¬ r8 = r2 → False)))))
set_option maxHeartbeats 4000000 in
set_option maxRecDepth 100000 in
theorem gl_284 {p : Program} {l : Launch} {e : Env} {s : State} {m : MethodId} {below : List Frame} {meth : Method} {c : Code} {G : GP} {b Lx : Nat} {xs : Nat → Int32} (hfl : l.stackTraces = false) (X : Cx p s m #[Value.ref b] c code 9 R_law G) (hX : va_X b Lx xs s s.heap) (hbl : b < s.heap.size) (hbA : ¬ Ab G b) (hrt : meth.sig.returnType = ret) (hlk : meth.locks = false) (hG : G.2.2 = s.heap.size) {k j : Nat} (hk : k + 36 ≤ 603072) (hj : j + 292 ≤ 7178346) (KH28 : MS → Nat → Nat → Nat → Nat → Int32 → Prop) (hKH28 : ∀ (S : MS) (l1 l2 l3 l4 : Nat) (l5 : Int32), KH28 S l1 l2 l3 l4 l5 → Gd p l e room_1 s m #[Value.ref b] below meth c 9 G (lw_Z below #[Value.ref b] s) (k + 36) (j + 292) S 28 [(0, .ref b), (1, rf l1), (2, rf l2), (3, rf l3), (4, rf l4), (5, .int l5)] []) : ∀ (S : MS) (l1 l2 l3 l4 : Nat) (l5 : Int32), b_L_law_284 xs Lx KH28 S l1 l2 l3 l4 l5 → Gd p l e room_1 s m #[Value.ref b] below meth c 9 G (lw_Z below #[Value.ref b] s) k j S 284 [(0, .ref b), (1, rf l1), (2, rf l2), (3, rf l3), (4, rf l4), (5, .int l5)] [] := by
  intro S l1 l2 l3 l4 l5 h
  refine gd_aload_n (pc := 284) X 1 dL_law_284 rfl ?_
  refine gd_aload_n (pc := 285) X 3 dL_law_285 rfl ?_
  refine gd_callW (n := 2) (pc := 286) (As := [rf l1, rf l3]) (rest := []) X (ct_L_begin l hfl G S l1 l3 _ h) tw_322 tw_0 tw_323 ⟨by decide, by decide, by decide +kernel⟩ tw_321 ⟨(by (try simp only [room_1, rm_L_begin] at *); omega), (by (try simp only [room_1, rm_L_begin] at *); omega)⟩ rfl rfl (Nat.le_of_ble_eq_true rfl) dL_law_286 ⟨(by (try simp only [room_1, rm_L_begin] at *); omega), (by (try simp only [room_1, rm_L_begin] at *); omega)⟩ (kI (fun r2 S1 h => ?_))
  refine gd_istore (pc := 289) X dL_law_289 (by decide) (E2 := [(6, .int r2), (0, .ref b), (1, rf l1), (2, rf l2), (3, rf l3), (4, rf l4), (5, .int l5)]) rfl ?_
  refine gd_aload_n (pc := 291) X 3 dL_law_291 rfl ?_
  obtain ⟨hk3, h⟩ := h
  refine gd_callV (pc := 292) (As := []) (rest := []) X (ct_X6_begin l G S1 l2 _ h) mw_X6_begin tw_1089 ci6 rfl hk3 ⟨(by (try simp only [room_1, rm_X6_begin, rm_L_begin] at *); omega), (by (try simp only [room_1, rm_X6_begin, rm_L_begin] at *); omega)⟩ rfl rfl (Nat.le_of_ble_eq_true rfl) dL_law_292 ⟨(by (try simp only [room_1, rm_X6_begin, rm_L_begin] at *); omega), (by (try simp only [room_1, rm_X6_begin, rm_L_begin] at *); omega)⟩ (kI (fun r5 S4 h => ?_))
  refine gd_istore (pc := 295) X dL_law_295 (by decide) (E2 := [(7, .int r5), (6, .int r2), (0, .ref b), (1, rf l1), (2, rf l2), (3, rf l3), (4, rf l4), (5, .int l5)]) rfl ?_
  refine gd_aload_n (pc := 297) X 4 dL_law_297 rfl ?_
  obtain ⟨hk6, h⟩ := h
  refine gd_callV (pc := 298) (As := []) (rest := []) X (ct_X6_thrown l G S4 l2 _ h) mw_X6_thrown tw_973 ci6 rfl hk6 ⟨(by (try simp only [room_1, rm_X6_thrown, rm_L_begin, rm_X6_begin] at *); omega), (by (try simp only [room_1, rm_X6_thrown, rm_L_begin, rm_X6_begin] at *); omega)⟩ rfl rfl (Nat.le_of_ble_eq_true rfl) dL_law_298 ⟨(by (try simp only [room_1, rm_X6_thrown, rm_L_begin, rm_X6_begin] at *); omega), (by (try simp only [room_1, rm_X6_thrown, rm_L_begin, rm_X6_begin] at *); omega)⟩ (kI (fun r8 S7 h => ?_))
  refine gd_iload (pc := 301) X 1 dL_law_301 rfl ?_
  refine gd_icmp_eq (pc := 303) X 308 dL_law_303 (by decide) (fun hc15 => ?_) (fun hc15 => ?_)
  · have h := h.1 hc15
    refine gd_iload (pc := 308) X 1 dL_law_308 rfl ?_
    refine gd_if_ne (pc := 310) X 325 dL_law_310 (by decide) (fun hc14 => ?_) (fun hc14 => ?_)
    · have h := h.1 hc14
      refine gd_goto (pc := 325) X 2345 dL_law_325 (by decide) ?_
      obtain ⟨v9, hv9⟩ : ∃ z : Int32, z = l5 + 5 := ⟨_, rfl⟩
      have h := h v9 hv9
      refine gd_iinc (pc := 2345) (v := v9) X 7 dL_law_2345 rfl (by rw [hv9]; rfl) (by decide) (E2 := [(5, .int v9), (7, .int r5), (6, .int r2), (0, .ref b), (1, rf l1), (2, rf l2), (3, rf l3), (4, rf l4)]) (by simp [rf_cat, lv1, int_cat, ref_cat] <;> decide) ?_
      refine gd_goto (pc := 2348) X 28 dL_law_2348 (by decide) ?_
      refine gd_wide (k2 := k + 36) (j2 := j + 292) (by (try simp only [room_1, rm_X6_thrown, rm_L_begin, rm_X6_begin] at *); omega) (by (try simp only [room_1, rm_X6_thrown, rm_L_begin, rm_X6_begin] at *); omega) ?_
      refine gd_sub [3, 4, 5, 6, 7, 0] rfl ?_
      exact hKH28 _ _ _ _ _ _ h
    · have h := h.2 hc14
      refine gd_aload_n (pc := 313) X 5 dL_law_313 rfl ?_
      refine gd_iconst (pc := 314) X (0) dL_law_314 (by decide) ?_
      obtain ⟨hk10, h⟩ := h
      obtain ⟨hi11, h⟩ := h
      refine gd_lald (pc := 315) X dL_law_315 hk10 hi11 ?_
      refine gd_iload (pc := 316) X 0 dL_law_316 rfl ?_
      refine gd_i2l (pc := 318) X dL_law_318 ?_
      refine gd_lcmp (pc := 319) X dL_law_319 ?_
      refine gd_if_eq (pc := 320) X 325 dL_law_320 (by decide) (fun hc13 => ?_) (fun hc13 => ?_)
      · have h := h.1 hc13
        refine gd_goto (pc := 325) X 2345 dL_law_325 (by decide) ?_
        obtain ⟨v12, hv12⟩ : ∃ z : Int32, z = l5 + 5 := ⟨_, rfl⟩
        have h := h v12 hv12
        refine gd_iinc (pc := 2345) (v := v12) X 7 dL_law_2345 rfl (by rw [hv12]; rfl) (by decide) (E2 := [(5, .int v12), (7, .int r5), (6, .int r2), (0, .ref b), (1, rf l1), (2, rf l2), (3, rf l3), (4, rf l4)]) (by simp [rf_cat, lv1, int_cat, ref_cat] <;> decide) ?_
        refine gd_goto (pc := 2348) X 28 dL_law_2348 (by decide) ?_
        refine gd_wide (k2 := k + 36) (j2 := j + 292) (by (try simp only [room_1, rm_X6_thrown, rm_L_begin, rm_X6_begin] at *); omega) (by (try simp only [room_1, rm_X6_thrown, rm_L_begin, rm_X6_begin] at *); omega) ?_
        refine gd_sub [3, 4, 5, 6, 7, 0] rfl ?_
        exact hKH28 _ _ _ _ _ _ h
      · have h := h.2 hc13
        refine gd_iconst (pc := 323) X (0) dL_law_323 (by decide) ?_
        exact h.elim
  · have h := h.2 hc15
    refine gd_iconst (pc := 306) X (0) dL_law_306 (by decide) ?_
    exact h.elim
def b_L_law_328 (xs : Nat → Int32) (Lx : Nat) (KH28 : MS → Nat → Nat → Nat → Nat → Int32 → Prop) (S : MS) (l1 l2 l3 l4 : Nat) (l5 : Int32) : Prop := vp_in (l5 + 1) Lx ∧ w_L_retry S l1 (xs (ix (l5 + 1))) l3 (fun r3 S2 => vp_in (l5 + 1) Lx ∧ kT S2 l2 = 7 ∧ w_X6_retry S2 l2 (xs (ix (l5 + 1))) (fun r7 S6 => kT S6 l2 = 7 ∧ w_X6_thrown S6 l2 (fun r10 S9 => ((r10 = r3 → ((¬ r3 = 0 → ∀ v11 : Int32, v11 = l5 + 5 → KH28 S9 l1 l2 l3 l4 v11) ∧ (r3 = 0 → kT S9 l3 = 15 ∧ vp_in 0 (kL S9 l3) ∧ (((lg_cmp (sL S9 l3 (ix 0)) r7.toInt64) = 0 → ∀ v14 : Int32, v14 = l5 + 5 → KH28 S9 l1 l2 l3 l4 v14) ∧ (¬ (lg_cmp (sL S9 l3 (ix 0)) r7.toInt64) = 0 → False))))) ∧ (¬ r10 = r3 → False)))))
set_option maxHeartbeats 4000000 in
set_option maxRecDepth 100000 in
theorem gl_328 {p : Program} {l : Launch} {e : Env} {s : State} {m : MethodId} {below : List Frame} {meth : Method} {c : Code} {G : GP} {b Lx : Nat} {xs : Nat → Int32} (hfl : l.stackTraces = false) (X : Cx p s m #[Value.ref b] c code 9 R_law G) (hX : va_X b Lx xs s s.heap) (hbl : b < s.heap.size) (hbA : ¬ Ab G b) (hrt : meth.sig.returnType = ret) (hlk : meth.locks = false) (hG : G.2.2 = s.heap.size) {k j : Nat} (hk : k + 36 ≤ 603072) (hj : j + 292 ≤ 7178346) (KH28 : MS → Nat → Nat → Nat → Nat → Int32 → Prop) (hKH28 : ∀ (S : MS) (l1 l2 l3 l4 : Nat) (l5 : Int32), KH28 S l1 l2 l3 l4 l5 → Gd p l e room_1 s m #[Value.ref b] below meth c 9 G (lw_Z below #[Value.ref b] s) (k + 36) (j + 292) S 28 [(0, .ref b), (1, rf l1), (2, rf l2), (3, rf l3), (4, rf l4), (5, .int l5)] []) : ∀ (S : MS) (l1 l2 l3 l4 : Nat) (l5 : Int32), b_L_law_328 xs Lx KH28 S l1 l2 l3 l4 l5 → Gd p l e room_1 s m #[Value.ref b] below meth c 9 G (lw_Z below #[Value.ref b] s) k j S 328 [(0, .ref b), (1, rf l1), (2, rf l2), (3, rf l3), (4, rf l4), (5, .int l5)] [] := by
  intro S l1 l2 l3 l4 l5 h
  refine gd_aload_n (pc := 328) X 1 dL_law_328 rfl ?_
  refine gd_aloadP (pc := 329) X 0 dL_law_329 rfl ?_
  refine gd_iload (pc := 330) X 5 dL_law_330 rfl ?_
  refine gd_iconst (pc := 332) X (1) dL_law_332 (by decide) ?_
  refine gd_iadd (pc := 333) X dL_law_333 ?_
  obtain ⟨hi1, h⟩ := h
  refine gd_sld (pc := 334) X hX hbl hbA dL_law_334 hi1 ?_
  refine gd_aload_n (pc := 335) X 3 dL_law_335 rfl ?_
  refine gd_callW (n := 3) (pc := 336) (As := [rf l1, .int (xs (ix (l5 + 1))), rf l3]) (rest := []) X (ct_L_retry l hfl G S l1 (xs (ix (l5 + 1))) l3 _ h) tw_396 tw_0 tw_397 ⟨by decide, by decide, by decide +kernel⟩ tw_395 ⟨(by (try simp only [room_1, rm_L_retry] at *); omega), (by (try simp only [room_1, rm_L_retry] at *); omega)⟩ rfl rfl (Nat.le_of_ble_eq_true rfl) dL_law_336 ⟨(by (try simp only [room_1, rm_L_retry] at *); omega), (by (try simp only [room_1, rm_L_retry] at *); omega)⟩ (kI (fun r3 S2 h => ?_))
  refine gd_istore (pc := 339) X dL_law_339 (by decide) (E2 := [(6, .int r3), (0, .ref b), (1, rf l1), (2, rf l2), (3, rf l3), (4, rf l4), (5, .int l5)]) rfl ?_
  refine gd_aload_n (pc := 341) X 3 dL_law_341 rfl ?_
  refine gd_aloadP (pc := 342) X 1 dL_law_342 rfl ?_
  refine gd_iload (pc := 343) X 6 dL_law_343 rfl ?_
  refine gd_iconst (pc := 345) X (1) dL_law_345 (by decide) ?_
  refine gd_iadd (pc := 346) X dL_law_346 ?_
  obtain ⟨hi4, h⟩ := h
  refine gd_sld (pc := 347) X hX hbl hbA dL_law_347 hi4 ?_
  obtain ⟨hk5, h⟩ := h
  refine gd_callV (pc := 348) (As := [.int (xs (ix (l5 + 1)))]) (rest := []) X (ct_X6_retry l G S2 l2 (xs (ix (l5 + 1))) _ h) mw_X6_retry tw_1105 ci6 rfl hk5 ⟨(by (try simp only [room_1, rm_X6_retry, rm_L_retry] at *); omega), (by (try simp only [room_1, rm_X6_retry, rm_L_retry] at *); omega)⟩ rfl rfl (Nat.le_of_ble_eq_true rfl) dL_law_348 ⟨(by (try simp only [room_1, rm_X6_retry, rm_L_retry] at *); omega), (by (try simp only [room_1, rm_X6_retry, rm_L_retry] at *); omega)⟩ (kI (fun r7 S6 h => ?_))
  refine gd_istore (pc := 351) X dL_law_351 (by decide) (E2 := [(7, .int r7), (6, .int r3), (0, .ref b), (1, rf l1), (2, rf l2), (3, rf l3), (4, rf l4), (5, .int l5)]) rfl ?_
  refine gd_aload_n (pc := 353) X 4 dL_law_353 rfl ?_
  obtain ⟨hk8, h⟩ := h
  refine gd_callV (pc := 354) (As := []) (rest := []) X (ct_X6_thrown l G S6 l2 _ h) mw_X6_thrown tw_973 ci6 rfl hk8 ⟨(by (try simp only [room_1, rm_X6_thrown, rm_L_retry, rm_X6_retry] at *); omega), (by (try simp only [room_1, rm_X6_thrown, rm_L_retry, rm_X6_retry] at *); omega)⟩ rfl rfl (Nat.le_of_ble_eq_true rfl) dL_law_354 ⟨(by (try simp only [room_1, rm_X6_thrown, rm_L_retry, rm_X6_retry] at *); omega), (by (try simp only [room_1, rm_X6_thrown, rm_L_retry, rm_X6_retry] at *); omega)⟩ (kI (fun r10 S9 h => ?_))
  refine gd_iload (pc := 357) X 1 dL_law_357 rfl ?_
  refine gd_icmp_eq (pc := 359) X 364 dL_law_359 (by decide) (fun hc17 => ?_) (fun hc17 => ?_)
  · have h := h.1 hc17
    refine gd_iload (pc := 364) X 1 dL_law_364 rfl ?_
    refine gd_if_ne (pc := 366) X 381 dL_law_366 (by decide) (fun hc16 => ?_) (fun hc16 => ?_)
    · have h := h.1 hc16
      refine gd_goto (pc := 381) X 2345 dL_law_381 (by decide) ?_
      obtain ⟨v11, hv11⟩ : ∃ z : Int32, z = l5 + 5 := ⟨_, rfl⟩
      have h := h v11 hv11
      refine gd_iinc (pc := 2345) (v := v11) X 7 dL_law_2345 rfl (by rw [hv11]; rfl) (by decide) (E2 := [(5, .int v11), (7, .int r7), (6, .int r3), (0, .ref b), (1, rf l1), (2, rf l2), (3, rf l3), (4, rf l4)]) (by simp [rf_cat, lv1, int_cat, ref_cat] <;> decide) ?_
      refine gd_goto (pc := 2348) X 28 dL_law_2348 (by decide) ?_
      refine gd_wide (k2 := k + 36) (j2 := j + 292) (by (try simp only [room_1, rm_X6_thrown, rm_L_retry, rm_X6_retry] at *); omega) (by (try simp only [room_1, rm_X6_thrown, rm_L_retry, rm_X6_retry] at *); omega) ?_
      refine gd_sub [3, 4, 5, 6, 7, 0] rfl ?_
      exact hKH28 _ _ _ _ _ _ h
    · have h := h.2 hc16
      refine gd_aload_n (pc := 369) X 5 dL_law_369 rfl ?_
      refine gd_iconst (pc := 370) X (0) dL_law_370 (by decide) ?_
      obtain ⟨hk12, h⟩ := h
      obtain ⟨hi13, h⟩ := h
      refine gd_lald (pc := 371) X dL_law_371 hk12 hi13 ?_
      refine gd_iload (pc := 372) X 0 dL_law_372 rfl ?_
      refine gd_i2l (pc := 374) X dL_law_374 ?_
      refine gd_lcmp (pc := 375) X dL_law_375 ?_
      refine gd_if_eq (pc := 376) X 381 dL_law_376 (by decide) (fun hc15 => ?_) (fun hc15 => ?_)
      · have h := h.1 hc15
        refine gd_goto (pc := 381) X 2345 dL_law_381 (by decide) ?_
        obtain ⟨v14, hv14⟩ : ∃ z : Int32, z = l5 + 5 := ⟨_, rfl⟩
        have h := h v14 hv14
        refine gd_iinc (pc := 2345) (v := v14) X 7 dL_law_2345 rfl (by rw [hv14]; rfl) (by decide) (E2 := [(5, .int v14), (7, .int r7), (6, .int r3), (0, .ref b), (1, rf l1), (2, rf l2), (3, rf l3), (4, rf l4)]) (by simp [rf_cat, lv1, int_cat, ref_cat] <;> decide) ?_
        refine gd_goto (pc := 2348) X 28 dL_law_2348 (by decide) ?_
        refine gd_wide (k2 := k + 36) (j2 := j + 292) (by (try simp only [room_1, rm_X6_thrown, rm_L_retry, rm_X6_retry] at *); omega) (by (try simp only [room_1, rm_X6_thrown, rm_L_retry, rm_X6_retry] at *); omega) ?_
        refine gd_sub [3, 4, 5, 6, 7, 0] rfl ?_
        exact hKH28 _ _ _ _ _ _ h
      · have h := h.2 hc15
        refine gd_iconst (pc := 379) X (0) dL_law_379 (by decide) ?_
        exact h.elim
  · have h := h.2 hc17
    refine gd_iconst (pc := 362) X (0) dL_law_362 (by decide) ?_
    exact h.elim
def b_L_law_384 (xs : Nat → Int32) (Lx : Nat) (KH28 : MS → Nat → Nat → Nat → Nat → Int32 → Prop) (S : MS) (l1 l2 l3 l4 : Nat) (l5 : Int32) : Prop := vp_in (l5 + 1) Lx ∧ vp_in (l5 + 2) Lx ∧ w_L_read S l1 (xs (ix (l5 + 1))) (xs (ix (l5 + 2))) l3 (fun r4 S3 => vp_in (l5 + 1) Lx ∧ vp_in (l5 + 2) Lx ∧ kT S3 l2 = 7 ∧ w_X6_read S3 l2 (xs (ix (l5 + 1))) (xs (ix (l5 + 2))) (fun r9 S8 => kT S8 l2 = 7 ∧ w_X6_thrown S8 l2 (fun r12 S11 => ((r12 = r4 → ((¬ r4 = 0 → ∀ v13 : Int32, v13 = l5 + 5 → KH28 S11 l1 l2 l3 l4 v13) ∧ (r4 = 0 → kT S11 l3 = 15 ∧ vp_in 0 (kL S11 l3) ∧ (((lg_cmp (sL S11 l3 (ix 0)) r9.toInt64) = 0 → ∀ v16 : Int32, v16 = l5 + 5 → KH28 S11 l1 l2 l3 l4 v16) ∧ (¬ (lg_cmp (sL S11 l3 (ix 0)) r9.toInt64) = 0 → False))))) ∧ (¬ r12 = r4 → False)))))
set_option maxHeartbeats 4000000 in
set_option maxRecDepth 100000 in
theorem gl_384 {p : Program} {l : Launch} {e : Env} {s : State} {m : MethodId} {below : List Frame} {meth : Method} {c : Code} {G : GP} {b Lx : Nat} {xs : Nat → Int32} (hfl : l.stackTraces = false) (X : Cx p s m #[Value.ref b] c code 9 R_law G) (hX : va_X b Lx xs s s.heap) (hbl : b < s.heap.size) (hbA : ¬ Ab G b) (hrt : meth.sig.returnType = ret) (hlk : meth.locks = false) (hG : G.2.2 = s.heap.size) {k j : Nat} (hk : k + 36 ≤ 603072) (hj : j + 292 ≤ 7178346) (KH28 : MS → Nat → Nat → Nat → Nat → Int32 → Prop) (hKH28 : ∀ (S : MS) (l1 l2 l3 l4 : Nat) (l5 : Int32), KH28 S l1 l2 l3 l4 l5 → Gd p l e room_1 s m #[Value.ref b] below meth c 9 G (lw_Z below #[Value.ref b] s) (k + 36) (j + 292) S 28 [(0, .ref b), (1, rf l1), (2, rf l2), (3, rf l3), (4, rf l4), (5, .int l5)] []) : ∀ (S : MS) (l1 l2 l3 l4 : Nat) (l5 : Int32), b_L_law_384 xs Lx KH28 S l1 l2 l3 l4 l5 → Gd p l e room_1 s m #[Value.ref b] below meth c 9 G (lw_Z below #[Value.ref b] s) k j S 384 [(0, .ref b), (1, rf l1), (2, rf l2), (3, rf l3), (4, rf l4), (5, .int l5)] [] := by
  intro S l1 l2 l3 l4 l5 h
  refine gd_aload_n (pc := 384) X 1 dL_law_384 rfl ?_
  refine gd_aloadP (pc := 385) X 0 dL_law_385 rfl ?_
  refine gd_iload (pc := 386) X 5 dL_law_386 rfl ?_
  refine gd_iconst (pc := 388) X (1) dL_law_388 (by decide) ?_
  refine gd_iadd (pc := 389) X dL_law_389 ?_
  obtain ⟨hi1, h⟩ := h
  refine gd_sld (pc := 390) X hX hbl hbA dL_law_390 hi1 ?_
  refine gd_aloadP (pc := 391) X 0 dL_law_391 rfl ?_
  refine gd_iload (pc := 392) X 5 dL_law_392 rfl ?_
  refine gd_iconst (pc := 394) X (2) dL_law_394 (by decide) ?_
  refine gd_iadd (pc := 395) X dL_law_395 ?_
  obtain ⟨hi2, h⟩ := h
  refine gd_sld (pc := 396) X hX hbl hbA dL_law_396 hi2 ?_
  refine gd_aload_n (pc := 397) X 3 dL_law_397 rfl ?_
  refine gd_callW (n := 4) (pc := 398) (As := [rf l1, .int (xs (ix (l5 + 1))), .int (xs (ix (l5 + 2))), rf l3]) (rest := []) X (ct_L_read l hfl G S l1 (xs (ix (l5 + 1))) (xs (ix (l5 + 2))) l3 _ h) tw_445 tw_0 tw_446 ⟨by decide, by decide, by decide +kernel⟩ tw_444 ⟨(by (try simp only [room_1, rm_L_read] at *); omega), (by (try simp only [room_1, rm_L_read] at *); omega)⟩ rfl rfl (Nat.le_of_ble_eq_true rfl) dL_law_398 ⟨(by (try simp only [room_1, rm_L_read] at *); omega), (by (try simp only [room_1, rm_L_read] at *); omega)⟩ (kI (fun r4 S3 h => ?_))
  refine gd_istore (pc := 401) X dL_law_401 (by decide) (E2 := [(6, .int r4), (0, .ref b), (1, rf l1), (2, rf l2), (3, rf l3), (4, rf l4), (5, .int l5)]) rfl ?_
  refine gd_aload_n (pc := 403) X 3 dL_law_403 rfl ?_
  refine gd_aloadP (pc := 404) X 1 dL_law_404 rfl ?_
  refine gd_iload (pc := 405) X 6 dL_law_405 rfl ?_
  refine gd_iconst (pc := 407) X (1) dL_law_407 (by decide) ?_
  refine gd_iadd (pc := 408) X dL_law_408 ?_
  obtain ⟨hi5, h⟩ := h
  refine gd_sld (pc := 409) X hX hbl hbA dL_law_409 hi5 ?_
  refine gd_aloadP (pc := 410) X 1 dL_law_410 rfl ?_
  refine gd_iload (pc := 411) X 6 dL_law_411 rfl ?_
  refine gd_iconst (pc := 413) X (2) dL_law_413 (by decide) ?_
  refine gd_iadd (pc := 414) X dL_law_414 ?_
  obtain ⟨hi6, h⟩ := h
  refine gd_sld (pc := 415) X hX hbl hbA dL_law_415 hi6 ?_
  obtain ⟨hk7, h⟩ := h
  refine gd_callV (pc := 416) (As := [.int (xs (ix (l5 + 1))), .int (xs (ix (l5 + 2)))]) (rest := []) X (ct_X6_read l G S3 l2 (xs (ix (l5 + 1))) (xs (ix (l5 + 2))) _ h) mw_X6_read tw_1113 ci6 rfl hk7 ⟨(by (try simp only [room_1, rm_X6_read, rm_L_read] at *); omega), (by (try simp only [room_1, rm_X6_read, rm_L_read] at *); omega)⟩ rfl rfl (Nat.le_of_ble_eq_true rfl) dL_law_416 ⟨(by (try simp only [room_1, rm_X6_read, rm_L_read] at *); omega), (by (try simp only [room_1, rm_X6_read, rm_L_read] at *); omega)⟩ (kI (fun r9 S8 h => ?_))
  refine gd_istore (pc := 419) X dL_law_419 (by decide) (E2 := [(7, .int r9), (6, .int r4), (0, .ref b), (1, rf l1), (2, rf l2), (3, rf l3), (4, rf l4), (5, .int l5)]) rfl ?_
  refine gd_aload_n (pc := 421) X 4 dL_law_421 rfl ?_
  obtain ⟨hk10, h⟩ := h
  refine gd_callV (pc := 422) (As := []) (rest := []) X (ct_X6_thrown l G S8 l2 _ h) mw_X6_thrown tw_973 ci6 rfl hk10 ⟨(by (try simp only [room_1, rm_X6_thrown, rm_L_read, rm_X6_read] at *); omega), (by (try simp only [room_1, rm_X6_thrown, rm_L_read, rm_X6_read] at *); omega)⟩ rfl rfl (Nat.le_of_ble_eq_true rfl) dL_law_422 ⟨(by (try simp only [room_1, rm_X6_thrown, rm_L_read, rm_X6_read] at *); omega), (by (try simp only [room_1, rm_X6_thrown, rm_L_read, rm_X6_read] at *); omega)⟩ (kI (fun r12 S11 h => ?_))
  refine gd_iload (pc := 425) X 1 dL_law_425 rfl ?_
  refine gd_icmp_eq (pc := 427) X 432 dL_law_427 (by decide) (fun hc19 => ?_) (fun hc19 => ?_)
  · have h := h.1 hc19
    refine gd_iload (pc := 432) X 1 dL_law_432 rfl ?_
    refine gd_if_ne (pc := 434) X 449 dL_law_434 (by decide) (fun hc18 => ?_) (fun hc18 => ?_)
    · have h := h.1 hc18
      refine gd_goto (pc := 449) X 2345 dL_law_449 (by decide) ?_
      obtain ⟨v13, hv13⟩ : ∃ z : Int32, z = l5 + 5 := ⟨_, rfl⟩
      have h := h v13 hv13
      refine gd_iinc (pc := 2345) (v := v13) X 7 dL_law_2345 rfl (by rw [hv13]; rfl) (by decide) (E2 := [(5, .int v13), (7, .int r9), (6, .int r4), (0, .ref b), (1, rf l1), (2, rf l2), (3, rf l3), (4, rf l4)]) (by simp [rf_cat, lv1, int_cat, ref_cat] <;> decide) ?_
      refine gd_goto (pc := 2348) X 28 dL_law_2348 (by decide) ?_
      refine gd_wide (k2 := k + 36) (j2 := j + 292) (by (try simp only [room_1, rm_X6_thrown, rm_L_read, rm_X6_read] at *); omega) (by (try simp only [room_1, rm_X6_thrown, rm_L_read, rm_X6_read] at *); omega) ?_
      refine gd_sub [3, 4, 5, 6, 7, 0] rfl ?_
      exact hKH28 _ _ _ _ _ _ h
    · have h := h.2 hc18
      refine gd_aload_n (pc := 437) X 5 dL_law_437 rfl ?_
      refine gd_iconst (pc := 438) X (0) dL_law_438 (by decide) ?_
      obtain ⟨hk14, h⟩ := h
      obtain ⟨hi15, h⟩ := h
      refine gd_lald (pc := 439) X dL_law_439 hk14 hi15 ?_
      refine gd_iload (pc := 440) X 0 dL_law_440 rfl ?_
      refine gd_i2l (pc := 442) X dL_law_442 ?_
      refine gd_lcmp (pc := 443) X dL_law_443 ?_
      refine gd_if_eq (pc := 444) X 449 dL_law_444 (by decide) (fun hc17 => ?_) (fun hc17 => ?_)
      · have h := h.1 hc17
        refine gd_goto (pc := 449) X 2345 dL_law_449 (by decide) ?_
        obtain ⟨v16, hv16⟩ : ∃ z : Int32, z = l5 + 5 := ⟨_, rfl⟩
        have h := h v16 hv16
        refine gd_iinc (pc := 2345) (v := v16) X 7 dL_law_2345 rfl (by rw [hv16]; rfl) (by decide) (E2 := [(5, .int v16), (7, .int r9), (6, .int r4), (0, .ref b), (1, rf l1), (2, rf l2), (3, rf l3), (4, rf l4)]) (by simp [rf_cat, lv1, int_cat, ref_cat] <;> decide) ?_
        refine gd_goto (pc := 2348) X 28 dL_law_2348 (by decide) ?_
        refine gd_wide (k2 := k + 36) (j2 := j + 292) (by (try simp only [room_1, rm_X6_thrown, rm_L_read, rm_X6_read] at *); omega) (by (try simp only [room_1, rm_X6_thrown, rm_L_read, rm_X6_read] at *); omega) ?_
        refine gd_sub [3, 4, 5, 6, 7, 0] rfl ?_
        exact hKH28 _ _ _ _ _ _ h
      · have h := h.2 hc17
        refine gd_iconst (pc := 447) X (0) dL_law_447 (by decide) ?_
        exact h.elim
  · have h := h.2 hc19
    refine gd_iconst (pc := 430) X (0) dL_law_430 (by decide) ?_
    exact h.elim
def b_L_law_452 (xs : Nat → Int32) (Lx : Nat) (KH28 : MS → Nat → Nat → Nat → Nat → Int32 → Prop) (S : MS) (l1 l2 l3 l4 : Nat) (l5 : Int32) : Prop := vp_in (l5 + 1) Lx ∧ vp_in (l5 + 2) Lx ∧ vp_in (l5 + 3) Lx ∧ vp_in (l5 + 4) Lx ∧ w_L_scan S l1 (xs (ix (l5 + 1))) (xs (ix (l5 + 2))) (xs (ix (l5 + 3))) (xs (ix (l5 + 4))) l3 (fun r6 S5 => vp_in (l5 + 1) Lx ∧ vp_in (l5 + 2) Lx ∧ vp_in (l5 + 3) Lx ∧ vp_in (l5 + 4) Lx ∧ kT S5 l2 = 7 ∧ w_X6_scan S5 l2 (xs (ix (l5 + 1))) (xs (ix (l5 + 2))) (xs (ix (l5 + 3))) (xs (ix (l5 + 4))) (fun r13 S12 => kT S12 l2 = 7 ∧ w_X6_thrown S12 l2 (fun r16 S15 => ((r16 = r6 → ((¬ r6 = 0 → ∀ v17 : Int32, v17 = l5 + 5 → KH28 S15 l1 l2 l3 l4 v17) ∧ (r6 = 0 → kT S15 l3 = 15 ∧ vp_in 0 (kL S15 l3) ∧ (((lg_cmp (sL S15 l3 (ix 0)) r13.toInt64) = 0 → ∀ v20 : Int32, v20 = l5 + 5 → KH28 S15 l1 l2 l3 l4 v20) ∧ (¬ (lg_cmp (sL S15 l3 (ix 0)) r13.toInt64) = 0 → False))))) ∧ (¬ r16 = r6 → False)))))
set_option maxHeartbeats 4000000 in
set_option maxRecDepth 100000 in
theorem gl_452 {p : Program} {l : Launch} {e : Env} {s : State} {m : MethodId} {below : List Frame} {meth : Method} {c : Code} {G : GP} {b Lx : Nat} {xs : Nat → Int32} (hfl : l.stackTraces = false) (X : Cx p s m #[Value.ref b] c code 9 R_law G) (hX : va_X b Lx xs s s.heap) (hbl : b < s.heap.size) (hbA : ¬ Ab G b) (hrt : meth.sig.returnType = ret) (hlk : meth.locks = false) (hG : G.2.2 = s.heap.size) {k j : Nat} (hk : k + 36 ≤ 603072) (hj : j + 292 ≤ 7178346) (KH28 : MS → Nat → Nat → Nat → Nat → Int32 → Prop) (hKH28 : ∀ (S : MS) (l1 l2 l3 l4 : Nat) (l5 : Int32), KH28 S l1 l2 l3 l4 l5 → Gd p l e room_1 s m #[Value.ref b] below meth c 9 G (lw_Z below #[Value.ref b] s) (k + 36) (j + 292) S 28 [(0, .ref b), (1, rf l1), (2, rf l2), (3, rf l3), (4, rf l4), (5, .int l5)] []) : ∀ (S : MS) (l1 l2 l3 l4 : Nat) (l5 : Int32), b_L_law_452 xs Lx KH28 S l1 l2 l3 l4 l5 → Gd p l e room_1 s m #[Value.ref b] below meth c 9 G (lw_Z below #[Value.ref b] s) k j S 452 [(0, .ref b), (1, rf l1), (2, rf l2), (3, rf l3), (4, rf l4), (5, .int l5)] [] := by
  intro S l1 l2 l3 l4 l5 h
  refine gd_aload_n (pc := 452) X 1 dL_law_452 rfl ?_
  refine gd_aloadP (pc := 453) X 0 dL_law_453 rfl ?_
  refine gd_iload (pc := 454) X 5 dL_law_454 rfl ?_
  refine gd_iconst (pc := 456) X (1) dL_law_456 (by decide) ?_
  refine gd_iadd (pc := 457) X dL_law_457 ?_
  obtain ⟨hi1, h⟩ := h
  refine gd_sld (pc := 458) X hX hbl hbA dL_law_458 hi1 ?_
  refine gd_aloadP (pc := 459) X 0 dL_law_459 rfl ?_
  refine gd_iload (pc := 460) X 5 dL_law_460 rfl ?_
  refine gd_iconst (pc := 462) X (2) dL_law_462 (by decide) ?_
  refine gd_iadd (pc := 463) X dL_law_463 ?_
  obtain ⟨hi2, h⟩ := h
  refine gd_sld (pc := 464) X hX hbl hbA dL_law_464 hi2 ?_
  refine gd_aloadP (pc := 465) X 0 dL_law_465 rfl ?_
  refine gd_iload (pc := 466) X 5 dL_law_466 rfl ?_
  refine gd_iconst (pc := 468) X (3) dL_law_468 (by decide) ?_
  refine gd_iadd (pc := 469) X dL_law_469 ?_
  obtain ⟨hi3, h⟩ := h
  refine gd_sld (pc := 470) X hX hbl hbA dL_law_470 hi3 ?_
  refine gd_aloadP (pc := 471) X 0 dL_law_471 rfl ?_
  refine gd_iload (pc := 472) X 5 dL_law_472 rfl ?_
  refine gd_iconst (pc := 474) X (4) dL_law_474 (by decide) ?_
  refine gd_iadd (pc := 475) X dL_law_475 ?_
  obtain ⟨hi4, h⟩ := h
  refine gd_sld (pc := 476) X hX hbl hbA dL_law_476 hi4 ?_
  refine gd_aload_n (pc := 477) X 3 dL_law_477 rfl ?_
  refine gd_callW (n := 6) (pc := 478) (As := [rf l1, .int (xs (ix (l5 + 1))), .int (xs (ix (l5 + 2))), .int (xs (ix (l5 + 3))), .int (xs (ix (l5 + 4))), rf l3]) (rest := []) X (ct_L_scan l hfl G S l1 (xs (ix (l5 + 1))) (xs (ix (l5 + 2))) (xs (ix (l5 + 3))) (xs (ix (l5 + 4))) l3 _ h) tw_550 tw_0 tw_551 ⟨by decide, by decide, by decide +kernel⟩ tw_549 ⟨(by (try simp only [room_1, rm_L_scan] at *); omega), (by (try simp only [room_1, rm_L_scan] at *); omega)⟩ rfl rfl (Nat.le_of_ble_eq_true rfl) dL_law_478 ⟨(by (try simp only [room_1, rm_L_scan] at *); omega), (by (try simp only [room_1, rm_L_scan] at *); omega)⟩ (kI (fun r6 S5 h => ?_))
  refine gd_istore (pc := 481) X dL_law_481 (by decide) (E2 := [(6, .int r6), (0, .ref b), (1, rf l1), (2, rf l2), (3, rf l3), (4, rf l4), (5, .int l5)]) rfl ?_
  refine gd_aload_n (pc := 483) X 3 dL_law_483 rfl ?_
  refine gd_aloadP (pc := 484) X 1 dL_law_484 rfl ?_
  refine gd_iload (pc := 485) X 6 dL_law_485 rfl ?_
  refine gd_iconst (pc := 487) X (1) dL_law_487 (by decide) ?_
  refine gd_iadd (pc := 488) X dL_law_488 ?_
  obtain ⟨hi7, h⟩ := h
  refine gd_sld (pc := 489) X hX hbl hbA dL_law_489 hi7 ?_
  refine gd_aloadP (pc := 490) X 1 dL_law_490 rfl ?_
  refine gd_iload (pc := 491) X 6 dL_law_491 rfl ?_
  refine gd_iconst (pc := 493) X (2) dL_law_493 (by decide) ?_
  refine gd_iadd (pc := 494) X dL_law_494 ?_
  obtain ⟨hi8, h⟩ := h
  refine gd_sld (pc := 495) X hX hbl hbA dL_law_495 hi8 ?_
  refine gd_aloadP (pc := 496) X 1 dL_law_496 rfl ?_
  refine gd_iload (pc := 497) X 6 dL_law_497 rfl ?_
  refine gd_iconst (pc := 499) X (3) dL_law_499 (by decide) ?_
  refine gd_iadd (pc := 500) X dL_law_500 ?_
  obtain ⟨hi9, h⟩ := h
  refine gd_sld (pc := 501) X hX hbl hbA dL_law_501 hi9 ?_
  refine gd_aloadP (pc := 502) X 1 dL_law_502 rfl ?_
  refine gd_iload (pc := 503) X 6 dL_law_503 rfl ?_
  refine gd_iconst (pc := 505) X (4) dL_law_505 (by decide) ?_
  refine gd_iadd (pc := 506) X dL_law_506 ?_
  obtain ⟨hi10, h⟩ := h
  refine gd_sld (pc := 507) X hX hbl hbA dL_law_507 hi10 ?_
  obtain ⟨hk11, h⟩ := h
  refine gd_callV (pc := 508) (As := [.int (xs (ix (l5 + 1))), .int (xs (ix (l5 + 2))), .int (xs (ix (l5 + 3))), .int (xs (ix (l5 + 4)))]) (rest := []) X (ct_X6_scan l G S5 l2 (xs (ix (l5 + 1))) (xs (ix (l5 + 2))) (xs (ix (l5 + 3))) (xs (ix (l5 + 4))) _ h) mw_X6_scan tw_1140 ci6 rfl hk11 ⟨(by (try simp only [room_1, rm_X6_scan, rm_L_scan] at *); omega), (by (try simp only [room_1, rm_X6_scan, rm_L_scan] at *); omega)⟩ rfl rfl (Nat.le_of_ble_eq_true rfl) dL_law_508 ⟨(by (try simp only [room_1, rm_X6_scan, rm_L_scan] at *); omega), (by (try simp only [room_1, rm_X6_scan, rm_L_scan] at *); omega)⟩ (kI (fun r13 S12 h => ?_))
  refine gd_istore (pc := 511) X dL_law_511 (by decide) (E2 := [(7, .int r13), (6, .int r6), (0, .ref b), (1, rf l1), (2, rf l2), (3, rf l3), (4, rf l4), (5, .int l5)]) rfl ?_
  refine gd_aload_n (pc := 513) X 4 dL_law_513 rfl ?_
  obtain ⟨hk14, h⟩ := h
  refine gd_callV (pc := 514) (As := []) (rest := []) X (ct_X6_thrown l G S12 l2 _ h) mw_X6_thrown tw_973 ci6 rfl hk14 ⟨(by (try simp only [room_1, rm_X6_thrown, rm_L_scan, rm_X6_scan] at *); omega), (by (try simp only [room_1, rm_X6_thrown, rm_L_scan, rm_X6_scan] at *); omega)⟩ rfl rfl (Nat.le_of_ble_eq_true rfl) dL_law_514 ⟨(by (try simp only [room_1, rm_X6_thrown, rm_L_scan, rm_X6_scan] at *); omega), (by (try simp only [room_1, rm_X6_thrown, rm_L_scan, rm_X6_scan] at *); omega)⟩ (kI (fun r16 S15 h => ?_))
  refine gd_iload (pc := 517) X 1 dL_law_517 rfl ?_
  refine gd_icmp_eq (pc := 519) X 524 dL_law_519 (by decide) (fun hc23 => ?_) (fun hc23 => ?_)
  · have h := h.1 hc23
    refine gd_iload (pc := 524) X 1 dL_law_524 rfl ?_
    refine gd_if_ne (pc := 526) X 541 dL_law_526 (by decide) (fun hc22 => ?_) (fun hc22 => ?_)
    · have h := h.1 hc22
      refine gd_goto (pc := 541) X 2345 dL_law_541 (by decide) ?_
      obtain ⟨v17, hv17⟩ : ∃ z : Int32, z = l5 + 5 := ⟨_, rfl⟩
      have h := h v17 hv17
      refine gd_iinc (pc := 2345) (v := v17) X 7 dL_law_2345 rfl (by rw [hv17]; rfl) (by decide) (E2 := [(5, .int v17), (7, .int r13), (6, .int r6), (0, .ref b), (1, rf l1), (2, rf l2), (3, rf l3), (4, rf l4)]) (by simp [rf_cat, lv1, int_cat, ref_cat] <;> decide) ?_
      refine gd_goto (pc := 2348) X 28 dL_law_2348 (by decide) ?_
      refine gd_wide (k2 := k + 36) (j2 := j + 292) (by (try simp only [room_1, rm_X6_thrown, rm_L_scan, rm_X6_scan] at *); omega) (by (try simp only [room_1, rm_X6_thrown, rm_L_scan, rm_X6_scan] at *); omega) ?_
      refine gd_sub [3, 4, 5, 6, 7, 0] rfl ?_
      exact hKH28 _ _ _ _ _ _ h
    · have h := h.2 hc22
      refine gd_aload_n (pc := 529) X 5 dL_law_529 rfl ?_
      refine gd_iconst (pc := 530) X (0) dL_law_530 (by decide) ?_
      obtain ⟨hk18, h⟩ := h
      obtain ⟨hi19, h⟩ := h
      refine gd_lald (pc := 531) X dL_law_531 hk18 hi19 ?_
      refine gd_iload (pc := 532) X 0 dL_law_532 rfl ?_
      refine gd_i2l (pc := 534) X dL_law_534 ?_
      refine gd_lcmp (pc := 535) X dL_law_535 ?_
      refine gd_if_eq (pc := 536) X 541 dL_law_536 (by decide) (fun hc21 => ?_) (fun hc21 => ?_)
      · have h := h.1 hc21
        refine gd_goto (pc := 541) X 2345 dL_law_541 (by decide) ?_
        obtain ⟨v20, hv20⟩ : ∃ z : Int32, z = l5 + 5 := ⟨_, rfl⟩
        have h := h v20 hv20
        refine gd_iinc (pc := 2345) (v := v20) X 7 dL_law_2345 rfl (by rw [hv20]; rfl) (by decide) (E2 := [(5, .int v20), (7, .int r13), (6, .int r6), (0, .ref b), (1, rf l1), (2, rf l2), (3, rf l3), (4, rf l4)]) (by simp [rf_cat, lv1, int_cat, ref_cat] <;> decide) ?_
        refine gd_goto (pc := 2348) X 28 dL_law_2348 (by decide) ?_
        refine gd_wide (k2 := k + 36) (j2 := j + 292) (by (try simp only [room_1, rm_X6_thrown, rm_L_scan, rm_X6_scan] at *); omega) (by (try simp only [room_1, rm_X6_thrown, rm_L_scan, rm_X6_scan] at *); omega) ?_
        refine gd_sub [3, 4, 5, 6, 7, 0] rfl ?_
        exact hKH28 _ _ _ _ _ _ h
      · have h := h.2 hc21
        refine gd_iconst (pc := 539) X (0) dL_law_539 (by decide) ?_
        exact h.elim
  · have h := h.2 hc23
    refine gd_iconst (pc := 522) X (0) dL_law_522 (by decide) ?_
    exact h.elim
def b_L_law_544 (xs : Nat → Int32) (Lx : Nat) (KH28 : MS → Nat → Nat → Nat → Nat → Int32 → Prop) (S : MS) (l1 l2 l3 l4 : Nat) (l5 : Int32) : Prop := vp_in (l5 + 1) Lx ∧ vp_in (l5 + 2) Lx ∧ vp_in (l5 + 3) Lx ∧ w_L_sum S l1 (xs (ix (l5 + 1))) (xs (ix (l5 + 2))) (xs (ix (l5 + 3))) l3 (fun r5 S4 => vp_in (l5 + 1) Lx ∧ vp_in (l5 + 2) Lx ∧ vp_in (l5 + 3) Lx ∧ kT S4 l2 = 7 ∧ w_X6_sum S4 l2 (xs (ix (l5 + 1))) (xs (ix (l5 + 2))) (xs (ix (l5 + 3))) (fun r11 S10 => kT S10 l2 = 7 ∧ w_X6_thrown S10 l2 (fun r14 S13 => ((r14 = r5 → ((¬ r5 = 0 → ∀ v15 : Int32, v15 = l5 + 5 → KH28 S13 l1 l2 l3 l4 v15) ∧ (r5 = 0 → kT S13 l3 = 15 ∧ vp_in 0 (kL S13 l3) ∧ (((lg_cmp (sL S13 l3 (ix 0)) r11.toInt64) = 0 → ∀ v18 : Int32, v18 = l5 + 5 → KH28 S13 l1 l2 l3 l4 v18) ∧ (¬ (lg_cmp (sL S13 l3 (ix 0)) r11.toInt64) = 0 → False))))) ∧ (¬ r14 = r5 → False)))))
set_option maxHeartbeats 4000000 in
set_option maxRecDepth 100000 in
theorem gl_544 {p : Program} {l : Launch} {e : Env} {s : State} {m : MethodId} {below : List Frame} {meth : Method} {c : Code} {G : GP} {b Lx : Nat} {xs : Nat → Int32} (hfl : l.stackTraces = false) (X : Cx p s m #[Value.ref b] c code 9 R_law G) (hX : va_X b Lx xs s s.heap) (hbl : b < s.heap.size) (hbA : ¬ Ab G b) (hrt : meth.sig.returnType = ret) (hlk : meth.locks = false) (hG : G.2.2 = s.heap.size) {k j : Nat} (hk : k + 36 ≤ 603072) (hj : j + 292 ≤ 7178346) (KH28 : MS → Nat → Nat → Nat → Nat → Int32 → Prop) (hKH28 : ∀ (S : MS) (l1 l2 l3 l4 : Nat) (l5 : Int32), KH28 S l1 l2 l3 l4 l5 → Gd p l e room_1 s m #[Value.ref b] below meth c 9 G (lw_Z below #[Value.ref b] s) (k + 36) (j + 292) S 28 [(0, .ref b), (1, rf l1), (2, rf l2), (3, rf l3), (4, rf l4), (5, .int l5)] []) : ∀ (S : MS) (l1 l2 l3 l4 : Nat) (l5 : Int32), b_L_law_544 xs Lx KH28 S l1 l2 l3 l4 l5 → Gd p l e room_1 s m #[Value.ref b] below meth c 9 G (lw_Z below #[Value.ref b] s) k j S 544 [(0, .ref b), (1, rf l1), (2, rf l2), (3, rf l3), (4, rf l4), (5, .int l5)] [] := by
  intro S l1 l2 l3 l4 l5 h
  refine gd_aload_n (pc := 544) X 1 dL_law_544 rfl ?_
  refine gd_aloadP (pc := 545) X 0 dL_law_545 rfl ?_
  refine gd_iload (pc := 546) X 5 dL_law_546 rfl ?_
  refine gd_iconst (pc := 548) X (1) dL_law_548 (by decide) ?_
  refine gd_iadd (pc := 549) X dL_law_549 ?_
  obtain ⟨hi1, h⟩ := h
  refine gd_sld (pc := 550) X hX hbl hbA dL_law_550 hi1 ?_
  refine gd_aloadP (pc := 551) X 0 dL_law_551 rfl ?_
  refine gd_iload (pc := 552) X 5 dL_law_552 rfl ?_
  refine gd_iconst (pc := 554) X (2) dL_law_554 (by decide) ?_
  refine gd_iadd (pc := 555) X dL_law_555 ?_
  obtain ⟨hi2, h⟩ := h
  refine gd_sld (pc := 556) X hX hbl hbA dL_law_556 hi2 ?_
  refine gd_aloadP (pc := 557) X 0 dL_law_557 rfl ?_
  refine gd_iload (pc := 558) X 5 dL_law_558 rfl ?_
  refine gd_iconst (pc := 560) X (3) dL_law_560 (by decide) ?_
  refine gd_iadd (pc := 561) X dL_law_561 ?_
  obtain ⟨hi3, h⟩ := h
  refine gd_sld (pc := 562) X hX hbl hbA dL_law_562 hi3 ?_
  refine gd_aload_n (pc := 563) X 3 dL_law_563 rfl ?_
  refine gd_callW (n := 5) (pc := 564) (As := [rf l1, .int (xs (ix (l5 + 1))), .int (xs (ix (l5 + 2))), .int (xs (ix (l5 + 3))), rf l3]) (rest := []) X (ct_L_sum l hfl G S l1 (xs (ix (l5 + 1))) (xs (ix (l5 + 2))) (xs (ix (l5 + 3))) l3 _ h) tw_557 tw_0 tw_558 ⟨by decide, by decide, by decide +kernel⟩ tw_556 ⟨(by (try simp only [room_1, rm_L_sum] at *); omega), (by (try simp only [room_1, rm_L_sum] at *); omega)⟩ rfl rfl (Nat.le_of_ble_eq_true rfl) dL_law_564 ⟨(by (try simp only [room_1, rm_L_sum] at *); omega), (by (try simp only [room_1, rm_L_sum] at *); omega)⟩ (kI (fun r5 S4 h => ?_))
  refine gd_istore (pc := 567) X dL_law_567 (by decide) (E2 := [(6, .int r5), (0, .ref b), (1, rf l1), (2, rf l2), (3, rf l3), (4, rf l4), (5, .int l5)]) rfl ?_
  refine gd_aload_n (pc := 569) X 3 dL_law_569 rfl ?_
  refine gd_aloadP (pc := 570) X 1 dL_law_570 rfl ?_
  refine gd_iload (pc := 571) X 6 dL_law_571 rfl ?_
  refine gd_iconst (pc := 573) X (1) dL_law_573 (by decide) ?_
  refine gd_iadd (pc := 574) X dL_law_574 ?_
  obtain ⟨hi6, h⟩ := h
  refine gd_sld (pc := 575) X hX hbl hbA dL_law_575 hi6 ?_
  refine gd_aloadP (pc := 576) X 1 dL_law_576 rfl ?_
  refine gd_iload (pc := 577) X 6 dL_law_577 rfl ?_
  refine gd_iconst (pc := 579) X (2) dL_law_579 (by decide) ?_
  refine gd_iadd (pc := 580) X dL_law_580 ?_
  obtain ⟨hi7, h⟩ := h
  refine gd_sld (pc := 581) X hX hbl hbA dL_law_581 hi7 ?_
  refine gd_aloadP (pc := 582) X 1 dL_law_582 rfl ?_
  refine gd_iload (pc := 583) X 6 dL_law_583 rfl ?_
  refine gd_iconst (pc := 585) X (3) dL_law_585 (by decide) ?_
  refine gd_iadd (pc := 586) X dL_law_586 ?_
  obtain ⟨hi8, h⟩ := h
  refine gd_sld (pc := 587) X hX hbl hbA dL_law_587 hi8 ?_
  obtain ⟨hk9, h⟩ := h
  refine gd_callV (pc := 588) (As := [.int (xs (ix (l5 + 1))), .int (xs (ix (l5 + 2))), .int (xs (ix (l5 + 3)))]) (rest := []) X (ct_X6_sum l G S4 l2 (xs (ix (l5 + 1))) (xs (ix (l5 + 2))) (xs (ix (l5 + 3))) _ h) mw_X6_sum tw_1155 ci6 rfl hk9 ⟨(by (try simp only [room_1, rm_X6_sum, rm_L_sum] at *); omega), (by (try simp only [room_1, rm_X6_sum, rm_L_sum] at *); omega)⟩ rfl rfl (Nat.le_of_ble_eq_true rfl) dL_law_588 ⟨(by (try simp only [room_1, rm_X6_sum, rm_L_sum] at *); omega), (by (try simp only [room_1, rm_X6_sum, rm_L_sum] at *); omega)⟩ (kI (fun r11 S10 h => ?_))
  refine gd_istore (pc := 591) X dL_law_591 (by decide) (E2 := [(7, .int r11), (6, .int r5), (0, .ref b), (1, rf l1), (2, rf l2), (3, rf l3), (4, rf l4), (5, .int l5)]) rfl ?_
  refine gd_aload_n (pc := 593) X 4 dL_law_593 rfl ?_
  obtain ⟨hk12, h⟩ := h
  refine gd_callV (pc := 594) (As := []) (rest := []) X (ct_X6_thrown l G S10 l2 _ h) mw_X6_thrown tw_973 ci6 rfl hk12 ⟨(by (try simp only [room_1, rm_X6_thrown, rm_L_sum, rm_X6_sum] at *); omega), (by (try simp only [room_1, rm_X6_thrown, rm_L_sum, rm_X6_sum] at *); omega)⟩ rfl rfl (Nat.le_of_ble_eq_true rfl) dL_law_594 ⟨(by (try simp only [room_1, rm_X6_thrown, rm_L_sum, rm_X6_sum] at *); omega), (by (try simp only [room_1, rm_X6_thrown, rm_L_sum, rm_X6_sum] at *); omega)⟩ (kI (fun r14 S13 h => ?_))
  refine gd_iload (pc := 597) X 1 dL_law_597 rfl ?_
  refine gd_icmp_eq (pc := 599) X 604 dL_law_599 (by decide) (fun hc21 => ?_) (fun hc21 => ?_)
  · have h := h.1 hc21
    refine gd_iload (pc := 604) X 1 dL_law_604 rfl ?_
    refine gd_if_ne (pc := 606) X 621 dL_law_606 (by decide) (fun hc20 => ?_) (fun hc20 => ?_)
    · have h := h.1 hc20
      refine gd_goto (pc := 621) X 2345 dL_law_621 (by decide) ?_
      obtain ⟨v15, hv15⟩ : ∃ z : Int32, z = l5 + 5 := ⟨_, rfl⟩
      have h := h v15 hv15
      refine gd_iinc (pc := 2345) (v := v15) X 7 dL_law_2345 rfl (by rw [hv15]; rfl) (by decide) (E2 := [(5, .int v15), (7, .int r11), (6, .int r5), (0, .ref b), (1, rf l1), (2, rf l2), (3, rf l3), (4, rf l4)]) (by simp [rf_cat, lv1, int_cat, ref_cat] <;> decide) ?_
      refine gd_goto (pc := 2348) X 28 dL_law_2348 (by decide) ?_
      refine gd_wide (k2 := k + 36) (j2 := j + 292) (by (try simp only [room_1, rm_X6_thrown, rm_L_sum, rm_X6_sum] at *); omega) (by (try simp only [room_1, rm_X6_thrown, rm_L_sum, rm_X6_sum] at *); omega) ?_
      refine gd_sub [3, 4, 5, 6, 7, 0] rfl ?_
      exact hKH28 _ _ _ _ _ _ h
    · have h := h.2 hc20
      refine gd_aload_n (pc := 609) X 5 dL_law_609 rfl ?_
      refine gd_iconst (pc := 610) X (0) dL_law_610 (by decide) ?_
      obtain ⟨hk16, h⟩ := h
      obtain ⟨hi17, h⟩ := h
      refine gd_lald (pc := 611) X dL_law_611 hk16 hi17 ?_
      refine gd_iload (pc := 612) X 0 dL_law_612 rfl ?_
      refine gd_i2l (pc := 614) X dL_law_614 ?_
      refine gd_lcmp (pc := 615) X dL_law_615 ?_
      refine gd_if_eq (pc := 616) X 621 dL_law_616 (by decide) (fun hc19 => ?_) (fun hc19 => ?_)
      · have h := h.1 hc19
        refine gd_goto (pc := 621) X 2345 dL_law_621 (by decide) ?_
        obtain ⟨v18, hv18⟩ : ∃ z : Int32, z = l5 + 5 := ⟨_, rfl⟩
        have h := h v18 hv18
        refine gd_iinc (pc := 2345) (v := v18) X 7 dL_law_2345 rfl (by rw [hv18]; rfl) (by decide) (E2 := [(5, .int v18), (7, .int r11), (6, .int r5), (0, .ref b), (1, rf l1), (2, rf l2), (3, rf l3), (4, rf l4)]) (by simp [rf_cat, lv1, int_cat, ref_cat] <;> decide) ?_
        refine gd_goto (pc := 2348) X 28 dL_law_2348 (by decide) ?_
        refine gd_wide (k2 := k + 36) (j2 := j + 292) (by (try simp only [room_1, rm_X6_thrown, rm_L_sum, rm_X6_sum] at *); omega) (by (try simp only [room_1, rm_X6_thrown, rm_L_sum, rm_X6_sum] at *); omega) ?_
        refine gd_sub [3, 4, 5, 6, 7, 0] rfl ?_
        exact hKH28 _ _ _ _ _ _ h
      · have h := h.2 hc19
        refine gd_iconst (pc := 619) X (0) dL_law_619 (by decide) ?_
        exact h.elim
  · have h := h.2 hc21
    refine gd_iconst (pc := 602) X (0) dL_law_602 (by decide) ?_
    exact h.elim
def b_L_law_624 (xs : Nat → Int32) (Lx : Nat) (KH28 : MS → Nat → Nat → Nat → Nat → Int32 → Prop) (S : MS) (l1 l2 l3 l4 : Nat) (l5 : Int32) : Prop := vp_in (l5 + 1) Lx ∧ vp_in (l5 + 2) Lx ∧ vp_in (l5 + 3) Lx ∧ w_L_write S l1 (xs (ix (l5 + 1))) (xs (ix (l5 + 2))) (xs (ix (l5 + 3))) (fun r5 S4 => vp_in (l5 + 1) Lx ∧ vp_in (l5 + 2) Lx ∧ vp_in (l5 + 3) Lx ∧ kT S4 l2 = 7 ∧ w_X6_write S4 l2 (xs (ix (l5 + 1))) (xs (ix (l5 + 2))) (xs (ix (l5 + 3))) (fun S10 => kT S10 l2 = 7 ∧ w_X6_thrown S10 l2 (fun r14 S13 => ((r14 = r5 → ∀ v15 : Int32, v15 = l5 + 5 → KH28 S13 l1 l2 l3 l4 v15) ∧ (¬ r14 = r5 → False)))))
set_option maxHeartbeats 4000000 in
set_option maxRecDepth 100000 in
theorem gl_624 {p : Program} {l : Launch} {e : Env} {s : State} {m : MethodId} {below : List Frame} {meth : Method} {c : Code} {G : GP} {b Lx : Nat} {xs : Nat → Int32} (hfl : l.stackTraces = false) (X : Cx p s m #[Value.ref b] c code 9 R_law G) (hX : va_X b Lx xs s s.heap) (hbl : b < s.heap.size) (hbA : ¬ Ab G b) (hrt : meth.sig.returnType = ret) (hlk : meth.locks = false) (hG : G.2.2 = s.heap.size) {k j : Nat} (hk : k + 36 ≤ 603072) (hj : j + 292 ≤ 7178346) (KH28 : MS → Nat → Nat → Nat → Nat → Int32 → Prop) (hKH28 : ∀ (S : MS) (l1 l2 l3 l4 : Nat) (l5 : Int32), KH28 S l1 l2 l3 l4 l5 → Gd p l e room_1 s m #[Value.ref b] below meth c 9 G (lw_Z below #[Value.ref b] s) (k + 36) (j + 292) S 28 [(0, .ref b), (1, rf l1), (2, rf l2), (3, rf l3), (4, rf l4), (5, .int l5)] []) : ∀ (S : MS) (l1 l2 l3 l4 : Nat) (l5 : Int32), b_L_law_624 xs Lx KH28 S l1 l2 l3 l4 l5 → Gd p l e room_1 s m #[Value.ref b] below meth c 9 G (lw_Z below #[Value.ref b] s) k j S 624 [(0, .ref b), (1, rf l1), (2, rf l2), (3, rf l3), (4, rf l4), (5, .int l5)] [] := by
  intro S l1 l2 l3 l4 l5 h
  refine gd_aload_n (pc := 624) X 1 dL_law_624 rfl ?_
  refine gd_aloadP (pc := 625) X 0 dL_law_625 rfl ?_
  refine gd_iload (pc := 626) X 5 dL_law_626 rfl ?_
  refine gd_iconst (pc := 628) X (1) dL_law_628 (by decide) ?_
  refine gd_iadd (pc := 629) X dL_law_629 ?_
  obtain ⟨hi1, h⟩ := h
  refine gd_sld (pc := 630) X hX hbl hbA dL_law_630 hi1 ?_
  refine gd_aloadP (pc := 631) X 0 dL_law_631 rfl ?_
  refine gd_iload (pc := 632) X 5 dL_law_632 rfl ?_
  refine gd_iconst (pc := 634) X (2) dL_law_634 (by decide) ?_
  refine gd_iadd (pc := 635) X dL_law_635 ?_
  obtain ⟨hi2, h⟩ := h
  refine gd_sld (pc := 636) X hX hbl hbA dL_law_636 hi2 ?_
  refine gd_aloadP (pc := 637) X 0 dL_law_637 rfl ?_
  refine gd_iload (pc := 638) X 5 dL_law_638 rfl ?_
  refine gd_iconst (pc := 640) X (3) dL_law_640 (by decide) ?_
  refine gd_iadd (pc := 641) X dL_law_641 ?_
  obtain ⟨hi3, h⟩ := h
  refine gd_sld (pc := 642) X hX hbl hbA dL_law_642 hi3 ?_
  refine gd_callW (n := 4) (pc := 643) (As := [rf l1, .int (xs (ix (l5 + 1))), .int (xs (ix (l5 + 2))), .int (xs (ix (l5 + 3)))]) (rest := []) X (ct_L_write l hfl G S l1 (xs (ix (l5 + 1))) (xs (ix (l5 + 2))) (xs (ix (l5 + 3))) _ h) tw_564 tw_0 tw_565 ⟨by decide, by decide, by decide +kernel⟩ tw_563 ⟨(by (try simp only [room_1, rm_L_write] at *); omega), (by (try simp only [room_1, rm_L_write] at *); omega)⟩ rfl rfl (Nat.le_of_ble_eq_true rfl) dL_law_643 ⟨(by (try simp only [room_1, rm_L_write] at *); omega), (by (try simp only [room_1, rm_L_write] at *); omega)⟩ (kI (fun r5 S4 h => ?_))
  refine gd_istore (pc := 646) X dL_law_646 (by decide) (E2 := [(6, .int r5), (0, .ref b), (1, rf l1), (2, rf l2), (3, rf l3), (4, rf l4), (5, .int l5)]) rfl ?_
  refine gd_aload_n (pc := 648) X 3 dL_law_648 rfl ?_
  refine gd_aloadP (pc := 649) X 1 dL_law_649 rfl ?_
  refine gd_iload (pc := 650) X 6 dL_law_650 rfl ?_
  refine gd_iconst (pc := 652) X (1) dL_law_652 (by decide) ?_
  refine gd_iadd (pc := 653) X dL_law_653 ?_
  obtain ⟨hi6, h⟩ := h
  refine gd_sld (pc := 654) X hX hbl hbA dL_law_654 hi6 ?_
  refine gd_aloadP (pc := 655) X 1 dL_law_655 rfl ?_
  refine gd_iload (pc := 656) X 6 dL_law_656 rfl ?_
  refine gd_iconst (pc := 658) X (2) dL_law_658 (by decide) ?_
  refine gd_iadd (pc := 659) X dL_law_659 ?_
  obtain ⟨hi7, h⟩ := h
  refine gd_sld (pc := 660) X hX hbl hbA dL_law_660 hi7 ?_
  refine gd_aloadP (pc := 661) X 1 dL_law_661 rfl ?_
  refine gd_iload (pc := 662) X 6 dL_law_662 rfl ?_
  refine gd_iconst (pc := 664) X (3) dL_law_664 (by decide) ?_
  refine gd_iadd (pc := 665) X dL_law_665 ?_
  obtain ⟨hi8, h⟩ := h
  refine gd_sld (pc := 666) X hX hbl hbA dL_law_666 hi8 ?_
  obtain ⟨hk9, h⟩ := h
  refine gd_callV (pc := 667) (As := [.int (xs (ix (l5 + 1))), .int (xs (ix (l5 + 2))), .int (xs (ix (l5 + 3)))]) (rest := []) X (ct_X6_write l G S4 l2 (xs (ix (l5 + 1))) (xs (ix (l5 + 2))) (xs (ix (l5 + 3))) _ h) mw_X6_write tw_1163 ci6 rfl hk9 ⟨(by (try simp only [room_1, rm_X6_write, rm_L_write] at *); omega), (by (try simp only [room_1, rm_X6_write, rm_L_write] at *); omega)⟩ rfl rfl (Nat.le_of_ble_eq_true rfl) dL_law_667 ⟨(by (try simp only [room_1, rm_X6_write, rm_L_write] at *); omega), (by (try simp only [room_1, rm_X6_write, rm_L_write] at *); omega)⟩ (kV (fun S10 h => ?_))
  refine gd_aload_n (pc := 670) X 3 dL_law_670 rfl ?_
  obtain ⟨hk12, h⟩ := h
  refine gd_callV (pc := 671) (As := []) (rest := []) X (ct_X6_thrown l G S10 l2 _ h) mw_X6_thrown tw_973 ci6 rfl hk12 ⟨(by (try simp only [room_1, rm_X6_thrown, rm_L_write, rm_X6_write] at *); omega), (by (try simp only [room_1, rm_X6_thrown, rm_L_write, rm_X6_write] at *); omega)⟩ rfl rfl (Nat.le_of_ble_eq_true rfl) dL_law_671 ⟨(by (try simp only [room_1, rm_X6_thrown, rm_L_write, rm_X6_write] at *); omega), (by (try simp only [room_1, rm_X6_thrown, rm_L_write, rm_X6_write] at *); omega)⟩ (kI (fun r14 S13 h => ?_))
  refine gd_iload (pc := 674) X 0 dL_law_674 rfl ?_
  refine gd_icmp_eq (pc := 676) X 681 dL_law_676 (by decide) (fun hc16 => ?_) (fun hc16 => ?_)
  · have h := h.1 hc16
    refine gd_goto (pc := 681) X 2345 dL_law_681 (by decide) ?_
    obtain ⟨v15, hv15⟩ : ∃ z : Int32, z = l5 + 5 := ⟨_, rfl⟩
    have h := h v15 hv15
    refine gd_iinc (pc := 2345) (v := v15) X 6 dL_law_2345 rfl (by rw [hv15]; rfl) (by decide) (E2 := [(5, .int v15), (6, .int r5), (0, .ref b), (1, rf l1), (2, rf l2), (3, rf l3), (4, rf l4)]) (by simp [rf_cat, lv1, int_cat, ref_cat] <;> decide) ?_
    refine gd_goto (pc := 2348) X 28 dL_law_2348 (by decide) ?_
    refine gd_wide (k2 := k + 36) (j2 := j + 292) (by (try simp only [room_1, rm_X6_thrown, rm_L_write, rm_X6_write] at *); omega) (by (try simp only [room_1, rm_X6_thrown, rm_L_write, rm_X6_write] at *); omega) ?_
    refine gd_sub [2, 3, 4, 5, 6, 0] rfl ?_
    exact hKH28 _ _ _ _ _ _ h
  · have h := h.2 hc16
    refine gd_iconst (pc := 679) X (0) dL_law_679 (by decide) ?_
    exact h.elim
def b_L_law_684 (xs : Nat → Int32) (Lx : Nat) (KH28 : MS → Nat → Nat → Nat → Nat → Int32 → Prop) (S : MS) (l1 l2 l3 l4 : Nat) (l5 : Int32) : Prop := vp_in (l5 + 1) Lx ∧ vp_in (l5 + 2) Lx ∧ w_L_remove S l1 (xs (ix (l5 + 1))) (xs (ix (l5 + 2))) (fun r4 S3 => vp_in (l5 + 1) Lx ∧ vp_in (l5 + 2) Lx ∧ kT S3 l2 = 7 ∧ w_X6_remove S3 l2 (xs (ix (l5 + 1))) (xs (ix (l5 + 2))) (fun S8 => kT S8 l2 = 7 ∧ w_X6_thrown S8 l2 (fun r12 S11 => ((r12 = r4 → ∀ v13 : Int32, v13 = l5 + 5 → KH28 S11 l1 l2 l3 l4 v13) ∧ (¬ r12 = r4 → False)))))
set_option maxHeartbeats 4000000 in
set_option maxRecDepth 100000 in
theorem gl_684 {p : Program} {l : Launch} {e : Env} {s : State} {m : MethodId} {below : List Frame} {meth : Method} {c : Code} {G : GP} {b Lx : Nat} {xs : Nat → Int32} (hfl : l.stackTraces = false) (X : Cx p s m #[Value.ref b] c code 9 R_law G) (hX : va_X b Lx xs s s.heap) (hbl : b < s.heap.size) (hbA : ¬ Ab G b) (hrt : meth.sig.returnType = ret) (hlk : meth.locks = false) (hG : G.2.2 = s.heap.size) {k j : Nat} (hk : k + 36 ≤ 603072) (hj : j + 292 ≤ 7178346) (KH28 : MS → Nat → Nat → Nat → Nat → Int32 → Prop) (hKH28 : ∀ (S : MS) (l1 l2 l3 l4 : Nat) (l5 : Int32), KH28 S l1 l2 l3 l4 l5 → Gd p l e room_1 s m #[Value.ref b] below meth c 9 G (lw_Z below #[Value.ref b] s) (k + 36) (j + 292) S 28 [(0, .ref b), (1, rf l1), (2, rf l2), (3, rf l3), (4, rf l4), (5, .int l5)] []) : ∀ (S : MS) (l1 l2 l3 l4 : Nat) (l5 : Int32), b_L_law_684 xs Lx KH28 S l1 l2 l3 l4 l5 → Gd p l e room_1 s m #[Value.ref b] below meth c 9 G (lw_Z below #[Value.ref b] s) k j S 684 [(0, .ref b), (1, rf l1), (2, rf l2), (3, rf l3), (4, rf l4), (5, .int l5)] [] := by
  intro S l1 l2 l3 l4 l5 h
  refine gd_aload_n (pc := 684) X 1 dL_law_684 rfl ?_
  refine gd_aloadP (pc := 685) X 0 dL_law_685 rfl ?_
  refine gd_iload (pc := 686) X 5 dL_law_686 rfl ?_
  refine gd_iconst (pc := 688) X (1) dL_law_688 (by decide) ?_
  refine gd_iadd (pc := 689) X dL_law_689 ?_
  obtain ⟨hi1, h⟩ := h
  refine gd_sld (pc := 690) X hX hbl hbA dL_law_690 hi1 ?_
  refine gd_aloadP (pc := 691) X 0 dL_law_691 rfl ?_
  refine gd_iload (pc := 692) X 5 dL_law_692 rfl ?_
  refine gd_iconst (pc := 694) X (2) dL_law_694 (by decide) ?_
  refine gd_iadd (pc := 695) X dL_law_695 ?_
  obtain ⟨hi2, h⟩ := h
  refine gd_sld (pc := 696) X hX hbl hbA dL_law_696 hi2 ?_
  refine gd_callW (n := 3) (pc := 697) (As := [rf l1, .int (xs (ix (l5 + 1))), .int (xs (ix (l5 + 2)))]) (rest := []) X (ct_L_remove l hfl G S l1 (xs (ix (l5 + 1))) (xs (ix (l5 + 2))) _ h) tw_571 tw_0 tw_572 ⟨by decide, by decide, by decide +kernel⟩ tw_570 ⟨(by (try simp only [room_1, rm_L_remove] at *); omega), (by (try simp only [room_1, rm_L_remove] at *); omega)⟩ rfl rfl (Nat.le_of_ble_eq_true rfl) dL_law_697 ⟨(by (try simp only [room_1, rm_L_remove] at *); omega), (by (try simp only [room_1, rm_L_remove] at *); omega)⟩ (kI (fun r4 S3 h => ?_))
  refine gd_istore (pc := 700) X dL_law_700 (by decide) (E2 := [(6, .int r4), (0, .ref b), (1, rf l1), (2, rf l2), (3, rf l3), (4, rf l4), (5, .int l5)]) rfl ?_
  refine gd_aload_n (pc := 702) X 3 dL_law_702 rfl ?_
  refine gd_aloadP (pc := 703) X 1 dL_law_703 rfl ?_
  refine gd_iload (pc := 704) X 6 dL_law_704 rfl ?_
  refine gd_iconst (pc := 706) X (1) dL_law_706 (by decide) ?_
  refine gd_iadd (pc := 707) X dL_law_707 ?_
  obtain ⟨hi5, h⟩ := h
  refine gd_sld (pc := 708) X hX hbl hbA dL_law_708 hi5 ?_
  refine gd_aloadP (pc := 709) X 1 dL_law_709 rfl ?_
  refine gd_iload (pc := 710) X 6 dL_law_710 rfl ?_
  refine gd_iconst (pc := 712) X (2) dL_law_712 (by decide) ?_
  refine gd_iadd (pc := 713) X dL_law_713 ?_
  obtain ⟨hi6, h⟩ := h
  refine gd_sld (pc := 714) X hX hbl hbA dL_law_714 hi6 ?_
  obtain ⟨hk7, h⟩ := h
  refine gd_callV (pc := 715) (As := [.int (xs (ix (l5 + 1))), .int (xs (ix (l5 + 2)))]) (rest := []) X (ct_X6_remove l G S3 l2 (xs (ix (l5 + 1))) (xs (ix (l5 + 2))) _ h) mw_X6_remove tw_1167 ci6 rfl hk7 ⟨(by (try simp only [room_1, rm_X6_remove, rm_L_remove] at *); omega), (by (try simp only [room_1, rm_X6_remove, rm_L_remove] at *); omega)⟩ rfl rfl (Nat.le_of_ble_eq_true rfl) dL_law_715 ⟨(by (try simp only [room_1, rm_X6_remove, rm_L_remove] at *); omega), (by (try simp only [room_1, rm_X6_remove, rm_L_remove] at *); omega)⟩ (kV (fun S8 h => ?_))
  refine gd_aload_n (pc := 718) X 3 dL_law_718 rfl ?_
  obtain ⟨hk10, h⟩ := h
  refine gd_callV (pc := 719) (As := []) (rest := []) X (ct_X6_thrown l G S8 l2 _ h) mw_X6_thrown tw_973 ci6 rfl hk10 ⟨(by (try simp only [room_1, rm_X6_thrown, rm_L_remove, rm_X6_remove] at *); omega), (by (try simp only [room_1, rm_X6_thrown, rm_L_remove, rm_X6_remove] at *); omega)⟩ rfl rfl (Nat.le_of_ble_eq_true rfl) dL_law_719 ⟨(by (try simp only [room_1, rm_X6_thrown, rm_L_remove, rm_X6_remove] at *); omega), (by (try simp only [room_1, rm_X6_thrown, rm_L_remove, rm_X6_remove] at *); omega)⟩ (kI (fun r12 S11 h => ?_))
  refine gd_iload (pc := 722) X 0 dL_law_722 rfl ?_
  refine gd_icmp_eq (pc := 724) X 729 dL_law_724 (by decide) (fun hc14 => ?_) (fun hc14 => ?_)
  · have h := h.1 hc14
    refine gd_goto (pc := 729) X 2345 dL_law_729 (by decide) ?_
    obtain ⟨v13, hv13⟩ : ∃ z : Int32, z = l5 + 5 := ⟨_, rfl⟩
    have h := h v13 hv13
    refine gd_iinc (pc := 2345) (v := v13) X 6 dL_law_2345 rfl (by rw [hv13]; rfl) (by decide) (E2 := [(5, .int v13), (6, .int r4), (0, .ref b), (1, rf l1), (2, rf l2), (3, rf l3), (4, rf l4)]) (by simp [rf_cat, lv1, int_cat, ref_cat] <;> decide) ?_
    refine gd_goto (pc := 2348) X 28 dL_law_2348 (by decide) ?_
    refine gd_wide (k2 := k + 36) (j2 := j + 292) (by (try simp only [room_1, rm_X6_thrown, rm_L_remove, rm_X6_remove] at *); omega) (by (try simp only [room_1, rm_X6_thrown, rm_L_remove, rm_X6_remove] at *); omega) ?_
    refine gd_sub [2, 3, 4, 5, 6, 0] rfl ?_
    exact hKH28 _ _ _ _ _ _ h
  · have h := h.2 hc14
    refine gd_iconst (pc := 727) X (0) dL_law_727 (by decide) ?_
    exact h.elim
def b_L_law_732 (xs : Nat → Int32) (Lx : Nat) (KH28 : MS → Nat → Nat → Nat → Nat → Int32 → Prop) (S : MS) (l1 l2 l3 l4 : Nat) (l5 : Int32) : Prop := vp_in (l5 + 1) Lx ∧ vp_in (l5 + 2) Lx ∧ vp_in (l5 + 3) Lx ∧ w_L_add S l1 (xs (ix (l5 + 1))) (xs (ix (l5 + 2))) (xs (ix (l5 + 3))) l3 (fun r5 S4 => vp_in (l5 + 1) Lx ∧ vp_in (l5 + 2) Lx ∧ vp_in (l5 + 3) Lx ∧ kT S4 l2 = 7 ∧ w_X6_add S4 l2 (xs (ix (l5 + 1))) (xs (ix (l5 + 2))) (xs (ix (l5 + 3))) (fun r11 S10 => kT S10 l2 = 7 ∧ w_X6_thrown S10 l2 (fun r14 S13 => ((r14 = r5 → ((¬ r5 = 0 → ∀ v15 : Int32, v15 = l5 + 5 → KH28 S13 l1 l2 l3 l4 v15) ∧ (r5 = 0 → kT S13 l3 = 15 ∧ vp_in 0 (kL S13 l3) ∧ (((lg_cmp (sL S13 l3 (ix 0)) r11.toInt64) = 0 → ∀ v18 : Int32, v18 = l5 + 5 → KH28 S13 l1 l2 l3 l4 v18) ∧ (¬ (lg_cmp (sL S13 l3 (ix 0)) r11.toInt64) = 0 → False))))) ∧ (¬ r14 = r5 → False)))))
set_option maxHeartbeats 4000000 in
set_option maxRecDepth 100000 in
theorem gl_732 {p : Program} {l : Launch} {e : Env} {s : State} {m : MethodId} {below : List Frame} {meth : Method} {c : Code} {G : GP} {b Lx : Nat} {xs : Nat → Int32} (hfl : l.stackTraces = false) (X : Cx p s m #[Value.ref b] c code 9 R_law G) (hX : va_X b Lx xs s s.heap) (hbl : b < s.heap.size) (hbA : ¬ Ab G b) (hrt : meth.sig.returnType = ret) (hlk : meth.locks = false) (hG : G.2.2 = s.heap.size) {k j : Nat} (hk : k + 36 ≤ 603072) (hj : j + 292 ≤ 7178346) (KH28 : MS → Nat → Nat → Nat → Nat → Int32 → Prop) (hKH28 : ∀ (S : MS) (l1 l2 l3 l4 : Nat) (l5 : Int32), KH28 S l1 l2 l3 l4 l5 → Gd p l e room_1 s m #[Value.ref b] below meth c 9 G (lw_Z below #[Value.ref b] s) (k + 36) (j + 292) S 28 [(0, .ref b), (1, rf l1), (2, rf l2), (3, rf l3), (4, rf l4), (5, .int l5)] []) : ∀ (S : MS) (l1 l2 l3 l4 : Nat) (l5 : Int32), b_L_law_732 xs Lx KH28 S l1 l2 l3 l4 l5 → Gd p l e room_1 s m #[Value.ref b] below meth c 9 G (lw_Z below #[Value.ref b] s) k j S 732 [(0, .ref b), (1, rf l1), (2, rf l2), (3, rf l3), (4, rf l4), (5, .int l5)] [] := by
  intro S l1 l2 l3 l4 l5 h
  refine gd_aload_n (pc := 732) X 1 dL_law_732 rfl ?_
  refine gd_aloadP (pc := 733) X 0 dL_law_733 rfl ?_
  refine gd_iload (pc := 734) X 5 dL_law_734 rfl ?_
  refine gd_iconst (pc := 736) X (1) dL_law_736 (by decide) ?_
  refine gd_iadd (pc := 737) X dL_law_737 ?_
  obtain ⟨hi1, h⟩ := h
  refine gd_sld (pc := 738) X hX hbl hbA dL_law_738 hi1 ?_
  refine gd_aloadP (pc := 739) X 0 dL_law_739 rfl ?_
  refine gd_iload (pc := 740) X 5 dL_law_740 rfl ?_
  refine gd_iconst (pc := 742) X (2) dL_law_742 (by decide) ?_
  refine gd_iadd (pc := 743) X dL_law_743 ?_
  obtain ⟨hi2, h⟩ := h
  refine gd_sld (pc := 744) X hX hbl hbA dL_law_744 hi2 ?_
  refine gd_aloadP (pc := 745) X 0 dL_law_745 rfl ?_
  refine gd_iload (pc := 746) X 5 dL_law_746 rfl ?_
  refine gd_iconst (pc := 748) X (3) dL_law_748 (by decide) ?_
  refine gd_iadd (pc := 749) X dL_law_749 ?_
  obtain ⟨hi3, h⟩ := h
  refine gd_sld (pc := 750) X hX hbl hbA dL_law_750 hi3 ?_
  refine gd_aload_n (pc := 751) X 3 dL_law_751 rfl ?_
  refine gd_callW (n := 5) (pc := 752) (As := [rf l1, .int (xs (ix (l5 + 1))), .int (xs (ix (l5 + 2))), .int (xs (ix (l5 + 3))), rf l3]) (rest := []) X (ct_L_add l hfl G S l1 (xs (ix (l5 + 1))) (xs (ix (l5 + 2))) (xs (ix (l5 + 3))) l3 _ h) tw_578 tw_0 tw_579 ⟨by decide, by decide, by decide +kernel⟩ tw_577 ⟨(by (try simp only [room_1, rm_L_add] at *); omega), (by (try simp only [room_1, rm_L_add] at *); omega)⟩ rfl rfl (Nat.le_of_ble_eq_true rfl) dL_law_752 ⟨(by (try simp only [room_1, rm_L_add] at *); omega), (by (try simp only [room_1, rm_L_add] at *); omega)⟩ (kI (fun r5 S4 h => ?_))
  refine gd_istore (pc := 755) X dL_law_755 (by decide) (E2 := [(6, .int r5), (0, .ref b), (1, rf l1), (2, rf l2), (3, rf l3), (4, rf l4), (5, .int l5)]) rfl ?_
  refine gd_aload_n (pc := 757) X 3 dL_law_757 rfl ?_
  refine gd_aloadP (pc := 758) X 1 dL_law_758 rfl ?_
  refine gd_iload (pc := 759) X 6 dL_law_759 rfl ?_
  refine gd_iconst (pc := 761) X (1) dL_law_761 (by decide) ?_
  refine gd_iadd (pc := 762) X dL_law_762 ?_
  obtain ⟨hi6, h⟩ := h
  refine gd_sld (pc := 763) X hX hbl hbA dL_law_763 hi6 ?_
  refine gd_aloadP (pc := 764) X 1 dL_law_764 rfl ?_
  refine gd_iload (pc := 765) X 6 dL_law_765 rfl ?_
  refine gd_iconst (pc := 767) X (2) dL_law_767 (by decide) ?_
  refine gd_iadd (pc := 768) X dL_law_768 ?_
  obtain ⟨hi7, h⟩ := h
  refine gd_sld (pc := 769) X hX hbl hbA dL_law_769 hi7 ?_
  refine gd_aloadP (pc := 770) X 1 dL_law_770 rfl ?_
  refine gd_iload (pc := 771) X 6 dL_law_771 rfl ?_
  refine gd_iconst (pc := 773) X (3) dL_law_773 (by decide) ?_
  refine gd_iadd (pc := 774) X dL_law_774 ?_
  obtain ⟨hi8, h⟩ := h
  refine gd_sld (pc := 775) X hX hbl hbA dL_law_775 hi8 ?_
  obtain ⟨hk9, h⟩ := h
  refine gd_callV (pc := 776) (As := [.int (xs (ix (l5 + 1))), .int (xs (ix (l5 + 2))), .int (xs (ix (l5 + 3)))]) (rest := []) X (ct_X6_add l G S4 l2 (xs (ix (l5 + 1))) (xs (ix (l5 + 2))) (xs (ix (l5 + 3))) _ h) mw_X6_add tw_1171 ci6 rfl hk9 ⟨(by (try simp only [room_1, rm_X6_add, rm_L_add] at *); omega), (by (try simp only [room_1, rm_X6_add, rm_L_add] at *); omega)⟩ rfl rfl (Nat.le_of_ble_eq_true rfl) dL_law_776 ⟨(by (try simp only [room_1, rm_X6_add, rm_L_add] at *); omega), (by (try simp only [room_1, rm_X6_add, rm_L_add] at *); omega)⟩ (kI (fun r11 S10 h => ?_))
  refine gd_istore (pc := 779) X dL_law_779 (by decide) (E2 := [(7, .int r11), (6, .int r5), (0, .ref b), (1, rf l1), (2, rf l2), (3, rf l3), (4, rf l4), (5, .int l5)]) rfl ?_
  refine gd_aload_n (pc := 781) X 4 dL_law_781 rfl ?_
  obtain ⟨hk12, h⟩ := h
  refine gd_callV (pc := 782) (As := []) (rest := []) X (ct_X6_thrown l G S10 l2 _ h) mw_X6_thrown tw_973 ci6 rfl hk12 ⟨(by (try simp only [room_1, rm_X6_thrown, rm_L_add, rm_X6_add] at *); omega), (by (try simp only [room_1, rm_X6_thrown, rm_L_add, rm_X6_add] at *); omega)⟩ rfl rfl (Nat.le_of_ble_eq_true rfl) dL_law_782 ⟨(by (try simp only [room_1, rm_X6_thrown, rm_L_add, rm_X6_add] at *); omega), (by (try simp only [room_1, rm_X6_thrown, rm_L_add, rm_X6_add] at *); omega)⟩ (kI (fun r14 S13 h => ?_))
  refine gd_iload (pc := 785) X 1 dL_law_785 rfl ?_
  refine gd_icmp_eq (pc := 787) X 792 dL_law_787 (by decide) (fun hc21 => ?_) (fun hc21 => ?_)
  · have h := h.1 hc21
    refine gd_iload (pc := 792) X 1 dL_law_792 rfl ?_
    refine gd_if_ne (pc := 794) X 809 dL_law_794 (by decide) (fun hc20 => ?_) (fun hc20 => ?_)
    · have h := h.1 hc20
      refine gd_goto (pc := 809) X 2345 dL_law_809 (by decide) ?_
      obtain ⟨v15, hv15⟩ : ∃ z : Int32, z = l5 + 5 := ⟨_, rfl⟩
      have h := h v15 hv15
      refine gd_iinc (pc := 2345) (v := v15) X 7 dL_law_2345 rfl (by rw [hv15]; rfl) (by decide) (E2 := [(5, .int v15), (7, .int r11), (6, .int r5), (0, .ref b), (1, rf l1), (2, rf l2), (3, rf l3), (4, rf l4)]) (by simp [rf_cat, lv1, int_cat, ref_cat] <;> decide) ?_
      refine gd_goto (pc := 2348) X 28 dL_law_2348 (by decide) ?_
      refine gd_wide (k2 := k + 36) (j2 := j + 292) (by (try simp only [room_1, rm_X6_thrown, rm_L_add, rm_X6_add] at *); omega) (by (try simp only [room_1, rm_X6_thrown, rm_L_add, rm_X6_add] at *); omega) ?_
      refine gd_sub [3, 4, 5, 6, 7, 0] rfl ?_
      exact hKH28 _ _ _ _ _ _ h
    · have h := h.2 hc20
      refine gd_aload_n (pc := 797) X 5 dL_law_797 rfl ?_
      refine gd_iconst (pc := 798) X (0) dL_law_798 (by decide) ?_
      obtain ⟨hk16, h⟩ := h
      obtain ⟨hi17, h⟩ := h
      refine gd_lald (pc := 799) X dL_law_799 hk16 hi17 ?_
      refine gd_iload (pc := 800) X 0 dL_law_800 rfl ?_
      refine gd_i2l (pc := 802) X dL_law_802 ?_
      refine gd_lcmp (pc := 803) X dL_law_803 ?_
      refine gd_if_eq (pc := 804) X 809 dL_law_804 (by decide) (fun hc19 => ?_) (fun hc19 => ?_)
      · have h := h.1 hc19
        refine gd_goto (pc := 809) X 2345 dL_law_809 (by decide) ?_
        obtain ⟨v18, hv18⟩ : ∃ z : Int32, z = l5 + 5 := ⟨_, rfl⟩
        have h := h v18 hv18
        refine gd_iinc (pc := 2345) (v := v18) X 7 dL_law_2345 rfl (by rw [hv18]; rfl) (by decide) (E2 := [(5, .int v18), (7, .int r11), (6, .int r5), (0, .ref b), (1, rf l1), (2, rf l2), (3, rf l3), (4, rf l4)]) (by simp [rf_cat, lv1, int_cat, ref_cat] <;> decide) ?_
        refine gd_goto (pc := 2348) X 28 dL_law_2348 (by decide) ?_
        refine gd_wide (k2 := k + 36) (j2 := j + 292) (by (try simp only [room_1, rm_X6_thrown, rm_L_add, rm_X6_add] at *); omega) (by (try simp only [room_1, rm_X6_thrown, rm_L_add, rm_X6_add] at *); omega) ?_
        refine gd_sub [3, 4, 5, 6, 7, 0] rfl ?_
        exact hKH28 _ _ _ _ _ _ h
      · have h := h.2 hc19
        refine gd_iconst (pc := 807) X (0) dL_law_807 (by decide) ?_
        exact h.elim
  · have h := h.2 hc21
    refine gd_iconst (pc := 790) X (0) dL_law_790 (by decide) ?_
    exact h.elim
def b_L_law_812 (xs : Nat → Int32) (Lx : Nat) (KH28 : MS → Nat → Nat → Nat → Nat → Int32 → Prop) (S : MS) (l1 l2 l3 l4 : Nat) (l5 : Int32) : Prop := vp_in (l5 + 1) Lx ∧ w_L_commit S l1 (xs (ix (l5 + 1))) l3 (fun r3 S2 => vp_in (l5 + 1) Lx ∧ kT S2 l2 = 7 ∧ w_X6_commit S2 l2 (xs (ix (l5 + 1))) (fun r7 S6 => kT S6 l2 = 7 ∧ w_X6_thrown S6 l2 (fun r10 S9 => ((r10 = r3 → ((¬ r3 = 0 → ∀ v11 : Int32, v11 = l5 + 5 → KH28 S9 l1 l2 l3 l4 v11) ∧ (r3 = 0 → kT S9 l3 = 15 ∧ vp_in 0 (kL S9 l3) ∧ (((lg_cmp (sL S9 l3 (ix 0)) r7.toInt64) = 0 → ∀ v14 : Int32, v14 = l5 + 5 → KH28 S9 l1 l2 l3 l4 v14) ∧ (¬ (lg_cmp (sL S9 l3 (ix 0)) r7.toInt64) = 0 → False))))) ∧ (¬ r10 = r3 → False)))))
set_option maxHeartbeats 4000000 in
set_option maxRecDepth 100000 in
theorem gl_812 {p : Program} {l : Launch} {e : Env} {s : State} {m : MethodId} {below : List Frame} {meth : Method} {c : Code} {G : GP} {b Lx : Nat} {xs : Nat → Int32} (hfl : l.stackTraces = false) (X : Cx p s m #[Value.ref b] c code 9 R_law G) (hX : va_X b Lx xs s s.heap) (hbl : b < s.heap.size) (hbA : ¬ Ab G b) (hrt : meth.sig.returnType = ret) (hlk : meth.locks = false) (hG : G.2.2 = s.heap.size) {k j : Nat} (hk : k + 36 ≤ 603072) (hj : j + 292 ≤ 7178346) (KH28 : MS → Nat → Nat → Nat → Nat → Int32 → Prop) (hKH28 : ∀ (S : MS) (l1 l2 l3 l4 : Nat) (l5 : Int32), KH28 S l1 l2 l3 l4 l5 → Gd p l e room_1 s m #[Value.ref b] below meth c 9 G (lw_Z below #[Value.ref b] s) (k + 36) (j + 292) S 28 [(0, .ref b), (1, rf l1), (2, rf l2), (3, rf l3), (4, rf l4), (5, .int l5)] []) : ∀ (S : MS) (l1 l2 l3 l4 : Nat) (l5 : Int32), b_L_law_812 xs Lx KH28 S l1 l2 l3 l4 l5 → Gd p l e room_1 s m #[Value.ref b] below meth c 9 G (lw_Z below #[Value.ref b] s) k j S 812 [(0, .ref b), (1, rf l1), (2, rf l2), (3, rf l3), (4, rf l4), (5, .int l5)] [] := by
  intro S l1 l2 l3 l4 l5 h
  refine gd_aload_n (pc := 812) X 1 dL_law_812 rfl ?_
  refine gd_aloadP (pc := 813) X 0 dL_law_813 rfl ?_
  refine gd_iload (pc := 814) X 5 dL_law_814 rfl ?_
  refine gd_iconst (pc := 816) X (1) dL_law_816 (by decide) ?_
  refine gd_iadd (pc := 817) X dL_law_817 ?_
  obtain ⟨hi1, h⟩ := h
  refine gd_sld (pc := 818) X hX hbl hbA dL_law_818 hi1 ?_
  refine gd_aload_n (pc := 819) X 3 dL_law_819 rfl ?_
  refine gd_callW (n := 3) (pc := 820) (As := [rf l1, .int (xs (ix (l5 + 1))), rf l3]) (rest := []) X (ct_L_commit l hfl G S l1 (xs (ix (l5 + 1))) l3 _ h) tw_586 tw_0 tw_587 ⟨by decide, by decide, by decide +kernel⟩ tw_585 ⟨(by (try simp only [room_1, rm_L_commit] at *); omega), (by (try simp only [room_1, rm_L_commit] at *); omega)⟩ rfl rfl (Nat.le_of_ble_eq_true rfl) dL_law_820 ⟨(by (try simp only [room_1, rm_L_commit] at *); omega), (by (try simp only [room_1, rm_L_commit] at *); omega)⟩ (kI (fun r3 S2 h => ?_))
  refine gd_istore (pc := 823) X dL_law_823 (by decide) (E2 := [(6, .int r3), (0, .ref b), (1, rf l1), (2, rf l2), (3, rf l3), (4, rf l4), (5, .int l5)]) rfl ?_
  refine gd_aload_n (pc := 825) X 3 dL_law_825 rfl ?_
  refine gd_aloadP (pc := 826) X 1 dL_law_826 rfl ?_
  refine gd_iload (pc := 827) X 6 dL_law_827 rfl ?_
  refine gd_iconst (pc := 829) X (1) dL_law_829 (by decide) ?_
  refine gd_iadd (pc := 830) X dL_law_830 ?_
  obtain ⟨hi4, h⟩ := h
  refine gd_sld (pc := 831) X hX hbl hbA dL_law_831 hi4 ?_
  obtain ⟨hk5, h⟩ := h
  refine gd_callV (pc := 832) (As := [.int (xs (ix (l5 + 1)))]) (rest := []) X (ct_X6_commit l G S2 l2 (xs (ix (l5 + 1))) _ h) mw_X6_commit tw_1219 ci6 rfl hk5 ⟨(by (try simp only [room_1, rm_X6_commit, rm_L_commit] at *); omega), (by (try simp only [room_1, rm_X6_commit, rm_L_commit] at *); omega)⟩ rfl rfl (Nat.le_of_ble_eq_true rfl) dL_law_832 ⟨(by (try simp only [room_1, rm_X6_commit, rm_L_commit] at *); omega), (by (try simp only [room_1, rm_X6_commit, rm_L_commit] at *); omega)⟩ (kI (fun r7 S6 h => ?_))
  refine gd_istore (pc := 835) X dL_law_835 (by decide) (E2 := [(7, .int r7), (6, .int r3), (0, .ref b), (1, rf l1), (2, rf l2), (3, rf l3), (4, rf l4), (5, .int l5)]) rfl ?_
  refine gd_aload_n (pc := 837) X 4 dL_law_837 rfl ?_
  obtain ⟨hk8, h⟩ := h
  refine gd_callV (pc := 838) (As := []) (rest := []) X (ct_X6_thrown l G S6 l2 _ h) mw_X6_thrown tw_973 ci6 rfl hk8 ⟨(by (try simp only [room_1, rm_X6_thrown, rm_L_commit, rm_X6_commit] at *); omega), (by (try simp only [room_1, rm_X6_thrown, rm_L_commit, rm_X6_commit] at *); omega)⟩ rfl rfl (Nat.le_of_ble_eq_true rfl) dL_law_838 ⟨(by (try simp only [room_1, rm_X6_thrown, rm_L_commit, rm_X6_commit] at *); omega), (by (try simp only [room_1, rm_X6_thrown, rm_L_commit, rm_X6_commit] at *); omega)⟩ (kI (fun r10 S9 h => ?_))
  refine gd_iload (pc := 841) X 1 dL_law_841 rfl ?_
  refine gd_icmp_eq (pc := 843) X 848 dL_law_843 (by decide) (fun hc17 => ?_) (fun hc17 => ?_)
  · have h := h.1 hc17
    refine gd_iload (pc := 848) X 1 dL_law_848 rfl ?_
    refine gd_if_ne (pc := 850) X 865 dL_law_850 (by decide) (fun hc16 => ?_) (fun hc16 => ?_)
    · have h := h.1 hc16
      refine gd_goto (pc := 865) X 2345 dL_law_865 (by decide) ?_
      obtain ⟨v11, hv11⟩ : ∃ z : Int32, z = l5 + 5 := ⟨_, rfl⟩
      have h := h v11 hv11
      refine gd_iinc (pc := 2345) (v := v11) X 7 dL_law_2345 rfl (by rw [hv11]; rfl) (by decide) (E2 := [(5, .int v11), (7, .int r7), (6, .int r3), (0, .ref b), (1, rf l1), (2, rf l2), (3, rf l3), (4, rf l4)]) (by simp [rf_cat, lv1, int_cat, ref_cat] <;> decide) ?_
      refine gd_goto (pc := 2348) X 28 dL_law_2348 (by decide) ?_
      refine gd_wide (k2 := k + 36) (j2 := j + 292) (by (try simp only [room_1, rm_X6_thrown, rm_L_commit, rm_X6_commit] at *); omega) (by (try simp only [room_1, rm_X6_thrown, rm_L_commit, rm_X6_commit] at *); omega) ?_
      refine gd_sub [3, 4, 5, 6, 7, 0] rfl ?_
      exact hKH28 _ _ _ _ _ _ h
    · have h := h.2 hc16
      refine gd_aload_n (pc := 853) X 5 dL_law_853 rfl ?_
      refine gd_iconst (pc := 854) X (0) dL_law_854 (by decide) ?_
      obtain ⟨hk12, h⟩ := h
      obtain ⟨hi13, h⟩ := h
      refine gd_lald (pc := 855) X dL_law_855 hk12 hi13 ?_
      refine gd_iload (pc := 856) X 0 dL_law_856 rfl ?_
      refine gd_i2l (pc := 858) X dL_law_858 ?_
      refine gd_lcmp (pc := 859) X dL_law_859 ?_
      refine gd_if_eq (pc := 860) X 865 dL_law_860 (by decide) (fun hc15 => ?_) (fun hc15 => ?_)
      · have h := h.1 hc15
        refine gd_goto (pc := 865) X 2345 dL_law_865 (by decide) ?_
        obtain ⟨v14, hv14⟩ : ∃ z : Int32, z = l5 + 5 := ⟨_, rfl⟩
        have h := h v14 hv14
        refine gd_iinc (pc := 2345) (v := v14) X 7 dL_law_2345 rfl (by rw [hv14]; rfl) (by decide) (E2 := [(5, .int v14), (7, .int r7), (6, .int r3), (0, .ref b), (1, rf l1), (2, rf l2), (3, rf l3), (4, rf l4)]) (by simp [rf_cat, lv1, int_cat, ref_cat] <;> decide) ?_
        refine gd_goto (pc := 2348) X 28 dL_law_2348 (by decide) ?_
        refine gd_wide (k2 := k + 36) (j2 := j + 292) (by (try simp only [room_1, rm_X6_thrown, rm_L_commit, rm_X6_commit] at *); omega) (by (try simp only [room_1, rm_X6_thrown, rm_L_commit, rm_X6_commit] at *); omega) ?_
        refine gd_sub [3, 4, 5, 6, 7, 0] rfl ?_
        exact hKH28 _ _ _ _ _ _ h
      · have h := h.2 hc15
        refine gd_iconst (pc := 863) X (0) dL_law_863 (by decide) ?_
        exact h.elim
  · have h := h.2 hc17
    refine gd_iconst (pc := 846) X (0) dL_law_846 (by decide) ?_
    exact h.elim
