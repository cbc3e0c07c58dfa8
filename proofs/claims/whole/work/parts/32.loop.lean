def b_L_law_28 (xs : Nat → Int32) (Lx : Nat) : Nat → MS → Nat → Nat → Nat → Nat → Int32 → Prop
  | 0 => fun _ _ _ _ _ _ => False
  | f + 1 => fun S l1 l2 l3 l4 l5 => ((((Int32.ofNat Lx) - 5) < l5 → True) ∧ (¬ ((Int32.ofNat Lx) - 5) < l5 → vp_in l5 Lx ∧ ((((xs (ix l5)) &&& 63).toInt = 0 → b_L_law_224 xs Lx (b_L_law_28 xs Lx f) S l1 l2 l3 l4 l5) ∧ (((xs (ix l5)) &&& 63).toInt = 1 → b_L_law_284 xs Lx (b_L_law_28 xs Lx f) S l1 l2 l3 l4 l5) ∧ (((xs (ix l5)) &&& 63).toInt = 2 → b_L_law_328 xs Lx (b_L_law_28 xs Lx f) S l1 l2 l3 l4 l5) ∧ (((xs (ix l5)) &&& 63).toInt = 3 → b_L_law_384 xs Lx (b_L_law_28 xs Lx f) S l1 l2 l3 l4 l5) ∧ (((xs (ix l5)) &&& 63).toInt = 4 → b_L_law_452 xs Lx (b_L_law_28 xs Lx f) S l1 l2 l3 l4 l5) ∧ (((xs (ix l5)) &&& 63).toInt = 5 → b_L_law_544 xs Lx (b_L_law_28 xs Lx f) S l1 l2 l3 l4 l5) ∧ (((xs (ix l5)) &&& 63).toInt = 6 → b_L_law_624 xs Lx (b_L_law_28 xs Lx f) S l1 l2 l3 l4 l5) ∧ (((xs (ix l5)) &&& 63).toInt = 7 → b_L_law_684 xs Lx (b_L_law_28 xs Lx f) S l1 l2 l3 l4 l5) ∧ (((xs (ix l5)) &&& 63).toInt = 8 → b_L_law_732 xs Lx (b_L_law_28 xs Lx f) S l1 l2 l3 l4 l5) ∧ (((xs (ix l5)) &&& 63).toInt = 9 → b_L_law_812 xs Lx (b_L_law_28 xs Lx f) S l1 l2 l3 l4 l5) ∧ (((xs (ix l5)) &&& 63).toInt = 10 → b_L_law_868 xs Lx (b_L_law_28 xs Lx f) S l1 l2 l3 l4 l5) ∧ (((xs (ix l5)) &&& 63).toInt = 11 → b_L_law_904 xs Lx (b_L_law_28 xs Lx f) S l1 l2 l3 l4 l5) ∧ (((xs (ix l5)) &&& 63).toInt = 12 → b_L_law_917 xs Lx (b_L_law_28 xs Lx f) S l1 l2 l3 l4 l5) ∧ (((xs (ix l5)) &&& 63).toInt = 13 → b_L_law_930 xs Lx (b_L_law_28 xs Lx f) S l1 l2 l3 l4 l5) ∧ (((xs (ix l5)) &&& 63).toInt = 14 → b_L_law_943 xs Lx (b_L_law_28 xs Lx f) S l1 l2 l3 l4 l5) ∧ (((xs (ix l5)) &&& 63).toInt = 15 → b_L_law_987 xs Lx (b_L_law_28 xs Lx f) S l1 l2 l3 l4 l5) ∧ (((xs (ix l5)) &&& 63).toInt = 16 → b_L_law_1043 xs Lx (b_L_law_28 xs Lx f) S l1 l2 l3 l4 l5) ∧ (((xs (ix l5)) &&& 63).toInt = 17 → b_L_law_1099 xs Lx (b_L_law_28 xs Lx f) S l1 l2 l3 l4 l5) ∧ (((xs (ix l5)) &&& 63).toInt = 18 → b_L_law_1155 xs Lx (b_L_law_28 xs Lx f) S l1 l2 l3 l4 l5) ∧ (((xs (ix l5)) &&& 63).toInt = 19 → b_L_law_1211 xs Lx (b_L_law_28 xs Lx f) S l1 l2 l3 l4 l5) ∧ (((xs (ix l5)) &&& 63).toInt = 20 → b_L_law_1267 xs Lx (b_L_law_28 xs Lx f) S l1 l2 l3 l4 l5) ∧ (((xs (ix l5)) &&& 63).toInt = 21 → b_L_law_1323 xs Lx (b_L_law_28 xs Lx f) S l1 l2 l3 l4 l5) ∧ (((xs (ix l5)) &&& 63).toInt = 22 → b_L_law_1379 xs Lx (b_L_law_28 xs Lx f) S l1 l2 l3 l4 l5) ∧ (((xs (ix l5)) &&& 63).toInt = 23 → b_L_law_1435 xs Lx (b_L_law_28 xs Lx f) S l1 l2 l3 l4 l5) ∧ (((xs (ix l5)) &&& 63).toInt = 24 → b_L_law_1498 xs Lx (b_L_law_28 xs Lx f) S l1 l2 l3 l4 l5) ∧ (((xs (ix l5)) &&& 63).toInt = 25 → b_L_law_1554 xs Lx (b_L_law_28 xs Lx f) S l1 l2 l3 l4 l5) ∧ (((xs (ix l5)) &&& 63).toInt = 26 → b_L_law_1610 xs Lx (b_L_law_28 xs Lx f) S l1 l2 l3 l4 l5) ∧ (((xs (ix l5)) &&& 63).toInt = 27 → b_L_law_1678 xs Lx (b_L_law_28 xs Lx f) S l1 l2 l3 l4 l5) ∧ (((xs (ix l5)) &&& 63).toInt = 28 → b_L_law_1734 xs Lx (b_L_law_28 xs Lx f) S l1 l2 l3 l4 l5) ∧ (((xs (ix l5)) &&& 63).toInt = 29 → b_L_law_1790 xs Lx (b_L_law_28 xs Lx f) S l1 l2 l3 l4 l5) ∧ (((xs (ix l5)) &&& 63).toInt = 30 → b_L_law_1858 xs Lx (b_L_law_28 xs Lx f) S l1 l2 l3 l4 l5) ∧ (((xs (ix l5)) &&& 63).toInt = 31 → b_L_law_1871 xs Lx (b_L_law_28 xs Lx f) S l1 l2 l3 l4 l5) ∧ (((xs (ix l5)) &&& 63).toInt = 32 → b_L_law_1884 xs Lx (b_L_law_28 xs Lx f) S l1 l2 l3 l4 l5) ∧ (((xs (ix l5)) &&& 63).toInt = 33 → b_L_law_1940 xs Lx (b_L_law_28 xs Lx f) S l1 l2 l3 l4 l5) ∧ (((xs (ix l5)) &&& 63).toInt = 34 → b_L_law_2032 xs Lx (b_L_law_28 xs Lx f) S l1 l2 l3 l4 l5) ∧ (((xs (ix l5)) &&& 63).toInt = 35 → b_L_law_2045 xs Lx (b_L_law_28 xs Lx f) S l1 l2 l3 l4 l5) ∧ (((xs (ix l5)) &&& 63).toInt = 36 → b_L_law_2101 xs Lx (b_L_law_28 xs Lx f) S l1 l2 l3 l4 l5) ∧ (((xs (ix l5)) &&& 63).toInt = 37 → b_L_law_2166 xs Lx (b_L_law_28 xs Lx f) S l1 l2 l3 l4 l5) ∧ (((xs (ix l5)) &&& 63).toInt = 38 → b_L_law_2232 xs Lx (b_L_law_28 xs Lx f) S l1 l2 l3 l4 l5) ∧ (((xs (ix l5)) &&& 63).toInt = 39 → b_L_law_2288 xs Lx (b_L_law_28 xs Lx f) S l1 l2 l3 l4 l5) ∧ (((xs (ix l5)) &&& 63).toInt = 40 → b_L_law_2332 xs Lx (b_L_law_28 xs Lx f) S l1 l2 l3 l4 l5) ∧ (((xs (ix l5)) &&& 63).toInt < 0 ∨ 40 < ((xs (ix l5)) &&& 63).toInt → ∀ v2 : Int32, v2 = l5 + 5 → b_L_law_28 xs Lx f S l1 l2 l3 l4 v2))))
set_option maxHeartbeats 4000000 in
set_option maxRecDepth 100000 in
theorem law_loop {p : Program} {l : Launch} {e : Env} {s : State} {m : MethodId} {below : List Frame} {meth : Method} {c : Code} {G : GP} {b Lx : Nat} {xs : Nat → Int32} (hfl : l.stackTraces = false) (X : Cx p s m #[Value.ref b] c code 9 R_law G) (hX : va_X b Lx xs s s.heap) (hbl : b < s.heap.size) (hbA : ¬ Ab G b) (hrt : meth.sig.returnType = ret) (hlk : meth.locks = false) (hG : G.2.2 = s.heap.size) : ∀ (f : Nat) (_ : f ≤ 513) (S : MS) (l1 l2 l3 l4 : Nat) (l5 : Int32), b_L_law_28 xs Lx f S l1 l2 l3 l4 l5 → Gd p l e room_1 s m #[Value.ref b] below meth c 9 G (lw_Z below #[Value.ref b] s) (93 + (513 - f) * 36) (27652 + (513 - f) * 292) S 28 [(0, .ref b), (1, rf l1), (2, rf l2), (3, rf l3), (4, rf l4), (5, .int l5)] [] := by
  intro f
  induction f with
  | zero => intro _ S l1 l2 l3 l4 l5 h; exact h.elim
  | succ f ih =>
    intro hf S l1 l2 l3 l4 l5 h
    refine gd_iload (pc := 28) X 5 dL_law_28 rfl ?_
    refine gd_aloadP (pc := 30) X 0 dL_law_30 rfl ?_
    refine gd_slen (pc := 31) X hX hbl hbA dL_law_31 ?_
    refine gd_iconst (pc := 32) X (5) dL_law_32 (by decide) ?_
    refine gd_isub (pc := 33) X dL_law_33 ?_
    refine gd_icmp_gt (pc := 34) X 2351 dL_law_34 (by decide) (fun hc3 => ?_) (fun hc3 => ?_)
    · have h := h.1 hc3
      refine gd_iconst (pc := 2351) X (1) dL_law_2351 (by decide) ?_
      exact lawEnd (pc := 2352) X hrt hlk hG dL_law_2352 (by (try simp only [room_1] at *); omega) (by (try simp only [room_1] at *); omega)
    · have h := h.2 hc3
      refine gd_aloadP (pc := 37) X 0 dL_law_37 rfl ?_
      refine gd_iload (pc := 38) X 5 dL_law_38 rfl ?_
      obtain ⟨hi1, h⟩ := h
      refine gd_sld (pc := 40) X hX hbl hbA dL_law_40 hi1 ?_
      refine gd_bipush (pc := 41) X (63) dL_law_41 (by decide) ?_
      refine gd_iand (pc := 43) X dL_law_43 ?_
      by_cases hout : ((xs (ix l5)) &&& 63).toInt < 0 ∨ 40 < ((xs (ix l5)) &&& 63).toInt
      · have h := h.2.2.2.2.2.2.2.2.2.2.2.2.2.2.2.2.2.2.2.2.2.2.2.2.2.2.2.2.2.2.2.2.2.2.2.2.2.2.2.2.2 hout
        refine gd_tableOut (pc := 44) X 2345 dL_law_44 hout (by decide) ?_
        obtain ⟨v2, hv2⟩ : ∃ z : Int32, z = l5 + 5 := ⟨_, rfl⟩
        have h := h v2 hv2
        refine gd_iinc (pc := 2345) (v := v2) X 5 dL_law_2345 rfl (by rw [hv2]; rfl) (by decide) (E2 := [(5, .int v2), (0, .ref b), (1, rf l1), (2, rf l2), (3, rf l3), (4, rf l4)]) (by simp [rf_cat, lv1, int_cat, ref_cat] <;> decide) ?_
        refine gd_goto (pc := 2348) X 28 dL_law_2348 (by decide) ?_
        refine gd_wide (k2 := 93 + (513 - f) * 36) (j2 := 27652 + (513 - f) * 292) (by omega) (by omega) ?_
        refine gd_sub [1, 2, 3, 4, 5, 0] rfl ?_
        exact ih (by omega) _ _ _ _ _ _ h
      · rcases (show ((xs (ix l5)) &&& 63).toInt = 0 ∨ ((xs (ix l5)) &&& 63).toInt = 1 ∨ ((xs (ix l5)) &&& 63).toInt = 2 ∨ ((xs (ix l5)) &&& 63).toInt = 3 ∨ ((xs (ix l5)) &&& 63).toInt = 4 ∨ ((xs (ix l5)) &&& 63).toInt = 5 ∨ ((xs (ix l5)) &&& 63).toInt = 6 ∨ ((xs (ix l5)) &&& 63).toInt = 7 ∨ ((xs (ix l5)) &&& 63).toInt = 8 ∨ ((xs (ix l5)) &&& 63).toInt = 9 ∨ ((xs (ix l5)) &&& 63).toInt = 10 ∨ ((xs (ix l5)) &&& 63).toInt = 11 ∨ ((xs (ix l5)) &&& 63).toInt = 12 ∨ ((xs (ix l5)) &&& 63).toInt = 13 ∨ ((xs (ix l5)) &&& 63).toInt = 14 ∨ ((xs (ix l5)) &&& 63).toInt = 15 ∨ ((xs (ix l5)) &&& 63).toInt = 16 ∨ ((xs (ix l5)) &&& 63).toInt = 17 ∨ ((xs (ix l5)) &&& 63).toInt = 18 ∨ ((xs (ix l5)) &&& 63).toInt = 19 ∨ ((xs (ix l5)) &&& 63).toInt = 20 ∨ ((xs (ix l5)) &&& 63).toInt = 21 ∨ ((xs (ix l5)) &&& 63).toInt = 22 ∨ ((xs (ix l5)) &&& 63).toInt = 23 ∨ ((xs (ix l5)) &&& 63).toInt = 24 ∨ ((xs (ix l5)) &&& 63).toInt = 25 ∨ ((xs (ix l5)) &&& 63).toInt = 26 ∨ ((xs (ix l5)) &&& 63).toInt = 27 ∨ ((xs (ix l5)) &&& 63).toInt = 28 ∨ ((xs (ix l5)) &&& 63).toInt = 29 ∨ ((xs (ix l5)) &&& 63).toInt = 30 ∨ ((xs (ix l5)) &&& 63).toInt = 31 ∨ ((xs (ix l5)) &&& 63).toInt = 32 ∨ ((xs (ix l5)) &&& 63).toInt = 33 ∨ ((xs (ix l5)) &&& 63).toInt = 34 ∨ ((xs (ix l5)) &&& 63).toInt = 35 ∨ ((xs (ix l5)) &&& 63).toInt = 36 ∨ ((xs (ix l5)) &&& 63).toInt = 37 ∨ ((xs (ix l5)) &&& 63).toInt = 38 ∨ ((xs (ix l5)) &&& 63).toInt = 39 ∨ ((xs (ix l5)) &&& 63).toInt = 40 by omega) with hx | hx | hx | hx | hx | hx | hx | hx | hx | hx | hx | hx | hx | hx | hx | hx | hx | hx | hx | hx | hx | hx | hx | hx | hx | hx | hx | hx | hx | hx | hx | hx | hx | hx | hx | hx | hx | hx | hx | hx | hx
        · have h := h.1 hx
          refine gd_tableIn (pc := 44) X 224 dL_law_44 (by omega) (by omega) (by rw [hx]; rfl) (by decide) ?_
          exact gl_224 hfl X hX hbl hbA hrt hlk hG (k := 93 + (513 - (f + 1)) * 36) (j := 27652 + (513 - (f + 1)) * 292) (by omega) (by omega) _ (fun S l1 l2 l3 l4 l5 h => gd_wide (by omega) (by omega) (ih (by omega) S l1 l2 l3 l4 l5 h)) _ _ _ _ _ _ h
        · have h := h.2.1 hx
          refine gd_tableIn (pc := 44) X 284 dL_law_44 (by omega) (by omega) (by rw [hx]; rfl) (by decide) ?_
          exact gl_284 hfl X hX hbl hbA hrt hlk hG (k := 93 + (513 - (f + 1)) * 36) (j := 27652 + (513 - (f + 1)) * 292) (by omega) (by omega) _ (fun S l1 l2 l3 l4 l5 h => gd_wide (by omega) (by omega) (ih (by omega) S l1 l2 l3 l4 l5 h)) _ _ _ _ _ _ h
        · have h := h.2.2.1 hx
          refine gd_tableIn (pc := 44) X 328 dL_law_44 (by omega) (by omega) (by rw [hx]; rfl) (by decide) ?_
          exact gl_328 hfl X hX hbl hbA hrt hlk hG (k := 93 + (513 - (f + 1)) * 36) (j := 27652 + (513 - (f + 1)) * 292) (by omega) (by omega) _ (fun S l1 l2 l3 l4 l5 h => gd_wide (by omega) (by omega) (ih (by omega) S l1 l2 l3 l4 l5 h)) _ _ _ _ _ _ h
        · have h := h.2.2.2.1 hx
          refine gd_tableIn (pc := 44) X 384 dL_law_44 (by omega) (by omega) (by rw [hx]; rfl) (by decide) ?_
          exact gl_384 hfl X hX hbl hbA hrt hlk hG (k := 93 + (513 - (f + 1)) * 36) (j := 27652 + (513 - (f + 1)) * 292) (by omega) (by omega) _ (fun S l1 l2 l3 l4 l5 h => gd_wide (by omega) (by omega) (ih (by omega) S l1 l2 l3 l4 l5 h)) _ _ _ _ _ _ h
        · have h := h.2.2.2.2.1 hx
          refine gd_tableIn (pc := 44) X 452 dL_law_44 (by omega) (by omega) (by rw [hx]; rfl) (by decide) ?_
          exact gl_452 hfl X hX hbl hbA hrt hlk hG (k := 93 + (513 - (f + 1)) * 36) (j := 27652 + (513 - (f + 1)) * 292) (by omega) (by omega) _ (fun S l1 l2 l3 l4 l5 h => gd_wide (by omega) (by omega) (ih (by omega) S l1 l2 l3 l4 l5 h)) _ _ _ _ _ _ h
        · have h := h.2.2.2.2.2.1 hx
          refine gd_tableIn (pc := 44) X 544 dL_law_44 (by omega) (by omega) (by rw [hx]; rfl) (by decide) ?_
          exact gl_544 hfl X hX hbl hbA hrt hlk hG (k := 93 + (513 - (f + 1)) * 36) (j := 27652 + (513 - (f + 1)) * 292) (by omega) (by omega) _ (fun S l1 l2 l3 l4 l5 h => gd_wide (by omega) (by omega) (ih (by omega) S l1 l2 l3 l4 l5 h)) _ _ _ _ _ _ h
        · have h := h.2.2.2.2.2.2.1 hx
          refine gd_tableIn (pc := 44) X 624 dL_law_44 (by omega) (by omega) (by rw [hx]; rfl) (by decide) ?_
          exact gl_624 hfl X hX hbl hbA hrt hlk hG (k := 93 + (513 - (f + 1)) * 36) (j := 27652 + (513 - (f + 1)) * 292) (by omega) (by omega) _ (fun S l1 l2 l3 l4 l5 h => gd_wide (by omega) (by omega) (ih (by omega) S l1 l2 l3 l4 l5 h)) _ _ _ _ _ _ h
        · have h := h.2.2.2.2.2.2.2.1 hx
          refine gd_tableIn (pc := 44) X 684 dL_law_44 (by omega) (by omega) (by rw [hx]; rfl) (by decide) ?_
          exact gl_684 hfl X hX hbl hbA hrt hlk hG (k := 93 + (513 - (f + 1)) * 36) (j := 27652 + (513 - (f + 1)) * 292) (by omega) (by omega) _ (fun S l1 l2 l3 l4 l5 h => gd_wide (by omega) (by omega) (ih (by omega) S l1 l2 l3 l4 l5 h)) _ _ _ _ _ _ h
        · have h := h.2.2.2.2.2.2.2.2.1 hx
          refine gd_tableIn (pc := 44) X 732 dL_law_44 (by omega) (by omega) (by rw [hx]; rfl) (by decide) ?_
          exact gl_732 hfl X hX hbl hbA hrt hlk hG (k := 93 + (513 - (f + 1)) * 36) (j := 27652 + (513 - (f + 1)) * 292) (by omega) (by omega) _ (fun S l1 l2 l3 l4 l5 h => gd_wide (by omega) (by omega) (ih (by omega) S l1 l2 l3 l4 l5 h)) _ _ _ _ _ _ h
        · have h := h.2.2.2.2.2.2.2.2.2.1 hx
          refine gd_tableIn (pc := 44) X 812 dL_law_44 (by omega) (by omega) (by rw [hx]; rfl) (by decide) ?_
          exact gl_812 hfl X hX hbl hbA hrt hlk hG (k := 93 + (513 - (f + 1)) * 36) (j := 27652 + (513 - (f + 1)) * 292) (by omega) (by omega) _ (fun S l1 l2 l3 l4 l5 h => gd_wide (by omega) (by omega) (ih (by omega) S l1 l2 l3 l4 l5 h)) _ _ _ _ _ _ h
        · have h := h.2.2.2.2.2.2.2.2.2.2.1 hx
          refine gd_tableIn (pc := 44) X 868 dL_law_44 (by omega) (by omega) (by rw [hx]; rfl) (by decide) ?_
          exact gl_868 hfl X hX hbl hbA hrt hlk hG (k := 93 + (513 - (f + 1)) * 36) (j := 27652 + (513 - (f + 1)) * 292) (by omega) (by omega) _ (fun S l1 l2 l3 l4 l5 h => gd_wide (by omega) (by omega) (ih (by omega) S l1 l2 l3 l4 l5 h)) _ _ _ _ _ _ h
        · have h := h.2.2.2.2.2.2.2.2.2.2.2.1 hx
          refine gd_tableIn (pc := 44) X 904 dL_law_44 (by omega) (by omega) (by rw [hx]; rfl) (by decide) ?_
          exact gl_904 hfl X hX hbl hbA hrt hlk hG (k := 93 + (513 - (f + 1)) * 36) (j := 27652 + (513 - (f + 1)) * 292) (by omega) (by omega) _ (fun S l1 l2 l3 l4 l5 h => gd_wide (by omega) (by omega) (ih (by omega) S l1 l2 l3 l4 l5 h)) _ _ _ _ _ _ h
        · have h := h.2.2.2.2.2.2.2.2.2.2.2.2.1 hx
          refine gd_tableIn (pc := 44) X 917 dL_law_44 (by omega) (by omega) (by rw [hx]; rfl) (by decide) ?_
          exact gl_917 hfl X hX hbl hbA hrt hlk hG (k := 93 + (513 - (f + 1)) * 36) (j := 27652 + (513 - (f + 1)) * 292) (by omega) (by omega) _ (fun S l1 l2 l3 l4 l5 h => gd_wide (by omega) (by omega) (ih (by omega) S l1 l2 l3 l4 l5 h)) _ _ _ _ _ _ h
        · have h := h.2.2.2.2.2.2.2.2.2.2.2.2.2.1 hx
          refine gd_tableIn (pc := 44) X 930 dL_law_44 (by omega) (by omega) (by rw [hx]; rfl) (by decide) ?_
          exact gl_930 hfl X hX hbl hbA hrt hlk hG (k := 93 + (513 - (f + 1)) * 36) (j := 27652 + (513 - (f + 1)) * 292) (by omega) (by omega) _ (fun S l1 l2 l3 l4 l5 h => gd_wide (by omega) (by omega) (ih (by omega) S l1 l2 l3 l4 l5 h)) _ _ _ _ _ _ h
        · have h := h.2.2.2.2.2.2.2.2.2.2.2.2.2.2.1 hx
          refine gd_tableIn (pc := 44) X 943 dL_law_44 (by omega) (by omega) (by rw [hx]; rfl) (by decide) ?_
          exact gl_943 hfl X hX hbl hbA hrt hlk hG (k := 93 + (513 - (f + 1)) * 36) (j := 27652 + (513 - (f + 1)) * 292) (by omega) (by omega) _ (fun S l1 l2 l3 l4 l5 h => gd_wide (by omega) (by omega) (ih (by omega) S l1 l2 l3 l4 l5 h)) _ _ _ _ _ _ h
        · have h := h.2.2.2.2.2.2.2.2.2.2.2.2.2.2.2.1 hx
          refine gd_tableIn (pc := 44) X 987 dL_law_44 (by omega) (by omega) (by rw [hx]; rfl) (by decide) ?_
          exact gl_987 hfl X hX hbl hbA hrt hlk hG (k := 93 + (513 - (f + 1)) * 36) (j := 27652 + (513 - (f + 1)) * 292) (by omega) (by omega) _ (fun S l1 l2 l3 l4 l5 h => gd_wide (by omega) (by omega) (ih (by omega) S l1 l2 l3 l4 l5 h)) _ _ _ _ _ _ h
        · have h := h.2.2.2.2.2.2.2.2.2.2.2.2.2.2.2.2.1 hx
          refine gd_tableIn (pc := 44) X 1043 dL_law_44 (by omega) (by omega) (by rw [hx]; rfl) (by decide) ?_
          exact gl_1043 hfl X hX hbl hbA hrt hlk hG (k := 93 + (513 - (f + 1)) * 36) (j := 27652 + (513 - (f + 1)) * 292) (by omega) (by omega) _ (fun S l1 l2 l3 l4 l5 h => gd_wide (by omega) (by omega) (ih (by omega) S l1 l2 l3 l4 l5 h)) _ _ _ _ _ _ h
        · have h := h.2.2.2.2.2.2.2.2.2.2.2.2.2.2.2.2.2.1 hx
          refine gd_tableIn (pc := 44) X 1099 dL_law_44 (by omega) (by omega) (by rw [hx]; rfl) (by decide) ?_
          exact gl_1099 hfl X hX hbl hbA hrt hlk hG (k := 93 + (513 - (f + 1)) * 36) (j := 27652 + (513 - (f + 1)) * 292) (by omega) (by omega) _ (fun S l1 l2 l3 l4 l5 h => gd_wide (by omega) (by omega) (ih (by omega) S l1 l2 l3 l4 l5 h)) _ _ _ _ _ _ h
        · have h := h.2.2.2.2.2.2.2.2.2.2.2.2.2.2.2.2.2.2.1 hx
          refine gd_tableIn (pc := 44) X 1155 dL_law_44 (by omega) (by omega) (by rw [hx]; rfl) (by decide) ?_
          exact gl_1155 hfl X hX hbl hbA hrt hlk hG (k := 93 + (513 - (f + 1)) * 36) (j := 27652 + (513 - (f + 1)) * 292) (by omega) (by omega) _ (fun S l1 l2 l3 l4 l5 h => gd_wide (by omega) (by omega) (ih (by omega) S l1 l2 l3 l4 l5 h)) _ _ _ _ _ _ h
        · have h := h.2.2.2.2.2.2.2.2.2.2.2.2.2.2.2.2.2.2.2.1 hx
          refine gd_tableIn (pc := 44) X 1211 dL_law_44 (by omega) (by omega) (by rw [hx]; rfl) (by decide) ?_
          exact gl_1211 hfl X hX hbl hbA hrt hlk hG (k := 93 + (513 - (f + 1)) * 36) (j := 27652 + (513 - (f + 1)) * 292) (by omega) (by omega) _ (fun S l1 l2 l3 l4 l5 h => gd_wide (by omega) (by omega) (ih (by omega) S l1 l2 l3 l4 l5 h)) _ _ _ _ _ _ h
        · have h := h.2.2.2.2.2.2.2.2.2.2.2.2.2.2.2.2.2.2.2.2.1 hx
          refine gd_tableIn (pc := 44) X 1267 dL_law_44 (by omega) (by omega) (by rw [hx]; rfl) (by decide) ?_
          exact gl_1267 hfl X hX hbl hbA hrt hlk hG (k := 93 + (513 - (f + 1)) * 36) (j := 27652 + (513 - (f + 1)) * 292) (by omega) (by omega) _ (fun S l1 l2 l3 l4 l5 h => gd_wide (by omega) (by omega) (ih (by omega) S l1 l2 l3 l4 l5 h)) _ _ _ _ _ _ h
        · have h := h.2.2.2.2.2.2.2.2.2.2.2.2.2.2.2.2.2.2.2.2.2.1 hx
          refine gd_tableIn (pc := 44) X 1323 dL_law_44 (by omega) (by omega) (by rw [hx]; rfl) (by decide) ?_
          exact gl_1323 hfl X hX hbl hbA hrt hlk hG (k := 93 + (513 - (f + 1)) * 36) (j := 27652 + (513 - (f + 1)) * 292) (by omega) (by omega) _ (fun S l1 l2 l3 l4 l5 h => gd_wide (by omega) (by omega) (ih (by omega) S l1 l2 l3 l4 l5 h)) _ _ _ _ _ _ h
        · have h := h.2.2.2.2.2.2.2.2.2.2.2.2.2.2.2.2.2.2.2.2.2.2.1 hx
          refine gd_tableIn (pc := 44) X 1379 dL_law_44 (by omega) (by omega) (by rw [hx]; rfl) (by decide) ?_
          exact gl_1379 hfl X hX hbl hbA hrt hlk hG (k := 93 + (513 - (f + 1)) * 36) (j := 27652 + (513 - (f + 1)) * 292) (by omega) (by omega) _ (fun S l1 l2 l3 l4 l5 h => gd_wide (by omega) (by omega) (ih (by omega) S l1 l2 l3 l4 l5 h)) _ _ _ _ _ _ h
        · have h := h.2.2.2.2.2.2.2.2.2.2.2.2.2.2.2.2.2.2.2.2.2.2.2.1 hx
          refine gd_tableIn (pc := 44) X 1435 dL_law_44 (by omega) (by omega) (by rw [hx]; rfl) (by decide) ?_
          exact gl_1435 hfl X hX hbl hbA hrt hlk hG (k := 93 + (513 - (f + 1)) * 36) (j := 27652 + (513 - (f + 1)) * 292) (by omega) (by omega) _ (fun S l1 l2 l3 l4 l5 h => gd_wide (by omega) (by omega) (ih (by omega) S l1 l2 l3 l4 l5 h)) _ _ _ _ _ _ h
        · have h := h.2.2.2.2.2.2.2.2.2.2.2.2.2.2.2.2.2.2.2.2.2.2.2.2.1 hx
          refine gd_tableIn (pc := 44) X 1498 dL_law_44 (by omega) (by omega) (by rw [hx]; rfl) (by decide) ?_
          exact gl_1498 hfl X hX hbl hbA hrt hlk hG (k := 93 + (513 - (f + 1)) * 36) (j := 27652 + (513 - (f + 1)) * 292) (by omega) (by omega) _ (fun S l1 l2 l3 l4 l5 h => gd_wide (by omega) (by omega) (ih (by omega) S l1 l2 l3 l4 l5 h)) _ _ _ _ _ _ h
        · have h := h.2.2.2.2.2.2.2.2.2.2.2.2.2.2.2.2.2.2.2.2.2.2.2.2.2.1 hx
          refine gd_tableIn (pc := 44) X 1554 dL_law_44 (by omega) (by omega) (by rw [hx]; rfl) (by decide) ?_
          exact gl_1554 hfl X hX hbl hbA hrt hlk hG (k := 93 + (513 - (f + 1)) * 36) (j := 27652 + (513 - (f + 1)) * 292) (by omega) (by omega) _ (fun S l1 l2 l3 l4 l5 h => gd_wide (by omega) (by omega) (ih (by omega) S l1 l2 l3 l4 l5 h)) _ _ _ _ _ _ h
        · have h := h.2.2.2.2.2.2.2.2.2.2.2.2.2.2.2.2.2.2.2.2.2.2.2.2.2.2.1 hx
          refine gd_tableIn (pc := 44) X 1610 dL_law_44 (by omega) (by omega) (by rw [hx]; rfl) (by decide) ?_
          exact gl_1610 hfl X hX hbl hbA hrt hlk hG (k := 93 + (513 - (f + 1)) * 36) (j := 27652 + (513 - (f + 1)) * 292) (by omega) (by omega) _ (fun S l1 l2 l3 l4 l5 h => gd_wide (by omega) (by omega) (ih (by omega) S l1 l2 l3 l4 l5 h)) _ _ _ _ _ _ h
        · have h := h.2.2.2.2.2.2.2.2.2.2.2.2.2.2.2.2.2.2.2.2.2.2.2.2.2.2.2.1 hx
          refine gd_tableIn (pc := 44) X 1678 dL_law_44 (by omega) (by omega) (by rw [hx]; rfl) (by decide) ?_
          exact gl_1678 hfl X hX hbl hbA hrt hlk hG (k := 93 + (513 - (f + 1)) * 36) (j := 27652 + (513 - (f + 1)) * 292) (by omega) (by omega) _ (fun S l1 l2 l3 l4 l5 h => gd_wide (by omega) (by omega) (ih (by omega) S l1 l2 l3 l4 l5 h)) _ _ _ _ _ _ h
        · have h := h.2.2.2.2.2.2.2.2.2.2.2.2.2.2.2.2.2.2.2.2.2.2.2.2.2.2.2.2.1 hx
          refine gd_tableIn (pc := 44) X 1734 dL_law_44 (by omega) (by omega) (by rw [hx]; rfl) (by decide) ?_
          exact gl_1734 hfl X hX hbl hbA hrt hlk hG (k := 93 + (513 - (f + 1)) * 36) (j := 27652 + (513 - (f + 1)) * 292) (by omega) (by omega) _ (fun S l1 l2 l3 l4 l5 h => gd_wide (by omega) (by omega) (ih (by omega) S l1 l2 l3 l4 l5 h)) _ _ _ _ _ _ h
        · have h := h.2.2.2.2.2.2.2.2.2.2.2.2.2.2.2.2.2.2.2.2.2.2.2.2.2.2.2.2.2.1 hx
          refine gd_tableIn (pc := 44) X 1790 dL_law_44 (by omega) (by omega) (by rw [hx]; rfl) (by decide) ?_
          exact gl_1790 hfl X hX hbl hbA hrt hlk hG (k := 93 + (513 - (f + 1)) * 36) (j := 27652 + (513 - (f + 1)) * 292) (by omega) (by omega) _ (fun S l1 l2 l3 l4 l5 h => gd_wide (by omega) (by omega) (ih (by omega) S l1 l2 l3 l4 l5 h)) _ _ _ _ _ _ h
        · have h := h.2.2.2.2.2.2.2.2.2.2.2.2.2.2.2.2.2.2.2.2.2.2.2.2.2.2.2.2.2.2.1 hx
          refine gd_tableIn (pc := 44) X 1858 dL_law_44 (by omega) (by omega) (by rw [hx]; rfl) (by decide) ?_
          exact gl_1858 hfl X hX hbl hbA hrt hlk hG (k := 93 + (513 - (f + 1)) * 36) (j := 27652 + (513 - (f + 1)) * 292) (by omega) (by omega) _ (fun S l1 l2 l3 l4 l5 h => gd_wide (by omega) (by omega) (ih (by omega) S l1 l2 l3 l4 l5 h)) _ _ _ _ _ _ h
        · have h := h.2.2.2.2.2.2.2.2.2.2.2.2.2.2.2.2.2.2.2.2.2.2.2.2.2.2.2.2.2.2.2.1 hx
          refine gd_tableIn (pc := 44) X 1871 dL_law_44 (by omega) (by omega) (by rw [hx]; rfl) (by decide) ?_
          exact gl_1871 hfl X hX hbl hbA hrt hlk hG (k := 93 + (513 - (f + 1)) * 36) (j := 27652 + (513 - (f + 1)) * 292) (by omega) (by omega) _ (fun S l1 l2 l3 l4 l5 h => gd_wide (by omega) (by omega) (ih (by omega) S l1 l2 l3 l4 l5 h)) _ _ _ _ _ _ h
        · have h := h.2.2.2.2.2.2.2.2.2.2.2.2.2.2.2.2.2.2.2.2.2.2.2.2.2.2.2.2.2.2.2.2.1 hx
          refine gd_tableIn (pc := 44) X 1884 dL_law_44 (by omega) (by omega) (by rw [hx]; rfl) (by decide) ?_
          exact gl_1884 hfl X hX hbl hbA hrt hlk hG (k := 93 + (513 - (f + 1)) * 36) (j := 27652 + (513 - (f + 1)) * 292) (by omega) (by omega) _ (fun S l1 l2 l3 l4 l5 h => gd_wide (by omega) (by omega) (ih (by omega) S l1 l2 l3 l4 l5 h)) _ _ _ _ _ _ h
        · have h := h.2.2.2.2.2.2.2.2.2.2.2.2.2.2.2.2.2.2.2.2.2.2.2.2.2.2.2.2.2.2.2.2.2.1 hx
          refine gd_tableIn (pc := 44) X 1940 dL_law_44 (by omega) (by omega) (by rw [hx]; rfl) (by decide) ?_
          exact gl_1940 hfl X hX hbl hbA hrt hlk hG (k := 93 + (513 - (f + 1)) * 36) (j := 27652 + (513 - (f + 1)) * 292) (by omega) (by omega) _ (fun S l1 l2 l3 l4 l5 h => gd_wide (by omega) (by omega) (ih (by omega) S l1 l2 l3 l4 l5 h)) _ _ _ _ _ _ h
        · have h := h.2.2.2.2.2.2.2.2.2.2.2.2.2.2.2.2.2.2.2.2.2.2.2.2.2.2.2.2.2.2.2.2.2.2.1 hx
          refine gd_tableIn (pc := 44) X 2032 dL_law_44 (by omega) (by omega) (by rw [hx]; rfl) (by decide) ?_
          exact gl_2032 hfl X hX hbl hbA hrt hlk hG (k := 93 + (513 - (f + 1)) * 36) (j := 27652 + (513 - (f + 1)) * 292) (by omega) (by omega) _ (fun S l1 l2 l3 l4 l5 h => gd_wide (by omega) (by omega) (ih (by omega) S l1 l2 l3 l4 l5 h)) _ _ _ _ _ _ h
        · have h := h.2.2.2.2.2.2.2.2.2.2.2.2.2.2.2.2.2.2.2.2.2.2.2.2.2.2.2.2.2.2.2.2.2.2.2.1 hx
          refine gd_tableIn (pc := 44) X 2045 dL_law_44 (by omega) (by omega) (by rw [hx]; rfl) (by decide) ?_
          exact gl_2045 hfl X hX hbl hbA hrt hlk hG (k := 93 + (513 - (f + 1)) * 36) (j := 27652 + (513 - (f + 1)) * 292) (by omega) (by omega) _ (fun S l1 l2 l3 l4 l5 h => gd_wide (by omega) (by omega) (ih (by omega) S l1 l2 l3 l4 l5 h)) _ _ _ _ _ _ h
        · have h := h.2.2.2.2.2.2.2.2.2.2.2.2.2.2.2.2.2.2.2.2.2.2.2.2.2.2.2.2.2.2.2.2.2.2.2.2.1 hx
          refine gd_tableIn (pc := 44) X 2101 dL_law_44 (by omega) (by omega) (by rw [hx]; rfl) (by decide) ?_
          exact gl_2101 hfl X hX hbl hbA hrt hlk hG (k := 93 + (513 - (f + 1)) * 36) (j := 27652 + (513 - (f + 1)) * 292) (by omega) (by omega) _ (fun S l1 l2 l3 l4 l5 h => gd_wide (by omega) (by omega) (ih (by omega) S l1 l2 l3 l4 l5 h)) _ _ _ _ _ _ h
        · have h := h.2.2.2.2.2.2.2.2.2.2.2.2.2.2.2.2.2.2.2.2.2.2.2.2.2.2.2.2.2.2.2.2.2.2.2.2.2.1 hx
          refine gd_tableIn (pc := 44) X 2166 dL_law_44 (by omega) (by omega) (by rw [hx]; rfl) (by decide) ?_
          exact gl_2166 hfl X hX hbl hbA hrt hlk hG (k := 93 + (513 - (f + 1)) * 36) (j := 27652 + (513 - (f + 1)) * 292) (by omega) (by omega) _ (fun S l1 l2 l3 l4 l5 h => gd_wide (by omega) (by omega) (ih (by omega) S l1 l2 l3 l4 l5 h)) _ _ _ _ _ _ h
        · have h := h.2.2.2.2.2.2.2.2.2.2.2.2.2.2.2.2.2.2.2.2.2.2.2.2.2.2.2.2.2.2.2.2.2.2.2.2.2.2.1 hx
          refine gd_tableIn (pc := 44) X 2232 dL_law_44 (by omega) (by omega) (by rw [hx]; rfl) (by decide) ?_
          exact gl_2232 hfl X hX hbl hbA hrt hlk hG (k := 93 + (513 - (f + 1)) * 36) (j := 27652 + (513 - (f + 1)) * 292) (by omega) (by omega) _ (fun S l1 l2 l3 l4 l5 h => gd_wide (by omega) (by omega) (ih (by omega) S l1 l2 l3 l4 l5 h)) _ _ _ _ _ _ h
        · have h := h.2.2.2.2.2.2.2.2.2.2.2.2.2.2.2.2.2.2.2.2.2.2.2.2.2.2.2.2.2.2.2.2.2.2.2.2.2.2.2.1 hx
          refine gd_tableIn (pc := 44) X 2288 dL_law_44 (by omega) (by omega) (by rw [hx]; rfl) (by decide) ?_
          exact gl_2288 hfl X hX hbl hbA hrt hlk hG (k := 93 + (513 - (f + 1)) * 36) (j := 27652 + (513 - (f + 1)) * 292) (by omega) (by omega) _ (fun S l1 l2 l3 l4 l5 h => gd_wide (by omega) (by omega) (ih (by omega) S l1 l2 l3 l4 l5 h)) _ _ _ _ _ _ h
        · have h := h.2.2.2.2.2.2.2.2.2.2.2.2.2.2.2.2.2.2.2.2.2.2.2.2.2.2.2.2.2.2.2.2.2.2.2.2.2.2.2.2.1 hx
          refine gd_tableIn (pc := 44) X 2332 dL_law_44 (by omega) (by omega) (by rw [hx]; rfl) (by decide) ?_
          exact gl_2332 hfl X hX hbl hbA hrt hlk hG (k := 93 + (513 - (f + 1)) * 36) (j := 27652 + (513 - (f + 1)) * 292) (by omega) (by omega) _ (fun S l1 l2 l3 l4 l5 h => gd_wide (by omega) (by omega) (ih (by omega) S l1 l2 l3 l4 l5 h)) _ _ _ _ _ _ h
def w_L_law (xs : Nat → Int32) (Lx : Nat) (S : MS) : Prop := ∀ q1 : Nat, kT S q1 = 0 → ¬ q1 = 0 → ∀ S2 : MS, S2 = nw S q1 6 0 → w_X5_init S2 q1 (fun S4 => ∀ q6 : Nat, kT S4 q6 = 0 → ¬ q6 = 0 → ∀ S7 : MS, S7 = nw S4 q6 7 0 → w_X6_init S7 q6 (fun S9 => ∀ q11 : Nat, kT S9 q11 = 0 → ¬ q11 = 0 → ∀ S12 : MS, S12 = nw S9 q11 15 1 → ∀ q14 : Nat, kT S12 q14 = 0 → ¬ q14 = 0 → ∀ S15 : MS, S15 = nw S12 q14 16 1 → ∃ f28, f28 ≤ 513 ∧ b_L_law_28 xs Lx f28 S15 q1 q6 q11 q14 0))
set_option maxHeartbeats 4000000 in
set_option maxRecDepth 100000 in
theorem law_gd {p : Program} {l : Launch} {e : Env} {s : State} {m : MethodId} {below : List Frame} {meth : Method} {c : Code} {G : GP} {b Lx : Nat} {xs : Nat → Int32} (hfl : l.stackTraces = false) (X : Cx p s m #[Value.ref b] c code 9 R_law G) (hX : va_X b Lx xs s s.heap) (hbl : b < s.heap.size) (hbA : ¬ Ab G b) (hrt : meth.sig.returnType = ret) (hlk : meth.locks = false) (hG : G.2.2 = s.heap.size) (S : MS) (h : w_L_law xs Lx S) : Gd p l e room_1 s m #[Value.ref b] below meth c 9 G (lw_Z below #[Value.ref b] s) 0 0 S 0 [(0, .ref b)] [] := by
  refine gd_new (pc := 0) X ci5 tw_21 tw_22 tw_1 (by decide +kernel) dL_law_0 ⟨Nat.le_of_ble_eq_true rfl, Nat.le_of_ble_eq_true rfl⟩ (fun q1 hzq1 hnq1 => ?_)
  have h := h q1 hzq1 hnq1
  refine gd_wide (k2 := 1) (j2 := 12) (Nat.le_of_ble_eq_true rfl) (Nat.le_of_ble_eq_true rfl) ?_
  refine gd_topS (fun S2 hS2 => ?_)
  have h := h S2 hS2
  have hk3 : kT S2 q1 = 6 := by rw [hS2]; exact kT_nw _ _ _ _
  refine gd_dupR (pc := 3) X dL_law_3 ?_
  refine gd_callI (pc := 4) (As := []) (rest := [rf q1]) X (ct_X5_init l G S2 q1 _ h) mw_X5_init tw_23 (by rw [hk3]; decide) ⟨(Nat.le_of_ble_eq_true rfl), (Nat.le_of_ble_eq_true rfl)⟩ rfl rfl (Nat.le_of_ble_eq_true rfl) dL_law_4 ⟨Nat.le_of_ble_eq_true rfl, Nat.le_of_ble_eq_true rfl⟩ (kV (fun S4 h => ?_))
  refine gd_wide (k2 := 72) (j2 := 2361) (Nat.le_of_ble_eq_true rfl) (Nat.le_of_ble_eq_true rfl) ?_
  refine gd_astore_n (pc := 7) X dL_law_7 (by decide) (E2 := [(1, rf q1), (0, .ref b)]) rfl ?_
  refine gd_new (pc := 8) X ci6 tw_977 tw_978 tw_5 (by decide +kernel) dL_law_8 ⟨Nat.le_of_ble_eq_true rfl, Nat.le_of_ble_eq_true rfl⟩ (fun q6 hzq6 hnq6 => ?_)
  have h := h q6 hzq6 hnq6
  refine gd_wide (k2 := 73) (j2 := 2392) (Nat.le_of_ble_eq_true rfl) (Nat.le_of_ble_eq_true rfl) ?_
  refine gd_topS (fun S7 hS7 => ?_)
  have h := h S7 hS7
  have hk8 : kT S7 q6 = 7 := by rw [hS7]; exact kT_nw _ _ _ _
  refine gd_dupR (pc := 11) X dL_law_11 ?_
  refine gd_callI (pc := 12) (As := []) (rest := [rf q6]) X (ct_X6_init l G S7 q6 _ h) mw_X6_init tw_979 (by rw [hk8]; decide) ⟨(Nat.le_of_ble_eq_true rfl), (Nat.le_of_ble_eq_true rfl)⟩ rfl rfl (Nat.le_of_ble_eq_true rfl) dL_law_12 ⟨Nat.le_of_ble_eq_true rfl, Nat.le_of_ble_eq_true rfl⟩ (kV (fun S9 h => ?_))
  refine gd_wide (k2 := 91) (j2 := 27650) (Nat.le_of_ble_eq_true rfl) (Nat.le_of_ble_eq_true rfl) ?_
  refine gd_astore_n (pc := 15) X dL_law_15 (by decide) (E2 := [(2, rf q6), (1, rf q1), (0, .ref b)]) (by simp [rf_cat, lv1, int_cat, ref_cat] <;> decide) ?_
  refine gd_iconst (pc := 16) X (1) dL_law_16 (by decide) ?_
  refine gd_newaL (pc := 17) (N := 1) X tw_1429 (by decide) (by decide) (by decide) dL_law_17 ⟨Nat.le_of_ble_eq_true rfl, Nat.le_of_ble_eq_true rfl⟩ (fun q11 hzq11 hnq11 => ?_)
  have h := h q11 hzq11 hnq11
  refine gd_wide (k2 := 92) (j2 := 27651) (Nat.le_of_ble_eq_true rfl) (Nat.le_of_ble_eq_true rfl) ?_
  refine gd_topS (fun S12 hS12 => ?_)
  have h := h S12 hS12
  have hk13 : kT S12 q11 = 15 := by rw [hS12]; exact kT_nw _ _ _ _
  refine gd_astore_n (pc := 19) X dL_law_19 (by decide) (E2 := [(3, rf q11), (2, rf q6), (1, rf q1), (0, .ref b)]) (by simp [rf_cat, lv1, int_cat, ref_cat] <;> decide) ?_
  refine gd_iconst (pc := 20) X (1) dL_law_20 (by decide) ?_
  refine gd_newaD (pc := 21) (N := 1) X tw_1430 (by decide) (by decide) (by decide) dL_law_21 ⟨Nat.le_of_ble_eq_true rfl, Nat.le_of_ble_eq_true rfl⟩ (fun q14 hzq14 hnq14 => ?_)
  have h := h q14 hzq14 hnq14
  refine gd_wide (k2 := 93) (j2 := 27652) (Nat.le_of_ble_eq_true rfl) (Nat.le_of_ble_eq_true rfl) ?_
  refine gd_topS (fun S15 hS15 => ?_)
  have h := h S15 hS15
  have hk16 : kT S15 q11 = 15 := by rw [hS15]; exact kT_nwo hk13 hzq14 (by decide)
  have hk17 : kT S15 q14 = 16 := by rw [hS15]; exact kT_nw _ _ _ _
  refine gd_astore (pc := 23) X dL_law_23 (by decide) (E2 := [(4, rf q14), (3, rf q11), (2, rf q6), (1, rf q1), (0, .ref b)]) (by simp [rf_cat, lv1, int_cat, ref_cat] <;> decide) ?_
  refine gd_iconst (pc := 25) X (0) dL_law_25 (by decide) ?_
  refine gd_istore (pc := 26) X dL_law_26 (by decide) (E2 := [(5, .int 0), (4, rf q14), (3, rf q11), (2, rf q6), (1, rf q1), (0, .ref b)]) (by simp [rf_cat, lv1, int_cat, ref_cat] <;> decide) ?_
  obtain ⟨f28, hf, h⟩ := h
  refine gd_wide (k2 := 93 + (513 - f28) * 36) (j2 := 27652 + (513 - f28) * 292) (by omega) (by omega) ?_
  refine gd_sub [5, 4, 3, 2, 1, 0] rfl ?_
  exact law_loop hfl X hX hbl hbA hrt hlk hG f28 hf _ _ _ _ _ _ h
