abbrev rm_X6_doCommit : Room := { frames := 6, cells := 0, slots := 0, locals := 144 }
def b_X6_doCommit_268 (post : Int32 → MS → Prop) (S : MS) (l0 : Nat) (l1 : Int32) (l2 : Int32) (l3 : Int32) (l4 : Int32) (l5 : Int32) (s0 : Int32) (s1 : Nat) : Prop := kT S s1 = 7 ∧ ∀ S2 : MS, S2 = pI S s1 13 s0 → kT S2 l0 = 7 ∧ post (sI S2 l0 14) S2
def b_X6_doCommit_177 (post : Int32 → MS → Prop) : Nat → MS → Nat → Int32 → Int32 → Int32 → Int32 → Int32 → Prop
  | 0 => fun _ _ _ _ _ _ _ => False
  | f + 1 => fun S l0 l1 l2 l3 l4 l5 => ((32 ≤ l5 → kT S l0 = 7 ∧ ∀ S2 : MS, S2 = pI S l0 14 ((sI S l0 14) + 1) → kT S2 (sR S2 l0 16) = 9 ∧ vp_in (sI S2 l0 14) (kL S2 (sR S2 l0 16)) ∧ ∀ S6 : MS, S6 = pI S2 (sR S2 l0 16) (ix (sI S2 l0 14)) l1 → kT S6 (sR S6 l0 5) = 9 ∧ vp_in l1 (kL S6 (sR S6 l0 5)) ∧ ∀ S11 : MS, S11 = pI S6 (sR S6 l0 5) (ix l1) (sI S6 l0 14) → kT S11 (sR S11 l0 2) = 9 ∧ vp_in l1 (kL S11 (sR S11 l0 2)) ∧ ∀ S17 : MS, S17 = pI S11 (sR S11 l0 2) (ix l1) 1 → ((¬ (sI S17 l0 13) = l1 → b_X6_doCommit_268 post S17 l0 l1 l2 l3 l4 l5 (sI S17 l0 13) l0) ∧ ((sI S17 l0 13) = l1 → b_X6_doCommit_268 post S17 l0 l1 l2 l3 l4 l5 ((-1)) l0))) ∧ (¬ 32 ≤ l5 → kT S l0 = 7 ∧ w_X6_viewed S l0 l1 l5 (fun r25 S24 => kT S24 (sR S l0 15) = 9 ∧ vp_in ((32 * ((sI S l0 14) + 1)) + l5) (kL S24 (sR S l0 15)) ∧ ∀ S28 : MS, S28 = pI S24 (sR S l0 15) (ix ((32 * ((sI S l0 14) + 1)) + l5)) r25 → ∀ v30 : Int32, v30 = l5 + 1 → b_X6_doCommit_177 post f S28 l0 l1 l2 l3 l4 v30)))
def b_X6_doCommit_174 (post : Int32 → MS → Prop) (S : MS) (l0 : Nat) (l1 : Int32) (l2 : Int32) (l3 : Int32) (l4 : Int32) (l5 : Int32) : Prop := ∃ f177, b_X6_doCommit_177 post f177 S l0 l1 l2 l3 l4 0
def b_X6_doCommit_168 (KH134 : MS → Nat → Int32 → Int32 → Int32 → Int32 → Int32 → Prop) (post : Int32 → MS → Prop) (S : MS) (l0 : Nat) (l1 : Int32) (l2 : Int32) (l3 : Int32) (l4 : Int32) (l5 : Int32) : Prop := ∀ v1 : Int32, v1 = l5 + 1 → KH134 S l0 l1 l2 l3 l4 v1
def b_X6_doCommit_134 (post : Int32 → MS → Prop) : Nat → MS → Nat → Int32 → Int32 → Int32 → Int32 → Int32 → Prop
  | 0 => fun _ _ _ _ _ _ _ => False
  | f + 1 => fun S l0 l1 l2 l3 l4 l5 => kT S l0 = 7 ∧ (((sI S l0 1) ≤ l5 → b_X6_doCommit_174 post S l0 l1 l2 l3 l4 l5) ∧ (¬ (sI S l0 1) ≤ l5 → ((¬ (sI S l0 17) = 1 → b_X6_doCommit_174 post S l0 l1 l2 l3 l4 l5) ∧ ((sI S l0 17) = 1 → w_X6_isRival S l0 l1 l5 (fun r3 S2 => ((r3 = 0 → b_X6_doCommit_168 (b_X6_doCommit_134 post f) post S2 l0 l1 l2 l3 l4 l5) ∧ (¬ r3 = 0 → kT S2 l0 = 7 ∧ w_X6_endWith S2 l0 l5 3 (fun S5 => b_X6_doCommit_168 (b_X6_doCommit_134 post f) post S5 l0 l1 l2 l3 l4 l5))))))))
def b_X6_doCommit_114 (post : Int32 → MS → Prop) (S : MS) (l0 : Nat) (l1 : Int32) (l2 : Int32) (l3 : Int32) (s0 : Int32) : Prop := ((s0 ≤ 0 → ∃ f134, b_X6_doCommit_134 post f134 S l0 l1 l2 l3 s0 0) ∧ (¬ s0 ≤ 0 → kT S l0 = 7 ∧ w_X6_endWith S l0 l1 s0 (fun S2 => post ((-2)) S2)))
def b_X6_doCommit_84 (post : Int32 → MS → Prop) (S : MS) (l0 : Nat) (l1 : Int32) (l2 : Int32) (s0 : Int32) : Prop := ((l2 ≤ 0 → ((s0 = 0 → kT S l0 = 7 ∧ w_X6_violates S l0 l1 (fun r3 S2 => ((r3 = 0 → b_X6_doCommit_114 post S2 l0 l1 l2 s0 0) ∧ (¬ r3 = 0 → b_X6_doCommit_114 post S2 l0 l1 l2 s0 4)))) ∧ (¬ s0 = 0 → b_X6_doCommit_114 post S l0 l1 l2 s0 3))) ∧ (¬ l2 ≤ 0 → b_X6_doCommit_114 post S l0 l1 l2 s0 l2))
def b_X6_doCommit_83 (post : Int32 → MS → Prop) (S : MS) (l0 : Nat) (l1 : Int32) (l2 : Int32) : Prop := b_X6_doCommit_84 post S l0 l1 l2 0
def b_X6_doCommit_46 (post : Int32 → MS → Prop) (S : MS) (l0 : Nat) (l1 : Int32) (s0 : Int32) : Prop := kT S l0 = 7 ∧ ((¬ (sI S l0 17) = 1 → b_X6_doCommit_83 post S l0 l1 s0) ∧ ((sI S l0 17) = 1 → (((sI S l0 13) = l1 → b_X6_doCommit_83 post S l0 l1 s0) ∧ (¬ (sI S l0 13) = l1 → w_X6_countRivals S l0 l1 (fun r3 S2 => ((r3 ≤ 0 → b_X6_doCommit_83 post S2 l0 l1 s0) ∧ (¬ r3 ≤ 0 → kT S2 l0 = 7 ∧ w_X6_loses S2 l0 l1 (fun r6 S5 => ((r6 = 0 → b_X6_doCommit_83 post S5 l0 l1 s0) ∧ (¬ r6 = 0 → b_X6_doCommit_84 post S5 l0 l1 s0 1))))))))))
def b_X6_doCommit_30 (post : Int32 → MS → Prop) (S : MS) (l0 : Nat) (l1 : Int32) : Prop := kT S l0 = 7 ∧ ((¬ (sI S l0 17) = 0 → b_X6_doCommit_46 post S l0 l1 0) ∧ ((sI S l0 17) = 0 → w_X6_staleness S l0 l1 (fun r3 S2 => b_X6_doCommit_46 post S2 l0 l1 r3)))
def w_X6_doCommit (S : MS) (a0 : Nat) (a1 : Int32) (post : Int32 → MS → Prop) : Prop := kT S a0 = 7 ∧ (((sI S a0 13) = ((-1)) → b_X6_doCommit_30 post S a0 a1) ∧ (¬ (sI S a0 13) = ((-1)) → (((sI S a0 13) = a1 → b_X6_doCommit_30 post S a0 a1) ∧ (¬ (sI S a0 13) = a1 → w_X6_conflicts S a0 a1 (sI S a0 13) (fun r3 S2 => ((r3 = 0 → b_X6_doCommit_30 post S2 a0 a1) ∧ (¬ r3 = 0 → post ((-1)) S2)))))))
set_option maxHeartbeats 4000000 in
set_option maxRecDepth 100000 in
theorem ct_X6_doCommit (l : Launch) (G : GP) (S : MS) (a0 : Nat) (a1 : Int32) (post : Int32 → MS → Prop) (h : w_X6_doCommit S a0 a1 post) : MetM l yX6_doCommit cX6_doCommit 6 (some .int) rm_X6_doCommit [rf a0, .int a1] G S (pI_ post) := by
  refine met_of (by decide) (cat1_r (cat1_i cat1_n)) (Nat.le_of_ble_eq_true rfl) ?_
  intro p e s m args below meth c X hr hlk hin
  revert h
  have g268 : ∀ (S : MS) (l0 : Nat) (l1 : Int32) (l2 : Int32) (l3 : Int32) (l4 : Int32) (l5 : Int32) (s0 : Int32) (s1 : Nat), b_X6_doCommit_268 post S l0 l1 l2 l3 l4 l5 s0 s1 → Gd p l e rm_X6_doCommit s m args below meth c 6 G (MQ below (QcM G (pI_ post)) args s rm_X6_doCommit.cells rm_X6_doCommit.slots (Ab G)) 0 0 S 268 [(0, rf l0), (1, .int l1), (2, .int l2), (3, .int l3), (4, .int l4), (5, .int l5)] [.int s0, rf s1] := by
    intro S l0 l1 l2 l3 l4 l5 s0 s1 h
    obtain ⟨hk1, h⟩ := h
    refine gd_putI (pc := 268) (kf := 13) X ci6 (by decide) rfl rfl tw_996 rfl rfl dX6_doCommit_268 hk1 ?_
    refine gd_topS (fun S2 hS2 => ?_)
    have h := h S2 hS2
    have hk3 : kT S2 s1 = 7 := by rw [hS2]; exact hk1
    refine gd_aload_n (pc := 271) X 0 dX6_doCommit_271 rfl ?_
    obtain ⟨hk4, h⟩ := h
    refine gd_getI (pc := 272) (kf := 14) X ci6 (by decide) rfl tw_997 dX6_doCommit_272 hk4 ?_
    exact (gd_ret_i (pc := 275) X hr hlk rfl (by decide) (by decide) dX6_doCommit_275 ⟨_, rfl, h⟩)
  have g177 : ∀ (f : Nat) (S : MS) (l0 : Nat) (l1 : Int32) (l2 : Int32) (l3 : Int32) (l4 : Int32) (l5 : Int32), b_X6_doCommit_177 post f S l0 l1 l2 l3 l4 l5 → Gd p l e rm_X6_doCommit s m args below meth c 6 G (MQ below (QcM G (pI_ post)) args s rm_X6_doCommit.cells rm_X6_doCommit.slots (Ab G)) 0 0 S 177 [(0, rf l0), (1, .int l1), (2, .int l2), (3, .int l3), (4, .int l4), (5, .int l5)] [] := by
    intro f
    induction f with
    | zero => intro S l0 l1 l2 l3 l4 l5 h; exact h.elim
    | succ f ih =>
      intro S l0 l1 l2 l3 l4 l5 h
      refine gd_iload (pc := 177) X 5 dX6_doCommit_177 rfl ?_
      refine gd_bipush (pc := 179) X (32) dX6_doCommit_179 (by decide) ?_
      refine gd_icmp_ge (pc := 181) X 214 dX6_doCommit_181 (by decide) (fun hc31 => ?_) (fun hc31 => ?_)
      · have h := h.1 hc31
        refine gd_aload_n (pc := 214) X 0 dX6_doCommit_214 rfl ?_
        refine gd_dupR (pc := 215) X dX6_doCommit_215 ?_
        obtain ⟨hk1, h⟩ := h
        refine gd_getI (pc := 216) (kf := 14) X ci6 (by decide) rfl tw_997 dX6_doCommit_216 hk1 ?_
        refine gd_iconst (pc := 219) X (1) dX6_doCommit_219 (by decide) ?_
        refine gd_iadd (pc := 220) X dX6_doCommit_220 ?_
        refine gd_putI (pc := 221) (kf := 14) X ci6 (by decide) rfl rfl tw_997 rfl rfl dX6_doCommit_221 hk1 ?_
        refine gd_topS (fun S2 hS2 => ?_)
        have h := h S2 hS2
        have hk3 : kT S2 l0 = 7 := by rw [hS2]; exact hk1
        refine gd_aload_n (pc := 224) X 0 dX6_doCommit_224 rfl ?_
        refine gd_getR (pc := 225) (kf := 16) X ci6 (by decide) rfl tw_999 dX6_doCommit_225 hk3 ?_
        refine gd_aload_n (pc := 228) X 0 dX6_doCommit_228 rfl ?_
        refine gd_getI (pc := 229) (kf := 14) X ci6 (by decide) rfl tw_997 dX6_doCommit_229 hk3 ?_
        refine gd_iload_n (pc := 232) X 1 dX6_doCommit_232 rfl ?_
        obtain ⟨hk4, h⟩ := h
        obtain ⟨hi5, h⟩ := h
        refine gd_iast (pc := 233) X dX6_doCommit_233 hk4 hi5 ?_
        refine gd_topS (fun S6 hS6 => ?_)
        have h := h S6 hS6
        have hk7 : kT S6 l0 = 7 := by rw [hS6]; exact hk3
        have hk8 : kT S6 (sR S2 l0 16) = 9 := by rw [hS6]; exact hk4
        refine gd_aload_n (pc := 234) X 0 dX6_doCommit_234 rfl ?_
        refine gd_getR (pc := 235) (kf := 5) X ci6 (by decide) rfl tw_988 dX6_doCommit_235 hk7 ?_
        refine gd_iload_n (pc := 238) X 1 dX6_doCommit_238 rfl ?_
        refine gd_aload_n (pc := 239) X 0 dX6_doCommit_239 rfl ?_
        refine gd_getI (pc := 240) (kf := 14) X ci6 (by decide) rfl tw_997 dX6_doCommit_240 hk7 ?_
        obtain ⟨hk9, h⟩ := h
        obtain ⟨hi10, h⟩ := h
        refine gd_iast (pc := 243) X dX6_doCommit_243 hk9 hi10 ?_
        refine gd_topS (fun S11 hS11 => ?_)
        have h := h S11 hS11
        have hk12 : kT S11 l0 = 7 := by rw [hS11]; exact hk7
        have hk13 : kT S11 (sR S2 l0 16) = 9 := by rw [hS11]; exact hk8
        have hk14 : kT S11 (sR S6 l0 5) = 9 := by rw [hS11]; exact hk9
        refine gd_aload_n (pc := 244) X 0 dX6_doCommit_244 rfl ?_
        refine gd_getR (pc := 245) (kf := 2) X ci6 (by decide) rfl tw_985 dX6_doCommit_245 hk12 ?_
        refine gd_iload_n (pc := 248) X 1 dX6_doCommit_248 rfl ?_
        refine gd_iconst (pc := 249) X (1) dX6_doCommit_249 (by decide) ?_
        obtain ⟨hk15, h⟩ := h
        obtain ⟨hi16, h⟩ := h
        refine gd_iast (pc := 250) X dX6_doCommit_250 hk15 hi16 ?_
        refine gd_topS (fun S17 hS17 => ?_)
        have h := h S17 hS17
        have hk18 : kT S17 l0 = 7 := by rw [hS17]; exact hk12
        have hk19 : kT S17 (sR S2 l0 16) = 9 := by rw [hS17]; exact hk13
        have hk20 : kT S17 (sR S6 l0 5) = 9 := by rw [hS17]; exact hk14
        have hk21 : kT S17 (sR S11 l0 2) = 9 := by rw [hS17]; exact hk15
        refine gd_aload_n (pc := 251) X 0 dX6_doCommit_251 rfl ?_
        refine gd_aload_n (pc := 252) X 0 dX6_doCommit_252 rfl ?_
        refine gd_getI (pc := 253) (kf := 13) X ci6 (by decide) rfl tw_996 dX6_doCommit_253 hk18 ?_
        refine gd_iload_n (pc := 256) X 1 dX6_doCommit_256 rfl ?_
        refine gd_icmp_ne (pc := 257) X 264 dX6_doCommit_257 (by decide) (fun hc22 => ?_) (fun hc22 => ?_)
        · have h := h.1 hc22
          refine gd_aload_n (pc := 264) X 0 dX6_doCommit_264 rfl ?_
          refine gd_getI (pc := 265) (kf := 13) X ci6 (by decide) rfl tw_996 dX6_doCommit_265 hk18 ?_
          exact g268 _ _ _ _ _ _ _ _ _ h
        · have h := h.2 hc22
          refine gd_iconst (pc := 260) X (-1) dX6_doCommit_260 (by decide) ?_
          refine gd_goto (pc := 261) X 268 dX6_doCommit_261 (by decide) ?_
          exact g268 _ _ _ _ _ _ _ _ _ h
      · have h := h.2 hc31
        refine gd_aload_n (pc := 184) X 0 dX6_doCommit_184 rfl ?_
        obtain ⟨hk23, h⟩ := h
        refine gd_getR (pc := 185) (kf := 15) X ci6 (by decide) rfl tw_998 dX6_doCommit_185 hk23 ?_
        refine gd_bipush (pc := 188) X (32) dX6_doCommit_188 (by decide) ?_
        refine gd_aload_n (pc := 190) X 0 dX6_doCommit_190 rfl ?_
        refine gd_getI (pc := 191) (kf := 14) X ci6 (by decide) rfl tw_997 dX6_doCommit_191 hk23 ?_
        refine gd_iconst (pc := 194) X (1) dX6_doCommit_194 (by decide) ?_
        refine gd_iadd (pc := 195) X dX6_doCommit_195 ?_
        refine gd_imul (pc := 196) X dX6_doCommit_196 ?_
        refine gd_iload (pc := 197) X 5 dX6_doCommit_197 rfl ?_
        refine gd_iadd (pc := 199) X dX6_doCommit_199 ?_
        refine gd_aload_n (pc := 200) X 0 dX6_doCommit_200 rfl ?_
        refine gd_iload_n (pc := 201) X 1 dX6_doCommit_201 rfl ?_
        refine gd_iload (pc := 202) X 5 dX6_doCommit_202 rfl ?_
        refine gd_callV (pc := 204) (As := [.int l1, .int l5]) (rest := [.int ((32 * ((sI S l0 14) + 1)) + l5), rf (sR S l0 15)]) X (ct_X6_viewed l G S l0 l1 l5 _ h) mw_X6_viewed tw_1128 ci6 rfl hk23 ⟨(Nat.le_of_ble_eq_true rfl), (Nat.le_of_ble_eq_true rfl)⟩ rfl rfl (Nat.le_of_ble_eq_true rfl) dX6_doCommit_204 ⟨Nat.le_of_ble_eq_true rfl, Nat.le_of_ble_eq_true rfl⟩ (kI (fun r25 S24 h => ?_))
        refine gd_wide (k2 := 0) (j2 := 0) (Nat.le_of_ble_eq_true rfl) (Nat.le_of_ble_eq_true rfl) ?_
        obtain ⟨hk26, h⟩ := h
        obtain ⟨hi27, h⟩ := h
        refine gd_iast (pc := 207) X dX6_doCommit_207 hk26 hi27 ?_
        refine gd_topS (fun S28 hS28 => ?_)
        have h := h S28 hS28
        have hk29 : kT S28 (sR S l0 15) = 9 := by rw [hS28]; exact hk26
        obtain ⟨v30, hv30⟩ : ∃ z : Int32, z = l5 + 1 := ⟨_, rfl⟩
        have h := h v30 hv30
        refine gd_iinc (pc := 208) (v := v30) X 5 dX6_doCommit_208 rfl (by rw [hv30]; rfl) (by decide) (E2 := [(5, .int v30), (0, rf l0), (1, .int l1), (2, .int l2), (3, .int l3), (4, .int l4)]) rfl ?_
        refine gd_goto (pc := 211) X 177 dX6_doCommit_211 (by decide) ?_
        refine gd_sub [1, 2, 3, 4, 5, 0] rfl ?_
        exact ih _ _ _ _ _ _ _ h
  have g174 : ∀ (S : MS) (l0 : Nat) (l1 : Int32) (l2 : Int32) (l3 : Int32) (l4 : Int32) (l5 : Int32), b_X6_doCommit_174 post S l0 l1 l2 l3 l4 l5 → Gd p l e rm_X6_doCommit s m args below meth c 6 G (MQ below (QcM G (pI_ post)) args s rm_X6_doCommit.cells rm_X6_doCommit.slots (Ab G)) 0 0 S 174 [(0, rf l0), (1, .int l1), (2, .int l2), (3, .int l3), (4, .int l4), (5, .int l5)] [] := by
    intro S l0 l1 l2 l3 l4 l5 h
    refine gd_iconst (pc := 174) X (0) dX6_doCommit_174 (by decide) ?_
    refine gd_istore (pc := 175) X dX6_doCommit_175 (by decide) (E2 := [(5, .int 0), (0, rf l0), (1, .int l1), (2, .int l2), (3, .int l3), (4, .int l4)]) rfl ?_
    refine gd_sub [1, 2, 3, 4, 5, 0] rfl ?_
    obtain ⟨f177, h⟩ := h
    exact g177 f177 _ _ _ _ _ _ _ h
  have g168 : ∀ (KH134 : MS → Nat → Int32 → Int32 → Int32 → Int32 → Int32 → Prop) (hKH134 : ∀ (S : MS) (l0 : Nat) (l1 : Int32) (l2 : Int32) (l3 : Int32) (l4 : Int32) (l5 : Int32), KH134 S l0 l1 l2 l3 l4 l5 → Gd p l e rm_X6_doCommit s m args below meth c 6 G (MQ below (QcM G (pI_ post)) args s rm_X6_doCommit.cells rm_X6_doCommit.slots (Ab G)) 0 0 S 134 [(0, rf l0), (1, .int l1), (2, .int l2), (3, .int l3), (4, .int l4), (5, .int l5)] []) (S : MS) (l0 : Nat) (l1 : Int32) (l2 : Int32) (l3 : Int32) (l4 : Int32) (l5 : Int32), b_X6_doCommit_168 KH134 post S l0 l1 l2 l3 l4 l5 → Gd p l e rm_X6_doCommit s m args below meth c 6 G (MQ below (QcM G (pI_ post)) args s rm_X6_doCommit.cells rm_X6_doCommit.slots (Ab G)) 0 0 S 168 [(0, rf l0), (1, .int l1), (2, .int l2), (3, .int l3), (4, .int l4), (5, .int l5)] [] := by
    intro KH134 hKH134 S l0 l1 l2 l3 l4 l5 h
    obtain ⟨v1, hv1⟩ : ∃ z : Int32, z = l5 + 1 := ⟨_, rfl⟩
    have h := h v1 hv1
    refine gd_iinc (pc := 168) (v := v1) X 5 dX6_doCommit_168 rfl (by rw [hv1]; rfl) (by decide) (E2 := [(5, .int v1), (0, rf l0), (1, .int l1), (2, .int l2), (3, .int l3), (4, .int l4)]) rfl ?_
    refine gd_goto (pc := 171) X 134 dX6_doCommit_171 (by decide) ?_
    refine gd_sub [1, 2, 3, 4, 5, 0] rfl ?_
    exact hKH134 _ _ _ _ _ _ _ h
  have g134 : ∀ (f : Nat) (S : MS) (l0 : Nat) (l1 : Int32) (l2 : Int32) (l3 : Int32) (l4 : Int32) (l5 : Int32), b_X6_doCommit_134 post f S l0 l1 l2 l3 l4 l5 → Gd p l e rm_X6_doCommit s m args below meth c 6 G (MQ below (QcM G (pI_ post)) args s rm_X6_doCommit.cells rm_X6_doCommit.slots (Ab G)) 0 0 S 134 [(0, rf l0), (1, .int l1), (2, .int l2), (3, .int l3), (4, .int l4), (5, .int l5)] [] := by
    intro f
    induction f with
    | zero => intro S l0 l1 l2 l3 l4 l5 h; exact h.elim
    | succ f ih =>
      intro S l0 l1 l2 l3 l4 l5 h
      refine gd_iload (pc := 134) X 5 dX6_doCommit_134 rfl ?_
      refine gd_aload_n (pc := 136) X 0 dX6_doCommit_136 rfl ?_
      obtain ⟨hk1, h⟩ := h
      refine gd_getI (pc := 137) (kf := 1) X ci6 (by decide) rfl tw_984 dX6_doCommit_137 hk1 ?_
      refine gd_icmp_ge (pc := 140) X 174 dX6_doCommit_140 (by decide) (fun hc9 => ?_) (fun hc9 => ?_)
      · have h := h.1 hc9
        exact g174 _ _ _ _ _ _ _ h
      · have h := h.2 hc9
        refine gd_aload_n (pc := 143) X 0 dX6_doCommit_143 rfl ?_
        refine gd_getI (pc := 144) (kf := 17) X ci6 (by decide) rfl tw_1000 dX6_doCommit_144 hk1 ?_
        refine gd_iconst (pc := 147) X (1) dX6_doCommit_147 (by decide) ?_
        refine gd_icmp_ne (pc := 148) X 174 dX6_doCommit_148 (by decide) (fun hc8 => ?_) (fun hc8 => ?_)
        · have h := h.1 hc8
          exact g174 _ _ _ _ _ _ _ h
        · have h := h.2 hc8
          refine gd_aload_n (pc := 151) X 0 dX6_doCommit_151 rfl ?_
          refine gd_iload_n (pc := 152) X 1 dX6_doCommit_152 rfl ?_
          refine gd_iload (pc := 153) X 5 dX6_doCommit_153 rfl ?_
          refine gd_callV (pc := 155) (As := [.int l1, .int l5]) (rest := []) X (ct_X6_isRival l G S l0 l1 l5 _ h) mw_X6_isRival tw_1211 ci6 rfl hk1 ⟨(Nat.le_of_ble_eq_true rfl), (Nat.le_of_ble_eq_true rfl)⟩ rfl rfl (Nat.le_of_ble_eq_true rfl) dX6_doCommit_155 ⟨Nat.le_of_ble_eq_true rfl, Nat.le_of_ble_eq_true rfl⟩ (kI (fun r3 S2 h => ?_))
          refine gd_wide (k2 := 0) (j2 := 0) (Nat.le_of_ble_eq_true rfl) (Nat.le_of_ble_eq_true rfl) ?_
          refine gd_if_eq (pc := 158) X 168 dX6_doCommit_158 (by decide) (fun hc7 => ?_) (fun hc7 => ?_)
          · have h := h.1 hc7
            exact g168 _ ih _ _ _ _ _ _ _ h
          · have h := h.2 hc7
            refine gd_aload_n (pc := 161) X 0 dX6_doCommit_161 rfl ?_
            refine gd_iload (pc := 162) X 5 dX6_doCommit_162 rfl ?_
            refine gd_iconst (pc := 164) X (3) dX6_doCommit_164 (by decide) ?_
            obtain ⟨hk4, h⟩ := h
            refine gd_callV (pc := 165) (As := [.int l5, .int 3]) (rest := []) X (ct_X6_endWith l G S2 l0 l5 3 _ h) mw_X6_endWith tw_1239 ci6 rfl hk4 ⟨(Nat.le_of_ble_eq_true rfl), (Nat.le_of_ble_eq_true rfl)⟩ rfl rfl (Nat.le_of_ble_eq_true rfl) dX6_doCommit_165 ⟨Nat.le_of_ble_eq_true rfl, Nat.le_of_ble_eq_true rfl⟩ (kV (fun S5 h => ?_))
            refine gd_wide (k2 := 0) (j2 := 0) (Nat.le_of_ble_eq_true rfl) (Nat.le_of_ble_eq_true rfl) ?_
            exact g168 _ ih _ _ _ _ _ _ _ h
  have g114 : ∀ (S : MS) (l0 : Nat) (l1 : Int32) (l2 : Int32) (l3 : Int32) (s0 : Int32), b_X6_doCommit_114 post S l0 l1 l2 l3 s0 → Gd p l e rm_X6_doCommit s m args below meth c 6 G (MQ below (QcM G (pI_ post)) args s rm_X6_doCommit.cells rm_X6_doCommit.slots (Ab G)) 0 0 S 114 [(0, rf l0), (1, .int l1), (2, .int l2), (3, .int l3)] [.int s0] := by
    intro S l0 l1 l2 l3 s0 h
    refine gd_istore (pc := 114) X dX6_doCommit_114 (by decide) (E2 := [(4, .int s0), (0, rf l0), (1, .int l1), (2, .int l2), (3, .int l3)]) rfl ?_
    refine gd_iload (pc := 116) X 0 dX6_doCommit_116 rfl ?_
    refine gd_if_le (pc := 118) X 131 dX6_doCommit_118 (by decide) (fun hc4 => ?_) (fun hc4 => ?_)
    · have h := h.1 hc4
      refine gd_iconst (pc := 131) X (0) dX6_doCommit_131 (by decide) ?_
      refine gd_istore (pc := 132) X dX6_doCommit_132 (by decide) (E2 := [(5, .int 0), (4, .int s0), (0, rf l0), (1, .int l1), (2, .int l2), (3, .int l3)]) rfl ?_
      refine gd_sub [2, 3, 4, 5, 1, 0] rfl ?_
      obtain ⟨f134, h⟩ := h
      exact g134 f134 _ _ _ _ _ _ _ h
    · have h := h.2 hc4
      refine gd_aload_n (pc := 121) X 1 dX6_doCommit_121 rfl ?_
      refine gd_iload_n (pc := 122) X 2 dX6_doCommit_122 rfl ?_
      refine gd_iload (pc := 123) X 0 dX6_doCommit_123 rfl ?_
      obtain ⟨hk1, h⟩ := h
      refine gd_callV (pc := 125) (As := [.int l1, .int s0]) (rest := []) X (ct_X6_endWith l G S l0 l1 s0 _ h) mw_X6_endWith tw_1239 ci6 rfl hk1 ⟨(Nat.le_of_ble_eq_true rfl), (Nat.le_of_ble_eq_true rfl)⟩ rfl rfl (Nat.le_of_ble_eq_true rfl) dX6_doCommit_125 ⟨Nat.le_of_ble_eq_true rfl, Nat.le_of_ble_eq_true rfl⟩ (kV (fun S2 h => ?_))
      refine gd_wide (k2 := 0) (j2 := 0) (Nat.le_of_ble_eq_true rfl) (Nat.le_of_ble_eq_true rfl) ?_
      refine gd_bipush (pc := 128) X (-2) dX6_doCommit_128 (by decide) ?_
      exact (gd_ret_i (pc := 130) X hr hlk rfl (by decide) (by decide) dX6_doCommit_130 ⟨_, rfl, h⟩)
  have g84 : ∀ (S : MS) (l0 : Nat) (l1 : Int32) (l2 : Int32) (s0 : Int32), b_X6_doCommit_84 post S l0 l1 l2 s0 → Gd p l e rm_X6_doCommit s m args below meth c 6 G (MQ below (QcM G (pI_ post)) args s rm_X6_doCommit.cells rm_X6_doCommit.slots (Ab G)) 0 0 S 84 [(0, rf l0), (1, .int l1), (2, .int l2)] [.int s0] := by
    intro S l0 l1 l2 s0 h
    refine gd_istore_n (pc := 84) X dX6_doCommit_84 (by decide) (E2 := [(3, .int s0), (0, rf l0), (1, .int l1), (2, .int l2)]) rfl ?_
    refine gd_iload_n (pc := 85) X 3 dX6_doCommit_85 rfl ?_
    refine gd_if_le (pc := 86) X 93 dX6_doCommit_86 (by decide) (fun hc6 => ?_) (fun hc6 => ?_)
    · have h := h.1 hc6
      refine gd_iload_n (pc := 93) X 0 dX6_doCommit_93 rfl ?_
      refine gd_if_eq (pc := 94) X 101 dX6_doCommit_94 (by decide) (fun hc5 => ?_) (fun hc5 => ?_)
      · have h := h.1 hc5
        refine gd_aload_n (pc := 101) X 1 dX6_doCommit_101 rfl ?_
        refine gd_iload_n (pc := 102) X 2 dX6_doCommit_102 rfl ?_
        obtain ⟨hk1, h⟩ := h
        refine gd_callV (pc := 103) (As := [.int l1]) (rest := []) X (ct_X6_violates l G S l0 l1 _ h) mw_X6_violates tw_1231 ci6 rfl hk1 ⟨(Nat.le_of_ble_eq_true rfl), (Nat.le_of_ble_eq_true rfl)⟩ rfl rfl (Nat.le_of_ble_eq_true rfl) dX6_doCommit_103 ⟨Nat.le_of_ble_eq_true rfl, Nat.le_of_ble_eq_true rfl⟩ (kI (fun r3 S2 h => ?_))
        refine gd_wide (k2 := 0) (j2 := 0) (Nat.le_of_ble_eq_true rfl) (Nat.le_of_ble_eq_true rfl) ?_
        refine gd_if_eq (pc := 106) X 113 dX6_doCommit_106 (by decide) (fun hc4 => ?_) (fun hc4 => ?_)
        · have h := h.1 hc4
          refine gd_iconst (pc := 113) X (0) dX6_doCommit_113 (by decide) ?_
          refine gd_sub [1, 2, 3, 0] rfl ?_
          exact g114 _ _ _ _ _ _ h
        · have h := h.2 hc4
          refine gd_iconst (pc := 109) X (4) dX6_doCommit_109 (by decide) ?_
          refine gd_goto (pc := 110) X 114 dX6_doCommit_110 (by decide) ?_
          refine gd_sub [1, 2, 3, 0] rfl ?_
          exact g114 _ _ _ _ _ _ h
      · have h := h.2 hc5
        refine gd_iconst (pc := 97) X (3) dX6_doCommit_97 (by decide) ?_
        refine gd_goto (pc := 98) X 114 dX6_doCommit_98 (by decide) ?_
        refine gd_sub [1, 2, 3, 0] rfl ?_
        exact g114 _ _ _ _ _ _ h
    · have h := h.2 hc6
      refine gd_iload_n (pc := 89) X 3 dX6_doCommit_89 rfl ?_
      refine gd_goto (pc := 90) X 114 dX6_doCommit_90 (by decide) ?_
      refine gd_sub [1, 2, 3, 0] rfl ?_
      exact g114 _ _ _ _ _ _ h
  have g83 : ∀ (S : MS) (l0 : Nat) (l1 : Int32) (l2 : Int32), b_X6_doCommit_83 post S l0 l1 l2 → Gd p l e rm_X6_doCommit s m args below meth c 6 G (MQ below (QcM G (pI_ post)) args s rm_X6_doCommit.cells rm_X6_doCommit.slots (Ab G)) 0 0 S 83 [(0, rf l0), (1, .int l1), (2, .int l2)] [] := by
    intro S l0 l1 l2 h
    refine gd_iconst (pc := 83) X (0) dX6_doCommit_83 (by decide) ?_
    exact g84 _ _ _ _ _ h
  have g46 : ∀ (S : MS) (l0 : Nat) (l1 : Int32) (s0 : Int32), b_X6_doCommit_46 post S l0 l1 s0 → Gd p l e rm_X6_doCommit s m args below meth c 6 G (MQ below (QcM G (pI_ post)) args s rm_X6_doCommit.cells rm_X6_doCommit.slots (Ab G)) 0 0 S 46 [(0, rf l0), (1, .int l1)] [.int s0] := by
    intro S l0 l1 s0 h
    refine gd_istore_n (pc := 46) X dX6_doCommit_46 (by decide) (E2 := [(2, .int s0), (0, rf l0), (1, .int l1)]) rfl ?_
    refine gd_aload_n (pc := 47) X 1 dX6_doCommit_47 rfl ?_
    obtain ⟨hk1, h⟩ := h
    refine gd_getI (pc := 48) (kf := 17) X ci6 (by decide) rfl tw_1000 dX6_doCommit_48 hk1 ?_
    refine gd_iconst (pc := 51) X (1) dX6_doCommit_51 (by decide) ?_
    refine gd_icmp_ne (pc := 52) X 83 dX6_doCommit_52 (by decide) (fun hc10 => ?_) (fun hc10 => ?_)
    · have h := h.1 hc10
      refine gd_sub [1, 2, 0] rfl ?_
      exact g83 _ _ _ _ h
    · have h := h.2 hc10
      refine gd_aload_n (pc := 55) X 1 dX6_doCommit_55 rfl ?_
      refine gd_getI (pc := 56) (kf := 13) X ci6 (by decide) rfl tw_996 dX6_doCommit_56 hk1 ?_
      refine gd_iload_n (pc := 59) X 2 dX6_doCommit_59 rfl ?_
      refine gd_icmp_eq (pc := 60) X 83 dX6_doCommit_60 (by decide) (fun hc9 => ?_) (fun hc9 => ?_)
      · have h := h.1 hc9
        refine gd_sub [1, 2, 0] rfl ?_
        exact g83 _ _ _ _ h
      · have h := h.2 hc9
        refine gd_aload_n (pc := 63) X 1 dX6_doCommit_63 rfl ?_
        refine gd_iload_n (pc := 64) X 2 dX6_doCommit_64 rfl ?_
        refine gd_callV (pc := 65) (As := [.int l1]) (rest := []) X (ct_X6_countRivals l G S l0 l1 _ h) mw_X6_countRivals tw_1207 ci6 rfl hk1 ⟨(Nat.le_of_ble_eq_true rfl), (Nat.le_of_ble_eq_true rfl)⟩ rfl rfl (Nat.le_of_ble_eq_true rfl) dX6_doCommit_65 ⟨Nat.le_of_ble_eq_true rfl, Nat.le_of_ble_eq_true rfl⟩ (kI (fun r3 S2 h => ?_))
        refine gd_wide (k2 := 0) (j2 := 0) (Nat.le_of_ble_eq_true rfl) (Nat.le_of_ble_eq_true rfl) ?_
        refine gd_if_le (pc := 68) X 83 dX6_doCommit_68 (by decide) (fun hc8 => ?_) (fun hc8 => ?_)
        · have h := h.1 hc8
          refine gd_sub [1, 2, 0] rfl ?_
          exact g83 _ _ _ _ h
        · have h := h.2 hc8
          refine gd_aload_n (pc := 71) X 1 dX6_doCommit_71 rfl ?_
          refine gd_iload_n (pc := 72) X 2 dX6_doCommit_72 rfl ?_
          obtain ⟨hk4, h⟩ := h
          refine gd_callV (pc := 73) (As := [.int l1]) (rest := []) X (ct_X6_loses l G S2 l0 l1 _ h) mw_X6_loses tw_1227 ci6 rfl hk4 ⟨(Nat.le_of_ble_eq_true rfl), (Nat.le_of_ble_eq_true rfl)⟩ rfl rfl (Nat.le_of_ble_eq_true rfl) dX6_doCommit_73 ⟨Nat.le_of_ble_eq_true rfl, Nat.le_of_ble_eq_true rfl⟩ (kI (fun r6 S5 h => ?_))
          refine gd_wide (k2 := 0) (j2 := 0) (Nat.le_of_ble_eq_true rfl) (Nat.le_of_ble_eq_true rfl) ?_
          refine gd_if_eq (pc := 76) X 83 dX6_doCommit_76 (by decide) (fun hc7 => ?_) (fun hc7 => ?_)
          · have h := h.1 hc7
            refine gd_sub [1, 2, 0] rfl ?_
            exact g83 _ _ _ _ h
          · have h := h.2 hc7
            refine gd_iconst (pc := 79) X (1) dX6_doCommit_79 (by decide) ?_
            refine gd_goto (pc := 80) X 84 dX6_doCommit_80 (by decide) ?_
            refine gd_sub [1, 2, 0] rfl ?_
            exact g84 _ _ _ _ _ h
  have g30 : ∀ (S : MS) (l0 : Nat) (l1 : Int32), b_X6_doCommit_30 post S l0 l1 → Gd p l e rm_X6_doCommit s m args below meth c 6 G (MQ below (QcM G (pI_ post)) args s rm_X6_doCommit.cells rm_X6_doCommit.slots (Ab G)) 0 0 S 30 [(0, rf l0), (1, .int l1)] [] := by
    intro S l0 l1 h
    refine gd_aload_n (pc := 30) X 0 dX6_doCommit_30 rfl ?_
    obtain ⟨hk1, h⟩ := h
    refine gd_getI (pc := 31) (kf := 17) X ci6 (by decide) rfl tw_1000 dX6_doCommit_31 hk1 ?_
    refine gd_if_ne (pc := 34) X 45 dX6_doCommit_34 (by decide) (fun hc4 => ?_) (fun hc4 => ?_)
    · have h := h.1 hc4
      refine gd_iconst (pc := 45) X (0) dX6_doCommit_45 (by decide) ?_
      exact g46 _ _ _ _ h
    · have h := h.2 hc4
      refine gd_aload_n (pc := 37) X 0 dX6_doCommit_37 rfl ?_
      refine gd_iload_n (pc := 38) X 1 dX6_doCommit_38 rfl ?_
      refine gd_callV (pc := 39) (As := [.int l1]) (rest := []) X (ct_X6_staleness l G S l0 l1 _ h) mw_X6_staleness tw_1187 ci6 rfl hk1 ⟨(Nat.le_of_ble_eq_true rfl), (Nat.le_of_ble_eq_true rfl)⟩ rfl rfl (Nat.le_of_ble_eq_true rfl) dX6_doCommit_39 ⟨Nat.le_of_ble_eq_true rfl, Nat.le_of_ble_eq_true rfl⟩ (kI (fun r3 S2 h => ?_))
      refine gd_wide (k2 := 0) (j2 := 0) (Nat.le_of_ble_eq_true rfl) (Nat.le_of_ble_eq_true rfl) ?_
      refine gd_goto (pc := 42) X 46 dX6_doCommit_42 (by decide) ?_
      exact g46 _ _ _ _ h
  intro h
  refine gd_aload_n (pc := 0) X 0 dX6_doCommit_0 rfl ?_
  obtain ⟨hk1, h⟩ := h
  refine gd_getI (pc := 1) (kf := 13) X ci6 (by decide) rfl tw_996 dX6_doCommit_1 hk1 ?_
  refine gd_iconst (pc := 4) X (-1) dX6_doCommit_4 (by decide) ?_
  refine gd_icmp_eq (pc := 5) X 30 dX6_doCommit_5 (by decide) (fun hc6 => ?_) (fun hc6 => ?_)
  · have h := h.1 hc6
    exact g30 _ _ _ h
  · have h := h.2 hc6
    refine gd_aload_n (pc := 8) X 0 dX6_doCommit_8 rfl ?_
    refine gd_getI (pc := 9) (kf := 13) X ci6 (by decide) rfl tw_996 dX6_doCommit_9 hk1 ?_
    refine gd_iload_n (pc := 12) X 1 dX6_doCommit_12 rfl ?_
    refine gd_icmp_eq (pc := 13) X 30 dX6_doCommit_13 (by decide) (fun hc5 => ?_) (fun hc5 => ?_)
    · have h := h.1 hc5
      exact g30 _ _ _ h
    · have h := h.2 hc5
      refine gd_aload_n (pc := 16) X 0 dX6_doCommit_16 rfl ?_
      refine gd_iload_n (pc := 17) X 1 dX6_doCommit_17 rfl ?_
      refine gd_aload_n (pc := 18) X 0 dX6_doCommit_18 rfl ?_
      refine gd_getI (pc := 19) (kf := 13) X ci6 (by decide) rfl tw_996 dX6_doCommit_19 hk1 ?_
      refine gd_callV (pc := 22) (As := [.int a1, .int (sI S a0 13)]) (rest := []) X (ct_X6_conflicts l G S a0 a1 (sI S a0 13) _ h) mw_X6_conflicts tw_1215 ci6 rfl hk1 ⟨(Nat.le_of_ble_eq_true rfl), (Nat.le_of_ble_eq_true rfl)⟩ rfl rfl (Nat.le_of_ble_eq_true rfl) dX6_doCommit_22 ⟨Nat.le_of_ble_eq_true rfl, Nat.le_of_ble_eq_true rfl⟩ (kI (fun r3 S2 h => ?_))
      refine gd_wide (k2 := 0) (j2 := 0) (Nat.le_of_ble_eq_true rfl) (Nat.le_of_ble_eq_true rfl) ?_
      refine gd_if_eq (pc := 25) X 30 dX6_doCommit_25 (by decide) (fun hc4 => ?_) (fun hc4 => ?_)
      · have h := h.1 hc4
        exact g30 _ _ _ h
      · have h := h.2 hc4
        refine gd_iconst (pc := 28) X (-1) dX6_doCommit_28 (by decide) ?_
        exact (gd_ret_i (pc := 29) X hr hlk rfl (by decide) (by decide) dX6_doCommit_29 ⟨_, rfl, h⟩)
abbrev rm_X6_commit : Room := { frames := 7, cells := 0, slots := 0, locals := 169 }
def b_X6_commit_55 (post : Int32 → MS → Prop) (S : MS) (l0 : Nat) (l1 : Int32) (s0 : Int32) : Prop := post s0 S
def b_X6_commit_36 (post : Int32 → MS → Prop) (S : MS) (l0 : Nat) (l1 : Int32) (s0 : Int32) (s1 : Nat) : Prop := kT S s1 = 7 ∧ ∀ S2 : MS, S2 = pI S s1 0 s0 → kT S2 l0 = 7 ∧ ((¬ (sI S2 l0 0) = 0 → b_X6_commit_55 post S2 l0 l1 0) ∧ ((sI S2 l0 0) = 0 → w_X6_doCommit S2 l0 l1 (fun r6 S5 => b_X6_commit_55 post S5 l0 l1 r6)))
def b_X6_commit_31 (post : Int32 → MS → Prop) (S : MS) (l0 : Nat) (l1 : Int32) (s0 : Nat) : Prop := b_X6_commit_36 post S l0 l1 2 s0
def w_X6_commit (S : MS) (a0 : Nat) (a1 : Int32) (post : Int32 → MS → Prop) : Prop := kT S a0 = 7 ∧ w_X6_isTransaction S a0 a1 (fun r3 S2 => ((¬ r3 = 0 → kT S2 a0 = 7 ∧ kT S2 (sR S2 a0 2) = 9 ∧ vp_in a1 (kL S2 (sR S2 a0 2)) ∧ ((¬ (sI S2 (sR S2 a0 2) (ix a1)) = 0 → b_X6_commit_31 post S2 a0 a1 a0) ∧ ((sI S2 (sR S2 a0 2) (ix a1)) = 0 → ((¬ (sI S2 a0 14) = 60 → b_X6_commit_36 post S2 a0 a1 0 a0) ∧ ((sI S2 a0 14) = 60 → b_X6_commit_31 post S2 a0 a1 a0))))) ∧ (r3 = 0 → b_X6_commit_36 post S2 a0 a1 1 a0)))
set_option maxHeartbeats 4000000 in
set_option maxRecDepth 100000 in
theorem ct_X6_commit (l : Launch) (G : GP) (S : MS) (a0 : Nat) (a1 : Int32) (post : Int32 → MS → Prop) (h : w_X6_commit S a0 a1 post) : MetM l yX6_commit cX6_commit 2 (some .int) rm_X6_commit [rf a0, .int a1] G S (pI_ post) := by
  refine met_of (by decide) (cat1_r (cat1_i cat1_n)) (Nat.le_of_ble_eq_true rfl) ?_
  intro p e s m args below meth c X hr hlk hin
  revert h
  have g55 : ∀ (S : MS) (l0 : Nat) (l1 : Int32) (s0 : Int32), b_X6_commit_55 post S l0 l1 s0 → Gd p l e rm_X6_commit s m args below meth c 2 G (MQ below (QcM G (pI_ post)) args s rm_X6_commit.cells rm_X6_commit.slots (Ab G)) 0 0 S 55 [(0, rf l0), (1, .int l1)] [.int s0] := by
    intro S l0 l1 s0 h
    exact (gd_ret_i (pc := 55) X hr hlk rfl (by decide) (by decide) dX6_commit_55 ⟨_, rfl, h⟩)
  have g36 : ∀ (S : MS) (l0 : Nat) (l1 : Int32) (s0 : Int32) (s1 : Nat), b_X6_commit_36 post S l0 l1 s0 s1 → Gd p l e rm_X6_commit s m args below meth c 2 G (MQ below (QcM G (pI_ post)) args s rm_X6_commit.cells rm_X6_commit.slots (Ab G)) 0 0 S 36 [(0, rf l0), (1, .int l1)] [.int s0, rf s1] := by
    intro S l0 l1 s0 s1 h
    obtain ⟨hk1, h⟩ := h
    refine gd_putI (pc := 36) (kf := 0) X ci6 (by decide) rfl rfl tw_983 rfl rfl dX6_commit_36 hk1 ?_
    refine gd_topS (fun S2 hS2 => ?_)
    have h := h S2 hS2
    have hk3 : kT S2 s1 = 7 := by rw [hS2]; exact hk1
    refine gd_aload_n (pc := 39) X 0 dX6_commit_39 rfl ?_
    obtain ⟨hk4, h⟩ := h
    refine gd_getI (pc := 40) (kf := 0) X ci6 (by decide) rfl tw_983 dX6_commit_40 hk4 ?_
    refine gd_if_ne (pc := 43) X 54 dX6_commit_43 (by decide) (fun hc7 => ?_) (fun hc7 => ?_)
    · have h := h.1 hc7
      refine gd_iconst (pc := 54) X (0) dX6_commit_54 (by decide) ?_
      exact g55 _ _ _ _ h
    · have h := h.2 hc7
      refine gd_aload_n (pc := 46) X 0 dX6_commit_46 rfl ?_
      refine gd_iload_n (pc := 47) X 1 dX6_commit_47 rfl ?_
      refine gd_callV (pc := 48) (As := [.int l1]) (rest := []) X (ct_X6_doCommit l G S2 l0 l1 _ h) mw_X6_doCommit tw_1223 ci6 rfl hk4 ⟨(Nat.le_of_ble_eq_true rfl), (Nat.le_of_ble_eq_true rfl)⟩ rfl rfl (Nat.le_of_ble_eq_true rfl) dX6_commit_48 ⟨Nat.le_of_ble_eq_true rfl, Nat.le_of_ble_eq_true rfl⟩ (kI (fun r6 S5 h => ?_))
      refine gd_wide (k2 := 0) (j2 := 0) (Nat.le_of_ble_eq_true rfl) (Nat.le_of_ble_eq_true rfl) ?_
      refine gd_goto (pc := 51) X 55 dX6_commit_51 (by decide) ?_
      exact g55 _ _ _ _ h
  have g31 : ∀ (S : MS) (l0 : Nat) (l1 : Int32) (s0 : Nat), b_X6_commit_31 post S l0 l1 s0 → Gd p l e rm_X6_commit s m args below meth c 2 G (MQ below (QcM G (pI_ post)) args s rm_X6_commit.cells rm_X6_commit.slots (Ab G)) 0 0 S 31 [(0, rf l0), (1, .int l1)] [rf s0] := by
    intro S l0 l1 s0 h
    refine gd_iconst (pc := 31) X (2) dX6_commit_31 (by decide) ?_
    refine gd_goto (pc := 32) X 36 dX6_commit_32 (by decide) ?_
    exact g36 _ _ _ _ _ h
  intro h
  refine gd_aload_n (pc := 0) X 0 dX6_commit_0 rfl ?_
  refine gd_aload_n (pc := 1) X 0 dX6_commit_1 rfl ?_
  refine gd_iload_n (pc := 2) X 1 dX6_commit_2 rfl ?_
  obtain ⟨hk1, h⟩ := h
  refine gd_callV (pc := 3) (As := [.int a1]) (rest := [rf a0]) X (ct_X6_isTransaction l G S a0 a1 _ h) mw_X6_isTransaction tw_1109 ci6 rfl hk1 ⟨(Nat.le_of_ble_eq_true rfl), (Nat.le_of_ble_eq_true rfl)⟩ rfl rfl (Nat.le_of_ble_eq_true rfl) dX6_commit_3 ⟨Nat.le_of_ble_eq_true rfl, Nat.le_of_ble_eq_true rfl⟩ (kI (fun r3 S2 h => ?_))
  refine gd_wide (k2 := 0) (j2 := 0) (Nat.le_of_ble_eq_true rfl) (Nat.le_of_ble_eq_true rfl) ?_
  refine gd_if_ne (pc := 6) X 13 dX6_commit_6 (by decide) (fun hc9 => ?_) (fun hc9 => ?_)
  · have h := h.1 hc9
    refine gd_aload_n (pc := 13) X 0 dX6_commit_13 rfl ?_
    obtain ⟨hk4, h⟩ := h
    refine gd_getR (pc := 14) (kf := 2) X ci6 (by decide) rfl tw_985 dX6_commit_14 hk4 ?_
    refine gd_iload_n (pc := 17) X 1 dX6_commit_17 rfl ?_
    obtain ⟨hk5, h⟩ := h
    obtain ⟨hi6, h⟩ := h
    refine gd_iald (pc := 18) X dX6_commit_18 hk5 hi6 ?_
    refine gd_if_ne (pc := 19) X 31 dX6_commit_19 (by decide) (fun hc8 => ?_) (fun hc8 => ?_)
    · have h := h.1 hc8
      exact g31 _ _ _ _ h
    · have h := h.2 hc8
      refine gd_aload_n (pc := 22) X 0 dX6_commit_22 rfl ?_
      refine gd_getI (pc := 23) (kf := 14) X ci6 (by decide) rfl tw_997 dX6_commit_23 hk4 ?_
      refine gd_bipush (pc := 26) X (60) dX6_commit_26 (by decide) ?_
      refine gd_icmp_ne (pc := 28) X 35 dX6_commit_28 (by decide) (fun hc7 => ?_) (fun hc7 => ?_)
      · have h := h.1 hc7
        refine gd_iconst (pc := 35) X (0) dX6_commit_35 (by decide) ?_
        exact g36 _ _ _ _ _ h
      · have h := h.2 hc7
        exact g31 _ _ _ _ h
  · have h := h.2 hc9
    refine gd_iconst (pc := 9) X (1) dX6_commit_9 (by decide) ?_
    refine gd_goto (pc := 10) X 36 dX6_commit_10 (by decide) ?_
    exact g36 _ _ _ _ _ h
abbrev rm_X6_abort : Room := { frames := 3, cells := 0, slots := 0, locals := 64 }
def b_X6_abort_22 (post : MS → Prop) (S : MS) (l0 : Nat) (l1 : Int32) : Prop := post S
def w_X6_abort (S : MS) (a0 : Nat) (a1 : Int32) (post : MS → Prop) : Prop := kT S a0 = 7 ∧ w_X6_activeProblem S a0 a1 (fun r3 S2 => kT S2 a0 = 7 ∧ ∀ S5 : MS, S5 = pI S2 a0 0 r3 → ((¬ (sI S5 a0 0) = 0 → b_X6_abort_22 post S5 a0 a1) ∧ ((sI S5 a0 0) = 0 → w_X6_endWith S5 a0 a1 5 (fun S7 => b_X6_abort_22 post S7 a0 a1))))
set_option maxHeartbeats 4000000 in
set_option maxRecDepth 100000 in
theorem ct_X6_abort (l : Launch) (G : GP) (S : MS) (a0 : Nat) (a1 : Int32) (post : MS → Prop) (h : w_X6_abort S a0 a1 post) : MetM l yX6_abort cX6_abort 2 none rm_X6_abort [rf a0, .int a1] G S (pV_ post) := by
  refine met_of (by decide) (cat1_r (cat1_i cat1_n)) (Nat.le_of_ble_eq_true rfl) ?_
  intro p e s m args below meth c X hr hlk hin
  revert h
  have g22 : ∀ (S : MS) (l0 : Nat) (l1 : Int32), b_X6_abort_22 post S l0 l1 → Gd p l e rm_X6_abort s m args below meth c 2 G (MQ below (QcM G (pV_ post)) args s rm_X6_abort.cells rm_X6_abort.slots (Ab G)) 0 0 S 22 [(0, rf l0), (1, .int l1)] [] := by
    intro S l0 l1 h
    exact (gd_ret_v (pc := 22) X hr hlk (by decide) (by decide) dX6_abort_22 ⟨rfl, h⟩)
  intro h
  refine gd_aload_n (pc := 0) X 0 dX6_abort_0 rfl ?_
  refine gd_aload_n (pc := 1) X 0 dX6_abort_1 rfl ?_
  refine gd_iload_n (pc := 2) X 1 dX6_abort_2 rfl ?_
  obtain ⟨hk1, h⟩ := h
  refine gd_callV (pc := 3) (As := [.int a1]) (rest := [rf a0]) X (ct_X6_activeProblem l G S a0 a1 _ h) mw_X6_activeProblem tw_1183 ci6 rfl hk1 ⟨(Nat.le_of_ble_eq_true rfl), (Nat.le_of_ble_eq_true rfl)⟩ rfl rfl (Nat.le_of_ble_eq_true rfl) dX6_abort_3 ⟨Nat.le_of_ble_eq_true rfl, Nat.le_of_ble_eq_true rfl⟩ (kI (fun r3 S2 h => ?_))
  refine gd_wide (k2 := 0) (j2 := 0) (Nat.le_of_ble_eq_true rfl) (Nat.le_of_ble_eq_true rfl) ?_
  obtain ⟨hk4, h⟩ := h
  refine gd_putI (pc := 6) (kf := 0) X ci6 (by decide) rfl rfl tw_983 rfl rfl dX6_abort_6 hk4 ?_
  refine gd_topS (fun S5 hS5 => ?_)
  have h := h S5 hS5
  have hk6 : kT S5 a0 = 7 := by rw [hS5]; exact hk4
  refine gd_aload_n (pc := 9) X 0 dX6_abort_9 rfl ?_
  refine gd_getI (pc := 10) (kf := 0) X ci6 (by decide) rfl tw_983 dX6_abort_10 hk6 ?_
  refine gd_if_ne (pc := 13) X 22 dX6_abort_13 (by decide) (fun hc9 => ?_) (fun hc9 => ?_)
  · have h := h.1 hc9
    exact g22 _ _ _ h
  · have h := h.2 hc9
    refine gd_aload_n (pc := 16) X 0 dX6_abort_16 rfl ?_
    refine gd_iload_n (pc := 17) X 1 dX6_abort_17 rfl ?_
    refine gd_iconst (pc := 18) X (5) dX6_abort_18 (by decide) ?_
    refine gd_callV (pc := 19) (As := [.int a1, .int 5]) (rest := []) X (ct_X6_endWith l G S5 a0 a1 5 _ h) mw_X6_endWith tw_1239 ci6 rfl hk6 ⟨(Nat.le_of_ble_eq_true rfl), (Nat.le_of_ble_eq_true rfl)⟩ rfl rfl (Nat.le_of_ble_eq_true rfl) dX6_abort_19 ⟨Nat.le_of_ble_eq_true rfl, Nat.le_of_ble_eq_true rfl⟩ (kV (fun S7 h => ?_))
    refine gd_wide (k2 := 0) (j2 := 0) (Nat.le_of_ble_eq_true rfl) (Nat.le_of_ble_eq_true rfl) ?_
    exact g22 _ _ _ h
abbrev rm_X6_clock : Room := { frames := 0, cells := 0, slots := 0, locals := 0 }
def w_X6_clock (S : MS) (a0 : Nat) (post : Int32 → MS → Prop) : Prop := kT S a0 = 7 ∧ ∀ S2 : MS, S2 = pI S a0 0 0 → post (sI S2 a0 14) S2
set_option maxHeartbeats 4000000 in
set_option maxRecDepth 100000 in
theorem ct_X6_clock (l : Launch) (G : GP) (S : MS) (a0 : Nat) (post : Int32 → MS → Prop) (h : w_X6_clock S a0 post) : MetM l yX6_clock cX6_clock 1 (some .int) rm_X6_clock [rf a0] G S (pI_ post) := by
  refine met_of (by decide) (cat1_r cat1_n) (Nat.le_of_ble_eq_true rfl) ?_
  intro p e s m args below meth c X hr hlk hin
  refine gd_aload_n (pc := 0) X 0 dX6_clock_0 rfl ?_
  refine gd_iconst (pc := 1) X (0) dX6_clock_1 (by decide) ?_
  obtain ⟨hk1, h⟩ := h
  refine gd_putI (pc := 2) (kf := 0) X ci6 (by decide) rfl rfl tw_983 rfl rfl dX6_clock_2 hk1 ?_
  refine gd_topS (fun S2 hS2 => ?_)
  have h := h S2 hS2
  have hk3 : kT S2 a0 = 7 := by rw [hS2]; exact hk1
  refine gd_aload_n (pc := 5) X 0 dX6_clock_5 rfl ?_
  refine gd_getI (pc := 6) (kf := 14) X ci6 (by decide) rfl tw_997 dX6_clock_6 hk3 ?_
  exact (gd_ret_i (pc := 9) X hr hlk rfl (by decide) (by decide) dX6_clock_9 ⟨_, rfl, h⟩)
abbrev rm_X6_transactionCount : Room := { frames := 0, cells := 0, slots := 0, locals := 0 }
def w_X6_transactionCount (S : MS) (a0 : Nat) (post : Int32 → MS → Prop) : Prop := kT S a0 = 7 ∧ ∀ S2 : MS, S2 = pI S a0 0 0 → post (sI S2 a0 1) S2
set_option maxHeartbeats 4000000 in
set_option maxRecDepth 100000 in
theorem ct_X6_transactionCount (l : Launch) (G : GP) (S : MS) (a0 : Nat) (post : Int32 → MS → Prop) (h : w_X6_transactionCount S a0 post) : MetM l yX6_transactionCount cX6_transactionCount 1 (some .int) rm_X6_transactionCount [rf a0] G S (pI_ post) := by
  refine met_of (by decide) (cat1_r cat1_n) (Nat.le_of_ble_eq_true rfl) ?_
  intro p e s m args below meth c X hr hlk hin
  refine gd_aload_n (pc := 0) X 0 dX6_transactionCount_0 rfl ?_
  refine gd_iconst (pc := 1) X (0) dX6_transactionCount_1 (by decide) ?_
  obtain ⟨hk1, h⟩ := h
  refine gd_putI (pc := 2) (kf := 0) X ci6 (by decide) rfl rfl tw_983 rfl rfl dX6_transactionCount_2 hk1 ?_
  refine gd_topS (fun S2 hS2 => ?_)
  have h := h S2 hS2
  have hk3 : kT S2 a0 = 7 := by rw [hS2]; exact hk1
  refine gd_aload_n (pc := 5) X 0 dX6_transactionCount_5 rfl ?_
  refine gd_getI (pc := 6) (kf := 1) X ci6 (by decide) rfl tw_984 dX6_transactionCount_6 hk3 ?_
  exact (gd_ret_i (pc := 9) X hr hlk rfl (by decide) (by decide) dX6_transactionCount_9 ⟨_, rfl, h⟩)
abbrev rm_X6_activeCount : Room := { frames := 1, cells := 0, slots := 0, locals := 22 }
def w_X6_activeCount (S : MS) (a0 : Nat) (post : Int32 → MS → Prop) : Prop := kT S a0 = 7 ∧ ∀ S2 : MS, S2 = pI S a0 0 0 → w_X6_activeNow S2 a0 (fun r5 S4 => post r5 S4)
set_option maxHeartbeats 4000000 in
set_option maxRecDepth 100000 in
theorem ct_X6_activeCount (l : Launch) (G : GP) (S : MS) (a0 : Nat) (post : Int32 → MS → Prop) (h : w_X6_activeCount S a0 post) : MetM l yX6_activeCount cX6_activeCount 1 (some .int) rm_X6_activeCount [rf a0] G S (pI_ post) := by
  refine met_of (by decide) (cat1_r cat1_n) (Nat.le_of_ble_eq_true rfl) ?_
  intro p e s m args below meth c X hr hlk hin
  refine gd_aload_n (pc := 0) X 0 dX6_activeCount_0 rfl ?_
  refine gd_iconst (pc := 1) X (0) dX6_activeCount_1 (by decide) ?_
  obtain ⟨hk1, h⟩ := h
  refine gd_putI (pc := 2) (kf := 0) X ci6 (by decide) rfl rfl tw_983 rfl rfl dX6_activeCount_2 hk1 ?_
  refine gd_topS (fun S2 hS2 => ?_)
  have h := h S2 hS2
  have hk3 : kT S2 a0 = 7 := by rw [hS2]; exact hk1
  refine gd_aload_n (pc := 5) X 0 dX6_activeCount_5 rfl ?_
  refine gd_callV (pc := 6) (As := []) (rest := []) X (ct_X6_activeNow l G S2 a0 _ h) mw_X6_activeNow tw_1085 ci6 rfl hk3 ⟨(Nat.le_of_ble_eq_true rfl), (Nat.le_of_ble_eq_true rfl)⟩ rfl rfl (Nat.le_of_ble_eq_true rfl) dX6_activeCount_6 ⟨Nat.le_of_ble_eq_true rfl, Nat.le_of_ble_eq_true rfl⟩ (kI (fun r5 S4 h => ?_))
  refine gd_wide (k2 := 0) (j2 := 0) (Nat.le_of_ble_eq_true rfl) (Nat.le_of_ble_eq_true rfl) ?_
  exact (gd_ret_i (pc := 9) X hr hlk rfl (by decide) (by decide) dX6_activeCount_9 ⟨_, rfl, h⟩)
abbrev rm_X6_ticketHolder : Room := { frames := 1, cells := 0, slots := 0, locals := 21 }
def b_X6_ticketHolder_25 (post : Int32 → MS → Prop) (S : MS) (l0 : Nat) (s0 : Int32) : Prop := post s0 S
def w_X6_ticketHolder (S : MS) (a0 : Nat) (post : Int32 → MS → Prop) : Prop := kT S a0 = 7 ∧ ∀ S2 : MS, S2 = pI S a0 0 0 → ((¬ (sI S2 a0 13) = ((-1)) → b_X6_ticketHolder_25 post S2 a0 (sI S2 a0 13)) ∧ ((sI S2 a0 13) = ((-1)) → w_X6_fail S2 a0 1 (fun r5 S4 => b_X6_ticketHolder_25 post S4 a0 r5)))
set_option maxHeartbeats 4000000 in
set_option maxRecDepth 100000 in
theorem ct_X6_ticketHolder (l : Launch) (G : GP) (S : MS) (a0 : Nat) (post : Int32 → MS → Prop) (h : w_X6_ticketHolder S a0 post) : MetM l yX6_ticketHolder cX6_ticketHolder 1 (some .int) rm_X6_ticketHolder [rf a0] G S (pI_ post) := by
  refine met_of (by decide) (cat1_r cat1_n) (Nat.le_of_ble_eq_true rfl) ?_
  intro p e s m args below meth c X hr hlk hin
  revert h
  have g25 : ∀ (S : MS) (l0 : Nat) (s0 : Int32), b_X6_ticketHolder_25 post S l0 s0 → Gd p l e rm_X6_ticketHolder s m args below meth c 1 G (MQ below (QcM G (pI_ post)) args s rm_X6_ticketHolder.cells rm_X6_ticketHolder.slots (Ab G)) 0 0 S 25 [(0, rf l0)] [.int s0] := by
    intro S l0 s0 h
    exact (gd_ret_i (pc := 25) X hr hlk rfl (by decide) (by decide) dX6_ticketHolder_25 ⟨_, rfl, h⟩)
  intro h
  refine gd_aload_n (pc := 0) X 0 dX6_ticketHolder_0 rfl ?_
  refine gd_iconst (pc := 1) X (0) dX6_ticketHolder_1 (by decide) ?_
  obtain ⟨hk1, h⟩ := h
  refine gd_putI (pc := 2) (kf := 0) X ci6 (by decide) rfl rfl tw_983 rfl rfl dX6_ticketHolder_2 hk1 ?_
  refine gd_topS (fun S2 hS2 => ?_)
  have h := h S2 hS2
  have hk3 : kT S2 a0 = 7 := by rw [hS2]; exact hk1
  refine gd_aload_n (pc := 5) X 0 dX6_ticketHolder_5 rfl ?_
  refine gd_getI (pc := 6) (kf := 13) X ci6 (by decide) rfl tw_996 dX6_ticketHolder_6 hk3 ?_
  refine gd_iconst (pc := 9) X (-1) dX6_ticketHolder_9 (by decide) ?_
  refine gd_icmp_ne (pc := 10) X 21 dX6_ticketHolder_10 (by decide) (fun hc6 => ?_) (fun hc6 => ?_)
  · have h := h.1 hc6
    refine gd_aload_n (pc := 21) X 0 dX6_ticketHolder_21 rfl ?_
    refine gd_getI (pc := 22) (kf := 13) X ci6 (by decide) rfl tw_996 dX6_ticketHolder_22 hk3 ?_
    exact g25 _ _ _ h
  · have h := h.2 hc6
    refine gd_aload_n (pc := 13) X 0 dX6_ticketHolder_13 rfl ?_
    refine gd_iconst (pc := 14) X (1) dX6_ticketHolder_14 (by decide) ?_
    refine gd_callV (pc := 15) (As := [.int 1]) (rest := []) X (ct_X6_fail l G S2 a0 1 _ h) mw_X6_fail tw_1101 ci6 rfl hk3 ⟨(Nat.le_of_ble_eq_true rfl), (Nat.le_of_ble_eq_true rfl)⟩ rfl rfl (Nat.le_of_ble_eq_true rfl) dX6_ticketHolder_15 ⟨Nat.le_of_ble_eq_true rfl, Nat.le_of_ble_eq_true rfl⟩ (kI (fun r5 S4 h => ?_))
    refine gd_wide (k2 := 0) (j2 := 0) (Nat.le_of_ble_eq_true rfl) (Nat.le_of_ble_eq_true rfl) ?_
    refine gd_goto (pc := 18) X 25 dX6_ticketHolder_18 (by decide) ?_
    exact g25 _ _ _ h
abbrev rm_X6_state : Room := { frames := 2, cells := 0, slots := 0, locals := 43 }
def b_X6_state_27 (post : Int32 → MS → Prop) (S : MS) (l0 : Nat) (l1 : Int32) (s0 : Int32) : Prop := post s0 S
def w_X6_state (S : MS) (a0 : Nat) (a1 : Int32) (post : Int32 → MS → Prop) : Prop := kT S a0 = 7 ∧ ∀ S2 : MS, S2 = pI S a0 0 0 → w_X6_isTransaction S2 a0 a1 (fun r5 S4 => ((r5 = 0 → kT S4 a0 = 7 ∧ w_X6_fail S4 a0 1 (fun r8 S7 => b_X6_state_27 post S7 a0 a1 r8)) ∧ (¬ r5 = 0 → kT S4 a0 = 7 ∧ kT S4 (sR S4 a0 2) = 9 ∧ vp_in a1 (kL S4 (sR S4 a0 2)) ∧ b_X6_state_27 post S4 a0 a1 (sI S4 (sR S4 a0 2) (ix a1)))))
set_option maxHeartbeats 4000000 in
set_option maxRecDepth 100000 in
theorem ct_X6_state (l : Launch) (G : GP) (S : MS) (a0 : Nat) (a1 : Int32) (post : Int32 → MS → Prop) (h : w_X6_state S a0 a1 post) : MetM l yX6_state cX6_state 2 (some .int) rm_X6_state [rf a0, .int a1] G S (pI_ post) := by
  refine met_of (by decide) (cat1_r (cat1_i cat1_n)) (Nat.le_of_ble_eq_true rfl) ?_
  intro p e s m args below meth c X hr hlk hin
  revert h
  have g27 : ∀ (S : MS) (l0 : Nat) (l1 : Int32) (s0 : Int32), b_X6_state_27 post S l0 l1 s0 → Gd p l e rm_X6_state s m args below meth c 2 G (MQ below (QcM G (pI_ post)) args s rm_X6_state.cells rm_X6_state.slots (Ab G)) 0 0 S 27 [(0, rf l0), (1, .int l1)] [.int s0] := by
    intro S l0 l1 s0 h
    exact (gd_ret_i (pc := 27) X hr hlk rfl (by decide) (by decide) dX6_state_27 ⟨_, rfl, h⟩)
  intro h
  refine gd_aload_n (pc := 0) X 0 dX6_state_0 rfl ?_
  refine gd_iconst (pc := 1) X (0) dX6_state_1 (by decide) ?_
  obtain ⟨hk1, h⟩ := h
  refine gd_putI (pc := 2) (kf := 0) X ci6 (by decide) rfl rfl tw_983 rfl rfl dX6_state_2 hk1 ?_
  refine gd_topS (fun S2 hS2 => ?_)
  have h := h S2 hS2
  have hk3 : kT S2 a0 = 7 := by rw [hS2]; exact hk1
  refine gd_aload_n (pc := 5) X 0 dX6_state_5 rfl ?_
  refine gd_iload_n (pc := 6) X 1 dX6_state_6 rfl ?_
  refine gd_callV (pc := 7) (As := [.int a1]) (rest := []) X (ct_X6_isTransaction l G S2 a0 a1 _ h) mw_X6_isTransaction tw_1109 ci6 rfl hk3 ⟨(Nat.le_of_ble_eq_true rfl), (Nat.le_of_ble_eq_true rfl)⟩ rfl rfl (Nat.le_of_ble_eq_true rfl) dX6_state_7 ⟨Nat.le_of_ble_eq_true rfl, Nat.le_of_ble_eq_true rfl⟩ (kI (fun r5 S4 h => ?_))
  refine gd_wide (k2 := 0) (j2 := 0) (Nat.le_of_ble_eq_true rfl) (Nat.le_of_ble_eq_true rfl) ?_
  refine gd_if_eq (pc := 10) X 22 dX6_state_10 (by decide) (fun hc12 => ?_) (fun hc12 => ?_)
  · have h := h.1 hc12
    refine gd_aload_n (pc := 22) X 0 dX6_state_22 rfl ?_
    refine gd_iconst (pc := 23) X (1) dX6_state_23 (by decide) ?_
    obtain ⟨hk6, h⟩ := h
    refine gd_callV (pc := 24) (As := [.int 1]) (rest := []) X (ct_X6_fail l G S4 a0 1 _ h) mw_X6_fail tw_1101 ci6 rfl hk6 ⟨(Nat.le_of_ble_eq_true rfl), (Nat.le_of_ble_eq_true rfl)⟩ rfl rfl (Nat.le_of_ble_eq_true rfl) dX6_state_24 ⟨Nat.le_of_ble_eq_true rfl, Nat.le_of_ble_eq_true rfl⟩ (kI (fun r8 S7 h => ?_))
    refine gd_wide (k2 := 0) (j2 := 0) (Nat.le_of_ble_eq_true rfl) (Nat.le_of_ble_eq_true rfl) ?_
    exact g27 _ _ _ _ h
  · have h := h.2 hc12
    refine gd_aload_n (pc := 13) X 0 dX6_state_13 rfl ?_
    obtain ⟨hk9, h⟩ := h
    refine gd_getR (pc := 14) (kf := 2) X ci6 (by decide) rfl tw_985 dX6_state_14 hk9 ?_
    refine gd_iload_n (pc := 17) X 1 dX6_state_17 rfl ?_
    obtain ⟨hk10, h⟩ := h
    obtain ⟨hi11, h⟩ := h
    refine gd_iald (pc := 18) X dX6_state_18 hk10 hi11 ?_
    refine gd_goto (pc := 19) X 27 dX6_state_19 (by decide) ?_
    exact g27 _ _ _ _ h
abbrev rm_X6_attempt : Room := { frames := 2, cells := 0, slots := 0, locals := 43 }
def b_X6_attempt_27 (post : Int32 → MS → Prop) (S : MS) (l0 : Nat) (l1 : Int32) (s0 : Int32) : Prop := post s0 S
def w_X6_attempt (S : MS) (a0 : Nat) (a1 : Int32) (post : Int32 → MS → Prop) : Prop := kT S a0 = 7 ∧ ∀ S2 : MS, S2 = pI S a0 0 0 → w_X6_isTransaction S2 a0 a1 (fun r5 S4 => ((r5 = 0 → kT S4 a0 = 7 ∧ w_X6_fail S4 a0 1 (fun r8 S7 => b_X6_attempt_27 post S7 a0 a1 r8)) ∧ (¬ r5 = 0 → kT S4 a0 = 7 ∧ kT S4 (sR S4 a0 3) = 9 ∧ vp_in a1 (kL S4 (sR S4 a0 3)) ∧ b_X6_attempt_27 post S4 a0 a1 (sI S4 (sR S4 a0 3) (ix a1)))))
set_option maxHeartbeats 4000000 in
set_option maxRecDepth 100000 in
theorem ct_X6_attempt (l : Launch) (G : GP) (S : MS) (a0 : Nat) (a1 : Int32) (post : Int32 → MS → Prop) (h : w_X6_attempt S a0 a1 post) : MetM l yX6_attempt cX6_attempt 2 (some .int) rm_X6_attempt [rf a0, .int a1] G S (pI_ post) := by
  refine met_of (by decide) (cat1_r (cat1_i cat1_n)) (Nat.le_of_ble_eq_true rfl) ?_
  intro p e s m args below meth c X hr hlk hin
  revert h
  have g27 : ∀ (S : MS) (l0 : Nat) (l1 : Int32) (s0 : Int32), b_X6_attempt_27 post S l0 l1 s0 → Gd p l e rm_X6_attempt s m args below meth c 2 G (MQ below (QcM G (pI_ post)) args s rm_X6_attempt.cells rm_X6_attempt.slots (Ab G)) 0 0 S 27 [(0, rf l0), (1, .int l1)] [.int s0] := by
    intro S l0 l1 s0 h
    exact (gd_ret_i (pc := 27) X hr hlk rfl (by decide) (by decide) dX6_attempt_27 ⟨_, rfl, h⟩)
  intro h
  refine gd_aload_n (pc := 0) X 0 dX6_attempt_0 rfl ?_
  refine gd_iconst (pc := 1) X (0) dX6_attempt_1 (by decide) ?_
  obtain ⟨hk1, h⟩ := h
  refine gd_putI (pc := 2) (kf := 0) X ci6 (by decide) rfl rfl tw_983 rfl rfl dX6_attempt_2 hk1 ?_
  refine gd_topS (fun S2 hS2 => ?_)
  have h := h S2 hS2
  have hk3 : kT S2 a0 = 7 := by rw [hS2]; exact hk1
  refine gd_aload_n (pc := 5) X 0 dX6_attempt_5 rfl ?_
  refine gd_iload_n (pc := 6) X 1 dX6_attempt_6 rfl ?_
  refine gd_callV (pc := 7) (As := [.int a1]) (rest := []) X (ct_X6_isTransaction l G S2 a0 a1 _ h) mw_X6_isTransaction tw_1109 ci6 rfl hk3 ⟨(Nat.le_of_ble_eq_true rfl), (Nat.le_of_ble_eq_true rfl)⟩ rfl rfl (Nat.le_of_ble_eq_true rfl) dX6_attempt_7 ⟨Nat.le_of_ble_eq_true rfl, Nat.le_of_ble_eq_true rfl⟩ (kI (fun r5 S4 h => ?_))
  refine gd_wide (k2 := 0) (j2 := 0) (Nat.le_of_ble_eq_true rfl) (Nat.le_of_ble_eq_true rfl) ?_
  refine gd_if_eq (pc := 10) X 22 dX6_attempt_10 (by decide) (fun hc12 => ?_) (fun hc12 => ?_)
  · have h := h.1 hc12
    refine gd_aload_n (pc := 22) X 0 dX6_attempt_22 rfl ?_
    refine gd_iconst (pc := 23) X (1) dX6_attempt_23 (by decide) ?_
    obtain ⟨hk6, h⟩ := h
    refine gd_callV (pc := 24) (As := [.int 1]) (rest := []) X (ct_X6_fail l G S4 a0 1 _ h) mw_X6_fail tw_1101 ci6 rfl hk6 ⟨(Nat.le_of_ble_eq_true rfl), (Nat.le_of_ble_eq_true rfl)⟩ rfl rfl (Nat.le_of_ble_eq_true rfl) dX6_attempt_24 ⟨Nat.le_of_ble_eq_true rfl, Nat.le_of_ble_eq_true rfl⟩ (kI (fun r8 S7 h => ?_))
    refine gd_wide (k2 := 0) (j2 := 0) (Nat.le_of_ble_eq_true rfl) (Nat.le_of_ble_eq_true rfl) ?_
    exact g27 _ _ _ _ h
  · have h := h.2 hc12
    refine gd_aload_n (pc := 13) X 0 dX6_attempt_13 rfl ?_
    obtain ⟨hk9, h⟩ := h
    refine gd_getR (pc := 14) (kf := 3) X ci6 (by decide) rfl tw_986 dX6_attempt_14 hk9 ?_
    refine gd_iload_n (pc := 17) X 1 dX6_attempt_17 rfl ?_
    obtain ⟨hk10, h⟩ := h
    obtain ⟨hi11, h⟩ := h
    refine gd_iald (pc := 18) X dX6_attempt_18 hk10 hi11 ?_
    refine gd_goto (pc := 19) X 27 dX6_attempt_19 (by decide) ?_
    exact g27 _ _ _ _ h
abbrev rm_X6_reason : Room := { frames := 2, cells := 0, slots := 0, locals := 43 }
def b_X6_reason_45 (post : Int32 → MS → Prop) (S : MS) (l0 : Nat) (l1 : Int32) (s0 : Int32) : Prop := post s0 S
def w_X6_reason (S : MS) (a0 : Nat) (a1 : Int32) (post : Int32 → MS → Prop) : Prop := kT S a0 = 7 ∧ ∀ S2 : MS, S2 = pI S a0 0 0 → w_X6_isTransaction S2 a0 a1 (fun r5 S4 => ((¬ r5 = 0 → kT S4 a0 = 7 ∧ kT S4 (sR S4 a0 2) = 9 ∧ vp_in a1 (kL S4 (sR S4 a0 2)) ∧ (((sI S4 (sR S4 a0 2) (ix a1)) = 2 → kT S4 (sR S4 a0 4) = 9 ∧ vp_in a1 (kL S4 (sR S4 a0 4)) ∧ b_X6_reason_45 post S4 a0 a1 (sI S4 (sR S4 a0 4) (ix a1))) ∧ (¬ (sI S4 (sR S4 a0 2) (ix a1)) = 2 → w_X6_fail S4 a0 2 (fun r12 S11 => b_X6_reason_45 post S11 a0 a1 r12)))) ∧ (r5 = 0 → kT S4 a0 = 7 ∧ w_X6_fail S4 a0 1 (fun r16 S15 => b_X6_reason_45 post S15 a0 a1 r16))))
set_option maxHeartbeats 4000000 in
set_option maxRecDepth 100000 in
theorem ct_X6_reason (l : Launch) (G : GP) (S : MS) (a0 : Nat) (a1 : Int32) (post : Int32 → MS → Prop) (h : w_X6_reason S a0 a1 post) : MetM l yX6_reason cX6_reason 2 (some .int) rm_X6_reason [rf a0, .int a1] G S (pI_ post) := by
  refine met_of (by decide) (cat1_r (cat1_i cat1_n)) (Nat.le_of_ble_eq_true rfl) ?_
  intro p e s m args below meth c X hr hlk hin
  revert h
  have g45 : ∀ (S : MS) (l0 : Nat) (l1 : Int32) (s0 : Int32), b_X6_reason_45 post S l0 l1 s0 → Gd p l e rm_X6_reason s m args below meth c 2 G (MQ below (QcM G (pI_ post)) args s rm_X6_reason.cells rm_X6_reason.slots (Ab G)) 0 0 S 45 [(0, rf l0), (1, .int l1)] [.int s0] := by
    intro S l0 l1 s0 h
    exact (gd_ret_i (pc := 45) X hr hlk rfl (by decide) (by decide) dX6_reason_45 ⟨_, rfl, h⟩)
  intro h
  refine gd_aload_n (pc := 0) X 0 dX6_reason_0 rfl ?_
  refine gd_iconst (pc := 1) X (0) dX6_reason_1 (by decide) ?_
  obtain ⟨hk1, h⟩ := h
  refine gd_putI (pc := 2) (kf := 0) X ci6 (by decide) rfl rfl tw_983 rfl rfl dX6_reason_2 hk1 ?_
  refine gd_topS (fun S2 hS2 => ?_)
  have h := h S2 hS2
  have hk3 : kT S2 a0 = 7 := by rw [hS2]; exact hk1
  refine gd_aload_n (pc := 5) X 0 dX6_reason_5 rfl ?_
  refine gd_iload_n (pc := 6) X 1 dX6_reason_6 rfl ?_
  refine gd_callV (pc := 7) (As := [.int a1]) (rest := []) X (ct_X6_isTransaction l G S2 a0 a1 _ h) mw_X6_isTransaction tw_1109 ci6 rfl hk3 ⟨(Nat.le_of_ble_eq_true rfl), (Nat.le_of_ble_eq_true rfl)⟩ rfl rfl (Nat.le_of_ble_eq_true rfl) dX6_reason_7 ⟨Nat.le_of_ble_eq_true rfl, Nat.le_of_ble_eq_true rfl⟩ (kI (fun r5 S4 h => ?_))
  refine gd_wide (k2 := 0) (j2 := 0) (Nat.le_of_ble_eq_true rfl) (Nat.le_of_ble_eq_true rfl) ?_
  refine gd_if_ne (pc := 10) X 21 dX6_reason_10 (by decide) (fun hc17 => ?_) (fun hc17 => ?_)
  · have h := h.1 hc17
    refine gd_aload_n (pc := 21) X 0 dX6_reason_21 rfl ?_
    obtain ⟨hk6, h⟩ := h
    refine gd_getR (pc := 22) (kf := 2) X ci6 (by decide) rfl tw_985 dX6_reason_22 hk6 ?_
    refine gd_iload_n (pc := 25) X 1 dX6_reason_25 rfl ?_
    obtain ⟨hk7, h⟩ := h
    obtain ⟨hi8, h⟩ := h
    refine gd_iald (pc := 26) X dX6_reason_26 hk7 hi8 ?_
    refine gd_iconst (pc := 27) X (2) dX6_reason_27 (by decide) ?_
    refine gd_icmp_eq (pc := 28) X 39 dX6_reason_28 (by decide) (fun hc13 => ?_) (fun hc13 => ?_)
    · have h := h.1 hc13
      refine gd_aload_n (pc := 39) X 0 dX6_reason_39 rfl ?_
      refine gd_getR (pc := 40) (kf := 4) X ci6 (by decide) rfl tw_987 dX6_reason_40 hk6 ?_
      refine gd_iload_n (pc := 43) X 1 dX6_reason_43 rfl ?_
      obtain ⟨hk9, h⟩ := h
      obtain ⟨hi10, h⟩ := h
      refine gd_iald (pc := 44) X dX6_reason_44 hk9 hi10 ?_
      exact g45 _ _ _ _ h
    · have h := h.2 hc13
      refine gd_aload_n (pc := 31) X 0 dX6_reason_31 rfl ?_
      refine gd_iconst (pc := 32) X (2) dX6_reason_32 (by decide) ?_
      refine gd_callV (pc := 33) (As := [.int 2]) (rest := []) X (ct_X6_fail l G S4 a0 2 _ h) mw_X6_fail tw_1101 ci6 rfl hk6 ⟨(Nat.le_of_ble_eq_true rfl), (Nat.le_of_ble_eq_true rfl)⟩ rfl rfl (Nat.le_of_ble_eq_true rfl) dX6_reason_33 ⟨Nat.le_of_ble_eq_true rfl, Nat.le_of_ble_eq_true rfl⟩ (kI (fun r12 S11 h => ?_))
      refine gd_wide (k2 := 0) (j2 := 0) (Nat.le_of_ble_eq_true rfl) (Nat.le_of_ble_eq_true rfl) ?_
      refine gd_goto (pc := 36) X 45 dX6_reason_36 (by decide) ?_
      exact g45 _ _ _ _ h
  · have h := h.2 hc17
    refine gd_aload_n (pc := 13) X 0 dX6_reason_13 rfl ?_
    refine gd_iconst (pc := 14) X (1) dX6_reason_14 (by decide) ?_
    obtain ⟨hk14, h⟩ := h
    refine gd_callV (pc := 15) (As := [.int 1]) (rest := []) X (ct_X6_fail l G S4 a0 1 _ h) mw_X6_fail tw_1101 ci6 rfl hk14 ⟨(Nat.le_of_ble_eq_true rfl), (Nat.le_of_ble_eq_true rfl)⟩ rfl rfl (Nat.le_of_ble_eq_true rfl) dX6_reason_15 ⟨Nat.le_of_ble_eq_true rfl, Nat.le_of_ble_eq_true rfl⟩ (kI (fun r16 S15 h => ?_))
    refine gd_wide (k2 := 0) (j2 := 0) (Nat.le_of_ble_eq_true rfl) (Nat.le_of_ble_eq_true rfl) ?_
    refine gd_goto (pc := 18) X 45 dX6_reason_18 (by decide) ?_
    exact g45 _ _ _ _ h
abbrev rm_X6_commitOf : Room := { frames := 2, cells := 0, slots := 0, locals := 43 }
def b_X6_commitOf_45 (post : Int32 → MS → Prop) (S : MS) (l0 : Nat) (l1 : Int32) (s0 : Int32) : Prop := post s0 S
def w_X6_commitOf (S : MS) (a0 : Nat) (a1 : Int32) (post : Int32 → MS → Prop) : Prop := kT S a0 = 7 ∧ ∀ S2 : MS, S2 = pI S a0 0 0 → w_X6_isTransaction S2 a0 a1 (fun r5 S4 => ((¬ r5 = 0 → kT S4 a0 = 7 ∧ kT S4 (sR S4 a0 2) = 9 ∧ vp_in a1 (kL S4 (sR S4 a0 2)) ∧ (((sI S4 (sR S4 a0 2) (ix a1)) = 1 → kT S4 (sR S4 a0 5) = 9 ∧ vp_in a1 (kL S4 (sR S4 a0 5)) ∧ b_X6_commitOf_45 post S4 a0 a1 (sI S4 (sR S4 a0 5) (ix a1))) ∧ (¬ (sI S4 (sR S4 a0 2) (ix a1)) = 1 → w_X6_fail S4 a0 2 (fun r12 S11 => b_X6_commitOf_45 post S11 a0 a1 r12)))) ∧ (r5 = 0 → kT S4 a0 = 7 ∧ w_X6_fail S4 a0 1 (fun r16 S15 => b_X6_commitOf_45 post S15 a0 a1 r16))))
set_option maxHeartbeats 4000000 in
set_option maxRecDepth 100000 in
theorem ct_X6_commitOf (l : Launch) (G : GP) (S : MS) (a0 : Nat) (a1 : Int32) (post : Int32 → MS → Prop) (h : w_X6_commitOf S a0 a1 post) : MetM l yX6_commitOf cX6_commitOf 2 (some .int) rm_X6_commitOf [rf a0, .int a1] G S (pI_ post) := by
  refine met_of (by decide) (cat1_r (cat1_i cat1_n)) (Nat.le_of_ble_eq_true rfl) ?_
  intro p e s m args below meth c X hr hlk hin
  revert h
  have g45 : ∀ (S : MS) (l0 : Nat) (l1 : Int32) (s0 : Int32), b_X6_commitOf_45 post S l0 l1 s0 → Gd p l e rm_X6_commitOf s m args below meth c 2 G (MQ below (QcM G (pI_ post)) args s rm_X6_commitOf.cells rm_X6_commitOf.slots (Ab G)) 0 0 S 45 [(0, rf l0), (1, .int l1)] [.int s0] := by
    intro S l0 l1 s0 h
    exact (gd_ret_i (pc := 45) X hr hlk rfl (by decide) (by decide) dX6_commitOf_45 ⟨_, rfl, h⟩)
  intro h
  refine gd_aload_n (pc := 0) X 0 dX6_commitOf_0 rfl ?_
  refine gd_iconst (pc := 1) X (0) dX6_commitOf_1 (by decide) ?_
  obtain ⟨hk1, h⟩ := h
  refine gd_putI (pc := 2) (kf := 0) X ci6 (by decide) rfl rfl tw_983 rfl rfl dX6_commitOf_2 hk1 ?_
  refine gd_topS (fun S2 hS2 => ?_)
  have h := h S2 hS2
  have hk3 : kT S2 a0 = 7 := by rw [hS2]; exact hk1
  refine gd_aload_n (pc := 5) X 0 dX6_commitOf_5 rfl ?_
  refine gd_iload_n (pc := 6) X 1 dX6_commitOf_6 rfl ?_
  refine gd_callV (pc := 7) (As := [.int a1]) (rest := []) X (ct_X6_isTransaction l G S2 a0 a1 _ h) mw_X6_isTransaction tw_1109 ci6 rfl hk3 ⟨(Nat.le_of_ble_eq_true rfl), (Nat.le_of_ble_eq_true rfl)⟩ rfl rfl (Nat.le_of_ble_eq_true rfl) dX6_commitOf_7 ⟨Nat.le_of_ble_eq_true rfl, Nat.le_of_ble_eq_true rfl⟩ (kI (fun r5 S4 h => ?_))
  refine gd_wide (k2 := 0) (j2 := 0) (Nat.le_of_ble_eq_true rfl) (Nat.le_of_ble_eq_true rfl) ?_
  refine gd_if_ne (pc := 10) X 21 dX6_commitOf_10 (by decide) (fun hc17 => ?_) (fun hc17 => ?_)
  · have h := h.1 hc17
    refine gd_aload_n (pc := 21) X 0 dX6_commitOf_21 rfl ?_
    obtain ⟨hk6, h⟩ := h
    refine gd_getR (pc := 22) (kf := 2) X ci6 (by decide) rfl tw_985 dX6_commitOf_22 hk6 ?_
    refine gd_iload_n (pc := 25) X 1 dX6_commitOf_25 rfl ?_
    obtain ⟨hk7, h⟩ := h
    obtain ⟨hi8, h⟩ := h
    refine gd_iald (pc := 26) X dX6_commitOf_26 hk7 hi8 ?_
    refine gd_iconst (pc := 27) X (1) dX6_commitOf_27 (by decide) ?_
    refine gd_icmp_eq (pc := 28) X 39 dX6_commitOf_28 (by decide) (fun hc13 => ?_) (fun hc13 => ?_)
    · have h := h.1 hc13
      refine gd_aload_n (pc := 39) X 0 dX6_commitOf_39 rfl ?_
      refine gd_getR (pc := 40) (kf := 5) X ci6 (by decide) rfl tw_988 dX6_commitOf_40 hk6 ?_
      refine gd_iload_n (pc := 43) X 1 dX6_commitOf_43 rfl ?_
      obtain ⟨hk9, h⟩ := h
      obtain ⟨hi10, h⟩ := h
      refine gd_iald (pc := 44) X dX6_commitOf_44 hk9 hi10 ?_
      exact g45 _ _ _ _ h
    · have h := h.2 hc13
      refine gd_aload_n (pc := 31) X 0 dX6_commitOf_31 rfl ?_
      refine gd_iconst (pc := 32) X (2) dX6_commitOf_32 (by decide) ?_
      refine gd_callV (pc := 33) (As := [.int 2]) (rest := []) X (ct_X6_fail l G S4 a0 2 _ h) mw_X6_fail tw_1101 ci6 rfl hk6 ⟨(Nat.le_of_ble_eq_true rfl), (Nat.le_of_ble_eq_true rfl)⟩ rfl rfl (Nat.le_of_ble_eq_true rfl) dX6_commitOf_33 ⟨Nat.le_of_ble_eq_true rfl, Nat.le_of_ble_eq_true rfl⟩ (kI (fun r12 S11 h => ?_))
      refine gd_wide (k2 := 0) (j2 := 0) (Nat.le_of_ble_eq_true rfl) (Nat.le_of_ble_eq_true rfl) ?_
      refine gd_goto (pc := 36) X 45 dX6_commitOf_36 (by decide) ?_
      exact g45 _ _ _ _ h
  · have h := h.2 hc17
    refine gd_aload_n (pc := 13) X 0 dX6_commitOf_13 rfl ?_
    refine gd_iconst (pc := 14) X (1) dX6_commitOf_14 (by decide) ?_
    obtain ⟨hk14, h⟩ := h
    refine gd_callV (pc := 15) (As := [.int 1]) (rest := []) X (ct_X6_fail l G S4 a0 1 _ h) mw_X6_fail tw_1101 ci6 rfl hk14 ⟨(Nat.le_of_ble_eq_true rfl), (Nat.le_of_ble_eq_true rfl)⟩ rfl rfl (Nat.le_of_ble_eq_true rfl) dX6_commitOf_15 ⟨Nat.le_of_ble_eq_true rfl, Nat.le_of_ble_eq_true rfl⟩ (kI (fun r16 S15 h => ?_))
    refine gd_wide (k2 := 0) (j2 := 0) (Nat.le_of_ble_eq_true rfl) (Nat.le_of_ble_eq_true rfl) ?_
    refine gd_goto (pc := 18) X 45 dX6_commitOf_18 (by decide) ?_
    exact g45 _ _ _ _ h
abbrev rm_X6_operationCount : Room := { frames := 2, cells := 0, slots := 0, locals := 43 }
def b_X6_operationCount_27 (post : Int32 → MS → Prop) (S : MS) (l0 : Nat) (l1 : Int32) (s0 : Int32) : Prop := post s0 S
def w_X6_operationCount (S : MS) (a0 : Nat) (a1 : Int32) (post : Int32 → MS → Prop) : Prop := kT S a0 = 7 ∧ ∀ S2 : MS, S2 = pI S a0 0 0 → w_X6_isTransaction S2 a0 a1 (fun r5 S4 => ((r5 = 0 → kT S4 a0 = 7 ∧ w_X6_fail S4 a0 1 (fun r8 S7 => b_X6_operationCount_27 post S7 a0 a1 r8)) ∧ (¬ r5 = 0 → kT S4 a0 = 7 ∧ kT S4 (sR S4 a0 7) = 9 ∧ vp_in a1 (kL S4 (sR S4 a0 7)) ∧ b_X6_operationCount_27 post S4 a0 a1 (sI S4 (sR S4 a0 7) (ix a1)))))
set_option maxHeartbeats 4000000 in
set_option maxRecDepth 100000 in
theorem ct_X6_operationCount (l : Launch) (G : GP) (S : MS) (a0 : Nat) (a1 : Int32) (post : Int32 → MS → Prop) (h : w_X6_operationCount S a0 a1 post) : MetM l yX6_operationCount cX6_operationCount 2 (some .int) rm_X6_operationCount [rf a0, .int a1] G S (pI_ post) := by
  refine met_of (by decide) (cat1_r (cat1_i cat1_n)) (Nat.le_of_ble_eq_true rfl) ?_
  intro p e s m args below meth c X hr hlk hin
  revert h
  have g27 : ∀ (S : MS) (l0 : Nat) (l1 : Int32) (s0 : Int32), b_X6_operationCount_27 post S l0 l1 s0 → Gd p l e rm_X6_operationCount s m args below meth c 2 G (MQ below (QcM G (pI_ post)) args s rm_X6_operationCount.cells rm_X6_operationCount.slots (Ab G)) 0 0 S 27 [(0, rf l0), (1, .int l1)] [.int s0] := by
    intro S l0 l1 s0 h
    exact (gd_ret_i (pc := 27) X hr hlk rfl (by decide) (by decide) dX6_operationCount_27 ⟨_, rfl, h⟩)
  intro h
  refine gd_aload_n (pc := 0) X 0 dX6_operationCount_0 rfl ?_
  refine gd_iconst (pc := 1) X (0) dX6_operationCount_1 (by decide) ?_
  obtain ⟨hk1, h⟩ := h
  refine gd_putI (pc := 2) (kf := 0) X ci6 (by decide) rfl rfl tw_983 rfl rfl dX6_operationCount_2 hk1 ?_
  refine gd_topS (fun S2 hS2 => ?_)
  have h := h S2 hS2
  have hk3 : kT S2 a0 = 7 := by rw [hS2]; exact hk1
  refine gd_aload_n (pc := 5) X 0 dX6_operationCount_5 rfl ?_
  refine gd_iload_n (pc := 6) X 1 dX6_operationCount_6 rfl ?_
  refine gd_callV (pc := 7) (As := [.int a1]) (rest := []) X (ct_X6_isTransaction l G S2 a0 a1 _ h) mw_X6_isTransaction tw_1109 ci6 rfl hk3 ⟨(Nat.le_of_ble_eq_true rfl), (Nat.le_of_ble_eq_true rfl)⟩ rfl rfl (Nat.le_of_ble_eq_true rfl) dX6_operationCount_7 ⟨Nat.le_of_ble_eq_true rfl, Nat.le_of_ble_eq_true rfl⟩ (kI (fun r5 S4 h => ?_))
  refine gd_wide (k2 := 0) (j2 := 0) (Nat.le_of_ble_eq_true rfl) (Nat.le_of_ble_eq_true rfl) ?_
  refine gd_if_eq (pc := 10) X 22 dX6_operationCount_10 (by decide) (fun hc12 => ?_) (fun hc12 => ?_)
  · have h := h.1 hc12
    refine gd_aload_n (pc := 22) X 0 dX6_operationCount_22 rfl ?_
    refine gd_iconst (pc := 23) X (1) dX6_operationCount_23 (by decide) ?_
    obtain ⟨hk6, h⟩ := h
    refine gd_callV (pc := 24) (As := [.int 1]) (rest := []) X (ct_X6_fail l G S4 a0 1 _ h) mw_X6_fail tw_1101 ci6 rfl hk6 ⟨(Nat.le_of_ble_eq_true rfl), (Nat.le_of_ble_eq_true rfl)⟩ rfl rfl (Nat.le_of_ble_eq_true rfl) dX6_operationCount_24 ⟨Nat.le_of_ble_eq_true rfl, Nat.le_of_ble_eq_true rfl⟩ (kI (fun r8 S7 h => ?_))
    refine gd_wide (k2 := 0) (j2 := 0) (Nat.le_of_ble_eq_true rfl) (Nat.le_of_ble_eq_true rfl) ?_
    exact g27 _ _ _ _ h
  · have h := h.2 hc12
    refine gd_aload_n (pc := 13) X 0 dX6_operationCount_13 rfl ?_
    obtain ⟨hk9, h⟩ := h
    refine gd_getR (pc := 14) (kf := 7) X ci6 (by decide) rfl tw_990 dX6_operationCount_14 hk9 ?_
    refine gd_iload_n (pc := 17) X 1 dX6_operationCount_17 rfl ?_
    obtain ⟨hk10, h⟩ := h
    obtain ⟨hi11, h⟩ := h
    refine gd_iald (pc := 18) X dX6_operationCount_18 hk10 hi11 ?_
    refine gd_goto (pc := 19) X 27 dX6_operationCount_19 (by decide) ?_
    exact g27 _ _ _ _ h
abbrev rm_X6_recordedKeys : Room := { frames := 2, cells := 0, slots := 0, locals := 43 }
def b_X6_recordedKeys_52 (KH23 : MS → Nat → Int32 → Int32 → Int32 → Prop) (post : Int32 → MS → Prop) (S : MS) (l0 : Nat) (l1 : Int32) (l2 : Int32) (l3 : Int32) (s0 : Int32) (s1 : Int32) : Prop := ∀ v1 : Int32, v1 = s1 ||| s0 → ∀ v2 : Int32, v2 = l3 + 1 → KH23 S l0 l1 v1 v2
def b_X6_recordedKeys_23 (post : Int32 → MS → Prop) : Nat → MS → Nat → Int32 → Int32 → Int32 → Prop
  | 0 => fun _ _ _ _ _ => False
  | f + 1 => fun S l0 l1 l2 l3 => ((32 ≤ l3 → post l2 S) ∧ (¬ 32 ≤ l3 → kT S l0 = 7 ∧ kT S (sR S l0 9) = 9 ∧ vp_in ((32 * l1) + l3) (kL S (sR S l0 9)) ∧ ((¬ (sI S (sR S l0 9) (ix ((32 * l1) + l3))) = ((-1)) → b_X6_recordedKeys_52 (b_X6_recordedKeys_23 post f) post S l0 l1 l2 l3 (1 <<< (l3 &&& 31)) l2) ∧ ((sI S (sR S l0 9) (ix ((32 * l1) + l3))) = ((-1)) → b_X6_recordedKeys_52 (b_X6_recordedKeys_23 post f) post S l0 l1 l2 l3 0 l2))))
def w_X6_recordedKeys (S : MS) (a0 : Nat) (a1 : Int32) (post : Int32 → MS → Prop) : Prop := kT S a0 = 7 ∧ ∀ S2 : MS, S2 = pI S a0 0 0 → w_X6_isTransaction S2 a0 a1 (fun r5 S4 => ((¬ r5 = 0 → ∃ f23, b_X6_recordedKeys_23 post f23 S4 a0 a1 0 0) ∧ (r5 = 0 → kT S4 a0 = 7 ∧ w_X6_fail S4 a0 1 (fun r8 S7 => post r8 S7))))
set_option maxHeartbeats 4000000 in
set_option maxRecDepth 100000 in
theorem ct_X6_recordedKeys (l : Launch) (G : GP) (S : MS) (a0 : Nat) (a1 : Int32) (post : Int32 → MS → Prop) (h : w_X6_recordedKeys S a0 a1 post) : MetM l yX6_recordedKeys cX6_recordedKeys 4 (some .int) rm_X6_recordedKeys [rf a0, .int a1] G S (pI_ post) := by
  refine met_of (by decide) (cat1_r (cat1_i cat1_n)) (Nat.le_of_ble_eq_true rfl) ?_
  intro p e s m args below meth c X hr hlk hin
  revert h
  have g52 : ∀ (KH23 : MS → Nat → Int32 → Int32 → Int32 → Prop) (hKH23 : ∀ (S : MS) (l0 : Nat) (l1 : Int32) (l2 : Int32) (l3 : Int32), KH23 S l0 l1 l2 l3 → Gd p l e rm_X6_recordedKeys s m args below meth c 4 G (MQ below (QcM G (pI_ post)) args s rm_X6_recordedKeys.cells rm_X6_recordedKeys.slots (Ab G)) 0 0 S 23 [(0, rf l0), (1, .int l1), (2, .int l2), (3, .int l3)] []) (S : MS) (l0 : Nat) (l1 : Int32) (l2 : Int32) (l3 : Int32) (s0 : Int32) (s1 : Int32), b_X6_recordedKeys_52 KH23 post S l0 l1 l2 l3 s0 s1 → Gd p l e rm_X6_recordedKeys s m args below meth c 4 G (MQ below (QcM G (pI_ post)) args s rm_X6_recordedKeys.cells rm_X6_recordedKeys.slots (Ab G)) 0 0 S 52 [(0, rf l0), (1, .int l1), (2, .int l2), (3, .int l3)] [.int s0, .int s1] := by
    intro KH23 hKH23 S l0 l1 l2 l3 s0 s1 h
    refine gd_ior (pc := 52) X dX6_recordedKeys_52 ?_
    refine gd_topI (fun v1 hv1 => ?_)
    have h := h v1 hv1
    refine gd_istore_n (pc := 53) X dX6_recordedKeys_53 (by decide) (E2 := [(2, .int v1), (0, rf l0), (1, .int l1), (3, .int l3)]) rfl ?_
    obtain ⟨v2, hv2⟩ : ∃ z : Int32, z = l3 + 1 := ⟨_, rfl⟩
    have h := h v2 hv2
    refine gd_iinc (pc := 54) (v := v2) X 3 dX6_recordedKeys_54 rfl (by rw [hv2]; rfl) (by decide) (E2 := [(3, .int v2), (2, .int v1), (0, rf l0), (1, .int l1)]) rfl ?_
    refine gd_goto (pc := 57) X 23 dX6_recordedKeys_57 (by decide) ?_
    refine gd_sub [2, 3, 1, 0] rfl ?_
    exact hKH23 _ _ _ _ _ h
  have g23 : ∀ (f : Nat) (S : MS) (l0 : Nat) (l1 : Int32) (l2 : Int32) (l3 : Int32), b_X6_recordedKeys_23 post f S l0 l1 l2 l3 → Gd p l e rm_X6_recordedKeys s m args below meth c 4 G (MQ below (QcM G (pI_ post)) args s rm_X6_recordedKeys.cells rm_X6_recordedKeys.slots (Ab G)) 0 0 S 23 [(0, rf l0), (1, .int l1), (2, .int l2), (3, .int l3)] [] := by
    intro f
    induction f with
    | zero => intro S l0 l1 l2 l3 h; exact h.elim
    | succ f ih =>
      intro S l0 l1 l2 l3 h
      refine gd_iload_n (pc := 23) X 3 dX6_recordedKeys_23 rfl ?_
      refine gd_bipush (pc := 24) X (32) dX6_recordedKeys_24 (by decide) ?_
      refine gd_icmp_ge (pc := 26) X 60 dX6_recordedKeys_26 (by decide) (fun hc5 => ?_) (fun hc5 => ?_)
      · have h := h.1 hc5
        refine gd_iload_n (pc := 60) X 2 dX6_recordedKeys_60 rfl ?_
        exact (gd_ret_i (pc := 61) X hr hlk rfl (by decide) (by decide) dX6_recordedKeys_61 ⟨_, rfl, h⟩)
      · have h := h.2 hc5
        refine gd_iload_n (pc := 29) X 2 dX6_recordedKeys_29 rfl ?_
        refine gd_aload_n (pc := 30) X 0 dX6_recordedKeys_30 rfl ?_
        obtain ⟨hk1, h⟩ := h
        refine gd_getR (pc := 31) (kf := 9) X ci6 (by decide) rfl tw_992 dX6_recordedKeys_31 hk1 ?_
        refine gd_bipush (pc := 34) X (32) dX6_recordedKeys_34 (by decide) ?_
        refine gd_iload_n (pc := 36) X 1 dX6_recordedKeys_36 rfl ?_
        refine gd_imul (pc := 37) X dX6_recordedKeys_37 ?_
        refine gd_iload_n (pc := 38) X 3 dX6_recordedKeys_38 rfl ?_
        refine gd_iadd (pc := 39) X dX6_recordedKeys_39 ?_
        obtain ⟨hk2, h⟩ := h
        obtain ⟨hi3, h⟩ := h
        refine gd_iald (pc := 40) X dX6_recordedKeys_40 hk2 hi3 ?_
        refine gd_iconst (pc := 41) X (-1) dX6_recordedKeys_41 (by decide) ?_
        refine gd_icmp_ne (pc := 42) X 49 dX6_recordedKeys_42 (by decide) (fun hc4 => ?_) (fun hc4 => ?_)
        · have h := h.1 hc4
          refine gd_iconst (pc := 49) X (1) dX6_recordedKeys_49 (by decide) ?_
          refine gd_iload_n (pc := 50) X 3 dX6_recordedKeys_50 rfl ?_
          refine gd_ishl (pc := 51) X dX6_recordedKeys_51 ?_
          exact g52 _ ih _ _ _ _ _ _ _ h
        · have h := h.2 hc4
          refine gd_iconst (pc := 45) X (0) dX6_recordedKeys_45 (by decide) ?_
          refine gd_goto (pc := 46) X 52 dX6_recordedKeys_46 (by decide) ?_
          exact g52 _ ih _ _ _ _ _ _ _ h
  intro h
  refine gd_aload_n (pc := 0) X 0 dX6_recordedKeys_0 rfl ?_
  refine gd_iconst (pc := 1) X (0) dX6_recordedKeys_1 (by decide) ?_
  obtain ⟨hk1, h⟩ := h
  refine gd_putI (pc := 2) (kf := 0) X ci6 (by decide) rfl rfl tw_983 rfl rfl dX6_recordedKeys_2 hk1 ?_
  refine gd_topS (fun S2 hS2 => ?_)
  have h := h S2 hS2
  have hk3 : kT S2 a0 = 7 := by rw [hS2]; exact hk1
  refine gd_aload_n (pc := 5) X 0 dX6_recordedKeys_5 rfl ?_
  refine gd_iload_n (pc := 6) X 1 dX6_recordedKeys_6 rfl ?_
  refine gd_callV (pc := 7) (As := [.int a1]) (rest := []) X (ct_X6_isTransaction l G S2 a0 a1 _ h) mw_X6_isTransaction tw_1109 ci6 rfl hk3 ⟨(Nat.le_of_ble_eq_true rfl), (Nat.le_of_ble_eq_true rfl)⟩ rfl rfl (Nat.le_of_ble_eq_true rfl) dX6_recordedKeys_7 ⟨Nat.le_of_ble_eq_true rfl, Nat.le_of_ble_eq_true rfl⟩ (kI (fun r5 S4 h => ?_))
  refine gd_wide (k2 := 0) (j2 := 0) (Nat.le_of_ble_eq_true rfl) (Nat.le_of_ble_eq_true rfl) ?_
  refine gd_if_ne (pc := 10) X 19 dX6_recordedKeys_10 (by decide) (fun hc9 => ?_) (fun hc9 => ?_)
  · have h := h.1 hc9
    refine gd_iconst (pc := 19) X (0) dX6_recordedKeys_19 (by decide) ?_
    refine gd_istore_n (pc := 20) X dX6_recordedKeys_20 (by decide) (E2 := [(2, .int 0), (0, rf a0), (1, .int a1)]) rfl ?_
    refine gd_iconst (pc := 21) X (0) dX6_recordedKeys_21 (by decide) ?_
    refine gd_istore_n (pc := 22) X dX6_recordedKeys_22 (by decide) (E2 := [(3, .int 0), (2, .int 0), (0, rf a0), (1, .int a1)]) rfl ?_
    refine gd_sub [2, 3, 1, 0] rfl ?_
    obtain ⟨f23, h⟩ := h
    exact g23 f23 _ _ _ _ _ h
  · have h := h.2 hc9
    refine gd_aload_n (pc := 13) X 0 dX6_recordedKeys_13 rfl ?_
    refine gd_iconst (pc := 14) X (1) dX6_recordedKeys_14 (by decide) ?_
    obtain ⟨hk6, h⟩ := h
    refine gd_callV (pc := 15) (As := [.int 1]) (rest := []) X (ct_X6_fail l G S4 a0 1 _ h) mw_X6_fail tw_1101 ci6 rfl hk6 ⟨(Nat.le_of_ble_eq_true rfl), (Nat.le_of_ble_eq_true rfl)⟩ rfl rfl (Nat.le_of_ble_eq_true rfl) dX6_recordedKeys_15 ⟨Nat.le_of_ble_eq_true rfl, Nat.le_of_ble_eq_true rfl⟩ (kI (fun r8 S7 h => ?_))
    refine gd_wide (k2 := 0) (j2 := 0) (Nat.le_of_ble_eq_true rfl) (Nat.le_of_ble_eq_true rfl) ?_
    exact (gd_ret_i (pc := 18) X hr hlk rfl (by decide) (by decide) dX6_recordedKeys_18 ⟨_, rfl, h⟩)
abbrev rm_X6_predicateCount : Room := { frames := 2, cells := 0, slots := 0, locals := 43 }
def b_X6_predicateCount_27 (post : Int32 → MS → Prop) (S : MS) (l0 : Nat) (l1 : Int32) (s0 : Int32) : Prop := post s0 S
def w_X6_predicateCount (S : MS) (a0 : Nat) (a1 : Int32) (post : Int32 → MS → Prop) : Prop := kT S a0 = 7 ∧ ∀ S2 : MS, S2 = pI S a0 0 0 → w_X6_isTransaction S2 a0 a1 (fun r5 S4 => ((r5 = 0 → kT S4 a0 = 7 ∧ w_X6_fail S4 a0 1 (fun r8 S7 => b_X6_predicateCount_27 post S7 a0 a1 r8)) ∧ (¬ r5 = 0 → kT S4 a0 = 7 ∧ kT S4 (sR S4 a0 12) = 9 ∧ vp_in a1 (kL S4 (sR S4 a0 12)) ∧ b_X6_predicateCount_27 post S4 a0 a1 (sI S4 (sR S4 a0 12) (ix a1)))))
set_option maxHeartbeats 4000000 in
set_option maxRecDepth 100000 in
theorem ct_X6_predicateCount (l : Launch) (G : GP) (S : MS) (a0 : Nat) (a1 : Int32) (post : Int32 → MS → Prop) (h : w_X6_predicateCount S a0 a1 post) : MetM l yX6_predicateCount cX6_predicateCount 2 (some .int) rm_X6_predicateCount [rf a0, .int a1] G S (pI_ post) := by
  refine met_of (by decide) (cat1_r (cat1_i cat1_n)) (Nat.le_of_ble_eq_true rfl) ?_
  intro p e s m args below meth c X hr hlk hin
  revert h
  have g27 : ∀ (S : MS) (l0 : Nat) (l1 : Int32) (s0 : Int32), b_X6_predicateCount_27 post S l0 l1 s0 → Gd p l e rm_X6_predicateCount s m args below meth c 2 G (MQ below (QcM G (pI_ post)) args s rm_X6_predicateCount.cells rm_X6_predicateCount.slots (Ab G)) 0 0 S 27 [(0, rf l0), (1, .int l1)] [.int s0] := by
    intro S l0 l1 s0 h
    exact (gd_ret_i (pc := 27) X hr hlk rfl (by decide) (by decide) dX6_predicateCount_27 ⟨_, rfl, h⟩)
  intro h
  refine gd_aload_n (pc := 0) X 0 dX6_predicateCount_0 rfl ?_
  refine gd_iconst (pc := 1) X (0) dX6_predicateCount_1 (by decide) ?_
  obtain ⟨hk1, h⟩ := h
  refine gd_putI (pc := 2) (kf := 0) X ci6 (by decide) rfl rfl tw_983 rfl rfl dX6_predicateCount_2 hk1 ?_
  refine gd_topS (fun S2 hS2 => ?_)
  have h := h S2 hS2
  have hk3 : kT S2 a0 = 7 := by rw [hS2]; exact hk1
  refine gd_aload_n (pc := 5) X 0 dX6_predicateCount_5 rfl ?_
  refine gd_iload_n (pc := 6) X 1 dX6_predicateCount_6 rfl ?_
  refine gd_callV (pc := 7) (As := [.int a1]) (rest := []) X (ct_X6_isTransaction l G S2 a0 a1 _ h) mw_X6_isTransaction tw_1109 ci6 rfl hk3 ⟨(Nat.le_of_ble_eq_true rfl), (Nat.le_of_ble_eq_true rfl)⟩ rfl rfl (Nat.le_of_ble_eq_true rfl) dX6_predicateCount_7 ⟨Nat.le_of_ble_eq_true rfl, Nat.le_of_ble_eq_true rfl⟩ (kI (fun r5 S4 h => ?_))
  refine gd_wide (k2 := 0) (j2 := 0) (Nat.le_of_ble_eq_true rfl) (Nat.le_of_ble_eq_true rfl) ?_
  refine gd_if_eq (pc := 10) X 22 dX6_predicateCount_10 (by decide) (fun hc12 => ?_) (fun hc12 => ?_)
  · have h := h.1 hc12
    refine gd_aload_n (pc := 22) X 0 dX6_predicateCount_22 rfl ?_
    refine gd_iconst (pc := 23) X (1) dX6_predicateCount_23 (by decide) ?_
    obtain ⟨hk6, h⟩ := h
    refine gd_callV (pc := 24) (As := [.int 1]) (rest := []) X (ct_X6_fail l G S4 a0 1 _ h) mw_X6_fail tw_1101 ci6 rfl hk6 ⟨(Nat.le_of_ble_eq_true rfl), (Nat.le_of_ble_eq_true rfl)⟩ rfl rfl (Nat.le_of_ble_eq_true rfl) dX6_predicateCount_24 ⟨Nat.le_of_ble_eq_true rfl, Nat.le_of_ble_eq_true rfl⟩ (kI (fun r8 S7 h => ?_))
    refine gd_wide (k2 := 0) (j2 := 0) (Nat.le_of_ble_eq_true rfl) (Nat.le_of_ble_eq_true rfl) ?_
    exact g27 _ _ _ _ h
  · have h := h.2 hc12
    refine gd_aload_n (pc := 13) X 0 dX6_predicateCount_13 rfl ?_
    obtain ⟨hk9, h⟩ := h
    refine gd_getR (pc := 14) (kf := 12) X ci6 (by decide) rfl tw_995 dX6_predicateCount_14 hk9 ?_
    refine gd_iload_n (pc := 17) X 1 dX6_predicateCount_17 rfl ?_
    obtain ⟨hk10, h⟩ := h
    obtain ⟨hi11, h⟩ := h
    refine gd_iald (pc := 18) X dX6_predicateCount_18 hk10 hi11 ?_
    refine gd_goto (pc := 19) X 27 dX6_predicateCount_19 (by decide) ?_
    exact g27 _ _ _ _ h
abbrev rm_X6_writtenKeys : Room := { frames := 2, cells := 0, slots := 0, locals := 43 }
def b_X6_writtenKeys_54 (KH23 : MS → Nat → Int32 → Int32 → Int32 → Prop) (post : Int32 → MS → Prop) (S : MS) (l0 : Nat) (l1 : Int32) (l2 : Int32) (l3 : Int32) (s0 : Int32) (s1 : Int32) : Prop := ∀ v1 : Int32, v1 = s1 ||| s0 → ∀ v2 : Int32, v2 = l3 + 1 → KH23 S l0 l1 v1 v2
def b_X6_writtenKeys_23 (post : Int32 → MS → Prop) : Nat → MS → Nat → Int32 → Int32 → Int32 → Prop
  | 0 => fun _ _ _ _ _ => False
  | f + 1 => fun S l0 l1 l2 l3 => ((32 ≤ l3 → post l2 S) ∧ (¬ 32 ≤ l3 → kT S l0 = 7 ∧ kT S (sR S l0 10) = 9 ∧ vp_in ((32 * l1) + l3) (kL S (sR S l0 10)) ∧ ((¬ (sI S (sR S l0 10) (ix ((32 * l1) + l3))) = ((-5000)) → b_X6_writtenKeys_54 (b_X6_writtenKeys_23 post f) post S l0 l1 l2 l3 (1 <<< (l3 &&& 31)) l2) ∧ ((sI S (sR S l0 10) (ix ((32 * l1) + l3))) = ((-5000)) → b_X6_writtenKeys_54 (b_X6_writtenKeys_23 post f) post S l0 l1 l2 l3 0 l2))))
def w_X6_writtenKeys (S : MS) (a0 : Nat) (a1 : Int32) (post : Int32 → MS → Prop) : Prop := kT S a0 = 7 ∧ ∀ S2 : MS, S2 = pI S a0 0 0 → w_X6_isTransaction S2 a0 a1 (fun r5 S4 => ((¬ r5 = 0 → ∃ f23, b_X6_writtenKeys_23 post f23 S4 a0 a1 0 0) ∧ (r5 = 0 → kT S4 a0 = 7 ∧ w_X6_fail S4 a0 1 (fun r8 S7 => post r8 S7))))
set_option maxHeartbeats 4000000 in
set_option maxRecDepth 100000 in
theorem ct_X6_writtenKeys (l : Launch) (G : GP) (S : MS) (a0 : Nat) (a1 : Int32) (post : Int32 → MS → Prop) (h : w_X6_writtenKeys S a0 a1 post) : MetM l yX6_writtenKeys cX6_writtenKeys 4 (some .int) rm_X6_writtenKeys [rf a0, .int a1] G S (pI_ post) := by
  refine met_of (by decide) (cat1_r (cat1_i cat1_n)) (Nat.le_of_ble_eq_true rfl) ?_
  intro p e s m args below meth c X hr hlk hin
  revert h
  have g54 : ∀ (KH23 : MS → Nat → Int32 → Int32 → Int32 → Prop) (hKH23 : ∀ (S : MS) (l0 : Nat) (l1 : Int32) (l2 : Int32) (l3 : Int32), KH23 S l0 l1 l2 l3 → Gd p l e rm_X6_writtenKeys s m args below meth c 4 G (MQ below (QcM G (pI_ post)) args s rm_X6_writtenKeys.cells rm_X6_writtenKeys.slots (Ab G)) 0 0 S 23 [(0, rf l0), (1, .int l1), (2, .int l2), (3, .int l3)] []) (S : MS) (l0 : Nat) (l1 : Int32) (l2 : Int32) (l3 : Int32) (s0 : Int32) (s1 : Int32), b_X6_writtenKeys_54 KH23 post S l0 l1 l2 l3 s0 s1 → Gd p l e rm_X6_writtenKeys s m args below meth c 4 G (MQ below (QcM G (pI_ post)) args s rm_X6_writtenKeys.cells rm_X6_writtenKeys.slots (Ab G)) 0 0 S 54 [(0, rf l0), (1, .int l1), (2, .int l2), (3, .int l3)] [.int s0, .int s1] := by
    intro KH23 hKH23 S l0 l1 l2 l3 s0 s1 h
    refine gd_ior (pc := 54) X dX6_writtenKeys_54 ?_
    refine gd_topI (fun v1 hv1 => ?_)
    have h := h v1 hv1
    refine gd_istore_n (pc := 55) X dX6_writtenKeys_55 (by decide) (E2 := [(2, .int v1), (0, rf l0), (1, .int l1), (3, .int l3)]) rfl ?_
    obtain ⟨v2, hv2⟩ : ∃ z : Int32, z = l3 + 1 := ⟨_, rfl⟩
    have h := h v2 hv2
    refine gd_iinc (pc := 56) (v := v2) X 3 dX6_writtenKeys_56 rfl (by rw [hv2]; rfl) (by decide) (E2 := [(3, .int v2), (2, .int v1), (0, rf l0), (1, .int l1)]) rfl ?_
    refine gd_goto (pc := 59) X 23 dX6_writtenKeys_59 (by decide) ?_
    refine gd_sub [2, 3, 1, 0] rfl ?_
    exact hKH23 _ _ _ _ _ h
  have g23 : ∀ (f : Nat) (S : MS) (l0 : Nat) (l1 : Int32) (l2 : Int32) (l3 : Int32), b_X6_writtenKeys_23 post f S l0 l1 l2 l3 → Gd p l e rm_X6_writtenKeys s m args below meth c 4 G (MQ below (QcM G (pI_ post)) args s rm_X6_writtenKeys.cells rm_X6_writtenKeys.slots (Ab G)) 0 0 S 23 [(0, rf l0), (1, .int l1), (2, .int l2), (3, .int l3)] [] := by
    intro f
    induction f with
    | zero => intro S l0 l1 l2 l3 h; exact h.elim
    | succ f ih =>
      intro S l0 l1 l2 l3 h
      refine gd_iload_n (pc := 23) X 3 dX6_writtenKeys_23 rfl ?_
      refine gd_bipush (pc := 24) X (32) dX6_writtenKeys_24 (by decide) ?_
      refine gd_icmp_ge (pc := 26) X 62 dX6_writtenKeys_26 (by decide) (fun hc5 => ?_) (fun hc5 => ?_)
      · have h := h.1 hc5
        refine gd_iload_n (pc := 62) X 2 dX6_writtenKeys_62 rfl ?_
        exact (gd_ret_i (pc := 63) X hr hlk rfl (by decide) (by decide) dX6_writtenKeys_63 ⟨_, rfl, h⟩)
      · have h := h.2 hc5
        refine gd_iload_n (pc := 29) X 2 dX6_writtenKeys_29 rfl ?_
        refine gd_aload_n (pc := 30) X 0 dX6_writtenKeys_30 rfl ?_
        obtain ⟨hk1, h⟩ := h
        refine gd_getR (pc := 31) (kf := 10) X ci6 (by decide) rfl tw_993 dX6_writtenKeys_31 hk1 ?_
        refine gd_bipush (pc := 34) X (32) dX6_writtenKeys_34 (by decide) ?_
        refine gd_iload_n (pc := 36) X 1 dX6_writtenKeys_36 rfl ?_
        refine gd_imul (pc := 37) X dX6_writtenKeys_37 ?_
        refine gd_iload_n (pc := 38) X 3 dX6_writtenKeys_38 rfl ?_
        refine gd_iadd (pc := 39) X dX6_writtenKeys_39 ?_
        obtain ⟨hk2, h⟩ := h
        obtain ⟨hi3, h⟩ := h
        refine gd_iald (pc := 40) X dX6_writtenKeys_40 hk2 hi3 ?_
        refine gd_sipush (pc := 41) X (-5000) dX6_writtenKeys_41 (by decide) ?_
        refine gd_icmp_ne (pc := 44) X 51 dX6_writtenKeys_44 (by decide) (fun hc4 => ?_) (fun hc4 => ?_)
        · have h := h.1 hc4
          refine gd_iconst (pc := 51) X (1) dX6_writtenKeys_51 (by decide) ?_
          refine gd_iload_n (pc := 52) X 3 dX6_writtenKeys_52 rfl ?_
          refine gd_ishl (pc := 53) X dX6_writtenKeys_53 ?_
          exact g54 _ ih _ _ _ _ _ _ _ h
        · have h := h.2 hc4
          refine gd_iconst (pc := 47) X (0) dX6_writtenKeys_47 (by decide) ?_
          refine gd_goto (pc := 48) X 54 dX6_writtenKeys_48 (by decide) ?_
          exact g54 _ ih _ _ _ _ _ _ _ h
  intro h
  refine gd_aload_n (pc := 0) X 0 dX6_writtenKeys_0 rfl ?_
  refine gd_iconst (pc := 1) X (0) dX6_writtenKeys_1 (by decide) ?_
  obtain ⟨hk1, h⟩ := h
  refine gd_putI (pc := 2) (kf := 0) X ci6 (by decide) rfl rfl tw_983 rfl rfl dX6_writtenKeys_2 hk1 ?_
  refine gd_topS (fun S2 hS2 => ?_)
  have h := h S2 hS2
  have hk3 : kT S2 a0 = 7 := by rw [hS2]; exact hk1
  refine gd_aload_n (pc := 5) X 0 dX6_writtenKeys_5 rfl ?_
  refine gd_iload_n (pc := 6) X 1 dX6_writtenKeys_6 rfl ?_
  refine gd_callV (pc := 7) (As := [.int a1]) (rest := []) X (ct_X6_isTransaction l G S2 a0 a1 _ h) mw_X6_isTransaction tw_1109 ci6 rfl hk3 ⟨(Nat.le_of_ble_eq_true rfl), (Nat.le_of_ble_eq_true rfl)⟩ rfl rfl (Nat.le_of_ble_eq_true rfl) dX6_writtenKeys_7 ⟨Nat.le_of_ble_eq_true rfl, Nat.le_of_ble_eq_true rfl⟩ (kI (fun r5 S4 h => ?_))
  refine gd_wide (k2 := 0) (j2 := 0) (Nat.le_of_ble_eq_true rfl) (Nat.le_of_ble_eq_true rfl) ?_
  refine gd_if_ne (pc := 10) X 19 dX6_writtenKeys_10 (by decide) (fun hc9 => ?_) (fun hc9 => ?_)
  · have h := h.1 hc9
    refine gd_iconst (pc := 19) X (0) dX6_writtenKeys_19 (by decide) ?_
    refine gd_istore_n (pc := 20) X dX6_writtenKeys_20 (by decide) (E2 := [(2, .int 0), (0, rf a0), (1, .int a1)]) rfl ?_
    refine gd_iconst (pc := 21) X (0) dX6_writtenKeys_21 (by decide) ?_
    refine gd_istore_n (pc := 22) X dX6_writtenKeys_22 (by decide) (E2 := [(3, .int 0), (2, .int 0), (0, rf a0), (1, .int a1)]) rfl ?_
    refine gd_sub [2, 3, 1, 0] rfl ?_
    obtain ⟨f23, h⟩ := h
    exact g23 f23 _ _ _ _ _ h
  · have h := h.2 hc9
    refine gd_aload_n (pc := 13) X 0 dX6_writtenKeys_13 rfl ?_
    refine gd_iconst (pc := 14) X (1) dX6_writtenKeys_14 (by decide) ?_
    obtain ⟨hk6, h⟩ := h
    refine gd_callV (pc := 15) (As := [.int 1]) (rest := []) X (ct_X6_fail l G S4 a0 1 _ h) mw_X6_fail tw_1101 ci6 rfl hk6 ⟨(Nat.le_of_ble_eq_true rfl), (Nat.le_of_ble_eq_true rfl)⟩ rfl rfl (Nat.le_of_ble_eq_true rfl) dX6_writtenKeys_15 ⟨Nat.le_of_ble_eq_true rfl, Nat.le_of_ble_eq_true rfl⟩ (kI (fun r8 S7 h => ?_))
    refine gd_wide (k2 := 0) (j2 := 0) (Nat.le_of_ble_eq_true rfl) (Nat.le_of_ble_eq_true rfl) ?_
    exact (gd_ret_i (pc := 18) X hr hlk rfl (by decide) (by decide) dX6_writtenKeys_18 ⟨_, rfl, h⟩)
abbrev rm_X6_value : Room := { frames := 2, cells := 0, slots := 0, locals := 42 }
def b_X6_value_29 (post : Int32 → MS → Prop) (S : MS) (l0 : Nat) (l1 : Int32) (s0 : Int32) : Prop := post s0 S
def w_X6_value (S : MS) (a0 : Nat) (a1 : Int32) (post : Int32 → MS → Prop) : Prop := kT S a0 = 7 ∧ ∀ S2 : MS, S2 = pI S a0 0 0 → w_X6_isKey S2 a1 (fun r5 S4 => ((r5 = 0 → kT S4 a0 = 7 ∧ w_X6_fail S4 a0 1 (fun r8 S7 => b_X6_value_29 post S7 a0 a1 r8)) ∧ (¬ r5 = 0 → kT S4 a0 = 7 ∧ w_X6_stored S4 a0 (sI S4 a0 14) a1 (fun r11 S10 => b_X6_value_29 post S10 a0 a1 r11))))
set_option maxHeartbeats 4000000 in
set_option maxRecDepth 100000 in
theorem ct_X6_value (l : Launch) (G : GP) (S : MS) (a0 : Nat) (a1 : Int32) (post : Int32 → MS → Prop) (h : w_X6_value S a0 a1 post) : MetM l yX6_value cX6_value 2 (some .int) rm_X6_value [rf a0, .int a1] G S (pI_ post) := by
  refine met_of (by decide) (cat1_r (cat1_i cat1_n)) (Nat.le_of_ble_eq_true rfl) ?_
  intro p e s m args below meth c X hr hlk hin
  revert h
  have g29 : ∀ (S : MS) (l0 : Nat) (l1 : Int32) (s0 : Int32), b_X6_value_29 post S l0 l1 s0 → Gd p l e rm_X6_value s m args below meth c 2 G (MQ below (QcM G (pI_ post)) args s rm_X6_value.cells rm_X6_value.slots (Ab G)) 0 0 S 29 [(0, rf l0), (1, .int l1)] [.int s0] := by
    intro S l0 l1 s0 h
    exact (gd_ret_i (pc := 29) X hr hlk rfl (by decide) (by decide) dX6_value_29 ⟨_, rfl, h⟩)
  intro h
  refine gd_aload_n (pc := 0) X 0 dX6_value_0 rfl ?_
  refine gd_iconst (pc := 1) X (0) dX6_value_1 (by decide) ?_
  obtain ⟨hk1, h⟩ := h
  refine gd_putI (pc := 2) (kf := 0) X ci6 (by decide) rfl rfl tw_983 rfl rfl dX6_value_2 hk1 ?_
  refine gd_topS (fun S2 hS2 => ?_)
  have h := h S2 hS2
  have hk3 : kT S2 a0 = 7 := by rw [hS2]; exact hk1
  refine gd_iload_n (pc := 5) X 1 dX6_value_5 rfl ?_
  refine gd_callS (pc := 6) (As := [.int a1]) (rest := []) X (ct_X6_isKey l G S2 a1 _ h) mw_X6_isKey tw_1117 ⟨(Nat.le_of_ble_eq_true rfl), (Nat.le_of_ble_eq_true rfl)⟩ rfl rfl (Nat.le_of_ble_eq_true rfl) dX6_value_6 ⟨Nat.le_of_ble_eq_true rfl, Nat.le_of_ble_eq_true rfl⟩ (kI (fun r5 S4 h => ?_))
  refine gd_wide (k2 := 0) (j2 := 0) (Nat.le_of_ble_eq_true rfl) (Nat.le_of_ble_eq_true rfl) ?_
  refine gd_if_eq (pc := 9) X 24 dX6_value_9 (by decide) (fun hc12 => ?_) (fun hc12 => ?_)
  · have h := h.1 hc12
    refine gd_aload_n (pc := 24) X 0 dX6_value_24 rfl ?_
    refine gd_iconst (pc := 25) X (1) dX6_value_25 (by decide) ?_
    obtain ⟨hk6, h⟩ := h
    refine gd_callV (pc := 26) (As := [.int 1]) (rest := []) X (ct_X6_fail l G S4 a0 1 _ h) mw_X6_fail tw_1101 ci6 rfl hk6 ⟨(Nat.le_of_ble_eq_true rfl), (Nat.le_of_ble_eq_true rfl)⟩ rfl rfl (Nat.le_of_ble_eq_true rfl) dX6_value_26 ⟨Nat.le_of_ble_eq_true rfl, Nat.le_of_ble_eq_true rfl⟩ (kI (fun r8 S7 h => ?_))
    refine gd_wide (k2 := 0) (j2 := 0) (Nat.le_of_ble_eq_true rfl) (Nat.le_of_ble_eq_true rfl) ?_
    exact g29 _ _ _ _ h
  · have h := h.2 hc12
    refine gd_aload_n (pc := 12) X 0 dX6_value_12 rfl ?_
    refine gd_aload_n (pc := 13) X 0 dX6_value_13 rfl ?_
    obtain ⟨hk9, h⟩ := h
    refine gd_getI (pc := 14) (kf := 14) X ci6 (by decide) rfl tw_997 dX6_value_14 hk9 ?_
    refine gd_iload_n (pc := 17) X 1 dX6_value_17 rfl ?_
    refine gd_callV (pc := 18) (As := [.int (sI S4 a0 14), .int a1]) (rest := []) X (ct_X6_stored l G S4 a0 (sI S4 a0 14) a1 _ h) mw_X6_stored tw_1132 ci6 rfl hk9 ⟨(Nat.le_of_ble_eq_true rfl), (Nat.le_of_ble_eq_true rfl)⟩ rfl rfl (Nat.le_of_ble_eq_true rfl) dX6_value_18 ⟨Nat.le_of_ble_eq_true rfl, Nat.le_of_ble_eq_true rfl⟩ (kI (fun r11 S10 h => ?_))
    refine gd_wide (k2 := 0) (j2 := 0) (Nat.le_of_ble_eq_true rfl) (Nat.le_of_ble_eq_true rfl) ?_
    refine gd_goto (pc := 21) X 29 dX6_value_21 (by decide) ?_
    exact g29 _ _ _ _ h
