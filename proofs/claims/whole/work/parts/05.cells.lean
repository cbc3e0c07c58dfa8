/-! what the model's updates do to the cells -/
theorem op_ne {a : Nat} (h : a ≠ 0) : op a = some a := by simp [op, h]
theorem fv_congr {S S' : MS} {b : Nat} (hI : ∀ k, sI S' b k = sI S b k) (hR : ∀ k, sR S' b k = sR S b k) : ∀ (bs : List Bool) (k0 : Nat), fv S' b k0 bs = fv S b k0 bs
  | [], _ => rfl
  | x :: bs, k0 => by rw [fv, fv, fv_congr hI hR bs (k0 + 1), hI, hR]
theorem fv_len (S : MS) (a : Nat) : ∀ (bs : List Bool) (k0 : Nat), (fv S a k0 bs).length = bs.length
  | [], _ => rfl
  | x :: bs, k0 => by rw [fv, List.length_cons, fv_len S a bs (k0 + 1), List.length_cons]
theorem fv_getI {S : MS} {a : Nat} : ∀ {bs : List Bool} {k0 i : Nat}, bs[i]? = some false → (fv S a k0 bs)[i]? = some (.int (sI S a (k0 + i)))
  | [], _, i, h => by simp at h
  | x :: bs, k0, 0, h => by
    simp only [List.getElem?_cons_zero, Option.some.injEq] at h
    subst h
    simp [fv]
  | x :: bs, k0, i + 1, h => by
    simp only [List.getElem?_cons_succ] at h
    rw [fv, List.getElem?_cons_succ, fv_getI h, Nat.add_right_comm, Nat.add_assoc]
theorem fv_getR {S : MS} {a : Nat} : ∀ {bs : List Bool} {k0 i : Nat}, bs[i]? = some true → (fv S a k0 bs)[i]? = some (rf (sR S a (k0 + i)))
  | [], _, i, h => by simp at h
  | x :: bs, k0, 0, h => by
    simp only [List.getElem?_cons_zero, Option.some.injEq] at h
    subst h
    simp [fv]
  | x :: bs, k0, i + 1, h => by
    simp only [List.getElem?_cons_succ] at h
    rw [fv, List.getElem?_cons_succ, fv_getR h, Nat.add_right_comm, Nat.add_assoc]
theorem sI_pI (S : MS) (a k : Nat) (v : Int32) (b j : Nat) : sI (pI S a k v) b j = if b = a then (if j = k then v else sI S b j) else sI S b j := rfl
theorem sR_pR (S : MS) (a k v b j : Nat) : sR (pR S a k v) b j = if b = a then (if j = k then v else sR S b j) else sR S b j := rfl
theorem sL_pL (S : MS) (a k : Nat) (v : Int64) (b j : Nat) : sL (pL S a k v) b j = if b = a then (if j = k then v else sL S b j) else sL S b j := rfl
theorem sD_pD (S : MS) (a k : Nat) (v : UInt64) (b j : Nat) : sD (pD S a k v) b j = if b = a then (if j = k then v else sD S b j) else sD S b j := rfl
theorem fv_lo {S : MS} {a : Nat} {v : Int32} : ∀ (bs : List Bool) (k0 k : Nat), k < k0 → fv (pI S a k v) a k0 bs = fv S a k0 bs
  | [], _, _, _ => rfl
  | x :: bs, k0, k, h => by
    rw [fv, fv, fv_lo bs (k0 + 1) k (by omega)]
    have e : sI (pI S a k v) a k0 = sI S a k0 := by rw [sI_pI, if_pos rfl, if_neg (by omega)]
    rw [e]; rfl
theorem fv_setI {S : MS} {a : Nat} {v : Int32} : ∀ {bs : List Bool} {k0 i : Nat}, bs[i]? = some false → (fv S a k0 bs).set i (.int v) = fv (pI S a (k0 + i) v) a k0 bs
  | [], _, i, h => by simp at h
  | x :: bs, k0, 0, h => by
    simp only [List.getElem?_cons_zero, Option.some.injEq] at h
    subst h
    rw [fv, fv, List.set_cons_zero, fv_lo bs (k0 + 1) (k0 + 0) (by omega)]
    simp [sI_pI]
  | x :: bs, k0, i + 1, h => by
    simp only [List.getElem?_cons_succ] at h
    rw [fv, fv, List.set_cons_succ, fv_setI h]
    have e : sI (pI S a (k0 + (i + 1)) v) a k0 = sI S a k0 := by rw [sI_pI, if_pos rfl, if_neg (by omega)]
    rw [e, show k0 + 1 + i = k0 + (i + 1) by omega]; rfl
theorem fv_loR {S : MS} {a v : Nat} : ∀ (bs : List Bool) (k0 k : Nat), k < k0 → fv (pR S a k v) a k0 bs = fv S a k0 bs
  | [], _, _, _ => rfl
  | x :: bs, k0, k, h => by
    rw [fv, fv, fv_loR bs (k0 + 1) k (by omega)]
    have e : sR (pR S a k v) a k0 = sR S a k0 := by rw [sR_pR, if_pos rfl, if_neg (by omega)]
    rw [e]; rfl
theorem fv_setR {S : MS} {a v : Nat} : ∀ {bs : List Bool} {k0 i : Nat}, bs[i]? = some true → (fv S a k0 bs).set i (rf v) = fv (pR S a (k0 + i) v) a k0 bs
  | [], _, i, h => by simp at h
  | x :: bs, k0, 0, h => by
    simp only [List.getElem?_cons_zero, Option.some.injEq] at h
    subst h
    rw [fv, fv, List.set_cons_zero, fv_loR bs (k0 + 1) (k0 + 0) (by omega)]
    simp [sR_pR]
  | x :: bs, k0, i + 1, h => by
    simp only [List.getElem?_cons_succ] at h
    rw [fv, fv, List.set_cons_succ, fv_setR h]
    have e : sR (pR S a (k0 + (i + 1)) v) a k0 = sR S a k0 := by rw [sR_pR, if_pos rfl, if_neg (by omega)]
    rw [e, show k0 + 1 + i = k0 + (i + 1) by omega]; rfl
theorem cell_congr {cy : Nat → ClassId} {S S' : MS} {b : Nat} (hT : kT S' b = kT S b) (hL : kL S' b = kL S b) (hI : sI S' b = sI S b) (hR : sR S' b = sR S b) (hl : sL S' b = sL S b) (hD : sD S' b = sD S b) : cellOf cy S' b = cellOf cy S b := by
  unfold cellOf
  rw [hT, hL, hI, hR, hl, hD, fv_congr (fun k => congrFun hI k) (fun k => congrFun hR k)]
theorem u2_ne {α : Type} (f : Nat → Nat → α) {a b : Nat} (k : Nat) (v : α) (h : b ≠ a) : u2 f a k v b = f b := by
  funext j; simp [u2, h]
theorem cell_pI {cy : Nat → ClassId} {S : MS} {a k : Nat} {v : Int32} {b : Nat} (h : b ≠ a) : cellOf cy (pI S a k v) b = cellOf cy S b := cell_congr rfl rfl (u2_ne _ _ _ h) rfl rfl rfl
theorem cell_pR {cy : Nat → ClassId} {S : MS} {a k v b : Nat} (h : b ≠ a) : cellOf cy (pR S a k v) b = cellOf cy S b := cell_congr rfl rfl rfl (u2_ne _ _ _ h) rfl rfl
theorem cell_pL {cy : Nat → ClassId} {S : MS} {a k : Nat} {v : Int64} {b : Nat} (h : b ≠ a) : cellOf cy (pL S a k v) b = cellOf cy S b := cell_congr rfl rfl rfl rfl (u2_ne _ _ _ h) rfl
theorem cell_pD {cy : Nat → ClassId} {S : MS} {a k : Nat} {v : UInt64} {b : Nat} (h : b ≠ a) : cellOf cy (pD S a k v) b = cellOf cy S b := cell_congr rfl rfl rfl rfl rfl (u2_ne _ _ _ h)
theorem cell_nw {cy : Nat → ClassId} {S : MS} {q t n b : Nat} (h : b ≠ q) : cellOf cy (nw S q t n) b = cellOf cy S b := by
  apply cell_congr
  · simp [kT, nw, h]
  · simp [kL, nw, h]
  · funext k; simp [sI, nw, h]
  · funext k; simp [sR, nw, h]
  · funext k; simp [sL, nw, h]
  · funext k; simp [sD, nw, h]
theorem cell_o {cy : Nat → ClassId} {S : MS} {a ci : Nat} (h : kT S a = ci + 1) (hc : ci < 7) : cellOf cy S a = .inr (ci, fv S a 0 (fl (ci + 1))) := by
  unfold cellOf
  rw [h, if_pos (by omega), Nat.add_sub_cancel]
theorem cell_i {cy : Nat → ClassId} {S : MS} {a t : Nat} (h : kT S a = t) (h1 : 8 ≤ t) (h2 : t ≤ 10) : cellOf cy S a = .inl (cy t, kL S a, .inl (sI S a)) := by
  unfold cellOf
  rw [h, if_neg (by omega), if_pos h2]
theorem cell_q {cy : Nat → ClassId} {S : MS} {a t : Nat} (h : kT S a = t) (h1 : 11 ≤ t) (h2 : t ≤ 14) : cellOf cy S a = .inl (cy t, kL S a, .inr (.inr (.inr (.inr (fun i => op (sR S a i)))))) := by
  unfold cellOf
  rw [h, if_neg (by omega), if_neg (by omega), if_pos h2]
theorem cell_l {cy : Nat → ClassId} {S : MS} {a : Nat} (h : kT S a = 15) : cellOf cy S a = .inl (cy 15, kL S a, .inr (.inl (sL S a))) := by
  unfold cellOf
  rw [h, if_neg (by omega), if_neg (by omega), if_neg (by omega), if_pos rfl]
theorem cell_d {cy : Nat → ClassId} {S : MS} {a : Nat} (h : kT S a = 16) : cellOf cy S a = .inl (cy 16, kL S a, .inr (.inr (.inr (.inl (sD S a))))) := by
  unfold cellOf
  rw [h, if_neg (by omega), if_neg (by omega), if_neg (by omega), if_neg (by omega)]
/-- a cell of the world by its address, its place in the list -/
theorem HR_at {G : GP} {S : MS} {H : Heap} {a : Nat} (hH : HR G S H) (h : kT S a ≠ 0) : ∃ (L : List Nat) (q : Nat), (∀ b, b ∈ L ↔ kT S b ≠ 0) ∧ va_P G.1 cls (va_pl L (cellOf G.2.1 S)) H ∧ va_D (Ab G) (va_pl L (cellOf G.2.1 S)) ∧ a ∈ L ∧ (va_pl L (cellOf G.2.1 S))[q]? = some (a, cellOf G.2.1 S a) := by
  obtain ⟨L, hL, hP, hD⟩ := hH
  have ha := (hL a).mpr h
  obtain ⟨q, hq⟩ := va_pl_get (X := []) (f := cellOf G.2.1 S) ha
  exact ⟨L, q, hL, hP, hD, ha, hq⟩
theorem HR_ab {G : GP} {S : MS} {H : Heap} {a : Nat} (hH : HR G S H) (h : kT S a ≠ 0) : G.2.2 ≤ a := by
  obtain ⟨L, q, -, -, hD, -, hq⟩ := HR_at hH h
  exact hD.2 q _ hq
theorem HR_put {G : GP} {S S' : MS} {H1 : Heap} {L : List Nat} {a q : Nat} {e : va_E} (hL : ∀ b, b ∈ L ↔ kT S b ≠ 0) (hD0 : va_D (Ab G) (va_pl L (cellOf G.2.1 S))) (ha : a ∈ L) (hq : (va_pl L (cellOf G.2.1 S))[q]? = some (a, cellOf G.2.1 S a))
    (hP : va_P G.1 cls ((va_pl L (cellOf G.2.1 S)).set q (a, e)) H1) (hD : va_D (Ab G) ((va_pl L (cellOf G.2.1 S)).set q (a, e))) (hT : ∀ b, kT S' b = kT S b) (he : e = cellOf G.2.1 S' a) (ho : ∀ b, b ≠ a → cellOf G.2.1 S' b = cellOf G.2.1 S b) : HR G S' H1 := by
  have h1 := va_pl_set (X := []) (e := e) hD0 ha hq
  have h2 : va_pl L (va_up (cellOf G.2.1 S) a e) = va_pl L (cellOf G.2.1 S') := va_pl_congr (fun b => by
    by_cases hb : b = a
    · subst hb; rw [va_up_self, he]
    · rw [va_up_ne _ _ hb, ho b hb])
  have h3 : (va_pl L (cellOf G.2.1 S)).set q (a, e) = va_pl L (cellOf G.2.1 S') := h1.trans h2
  rw [h3] at hP hD
  exact ⟨L, fun b => by rw [hT b]; exact hL b, hP, hD⟩
theorem HR_new {G : GP} {S : MS} {H1 : Heap} {L : List Nat} {q t n : Nat} {e : va_E} (hb : 1 ≤ G.2.2) (ht : t ≠ 0) (hL : ∀ b, b ∈ L ↔ kT S b ≠ 0) (hP : va_P G.1 cls (va_pl L (cellOf G.2.1 S) ++ [(q, e)]) H1) (hD : va_D (Ab G) (va_pl L (cellOf G.2.1 S) ++ [(q, e)])) (he : e = cellOf G.2.1 (nw S q t n) q) :
    kT S q = 0 ∧ q ≠ 0 ∧ HR G (nw S q t n) H1 := by
  have hl : (va_pl L (cellOf G.2.1 S) ++ [(q, e)])[(va_pl L (cellOf G.2.1 S)).length]? = some (q, e) := by simp
  have hq0 : G.2.2 ≤ q := hD.2 _ _ hl
  have hn : q ∉ L := fun hm => by
    obtain ⟨i, hi⟩ := va_pl_get (X := []) (f := cellOf G.2.1 S) hm
    have hi' : (va_pl L (cellOf G.2.1 S))[i]? = some (q, cellOf G.2.1 S q) := hi
    have hlt := (List.getElem?_eq_some_iff.mp hi').1
    have h2 : (va_pl L (cellOf G.2.1 S) ++ [(q, e)])[i]? = some (q, cellOf G.2.1 S q) := by rw [List.getElem?_append_left hlt]; exact hi'
    have := hD.1 _ _ _ _ h2 hl rfl
    omega
  have hk0 : kT S q = 0 := Classical.byContradiction fun h => hn ((hL q).mpr h)
  have h3 : va_pl L (cellOf G.2.1 S) ++ [(q, e)] = va_pl (L ++ [q]) (cellOf G.2.1 (nw S q t n)) := by
    rw [va_pl_push hn]
    exact va_pl_congr (fun b => by
      by_cases hb : b = q
      · subst hb; rw [va_up_self, he]
      · rw [va_up_ne _ _ hb, cell_nw hb])
  rw [h3] at hP hD
  refine ⟨hk0, by omega, L ++ [q], fun b => ?_, hP, hD⟩
  by_cases hbq : b = q
  · subst hbq; simp [kT, nw, ht]
  · have : kT (nw S q t n) b = kT S b := by simp [kT, nw, hbq]
    rw [this, ← hL b]
    simp [hbq]
