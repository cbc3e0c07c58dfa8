/-! a new reference -/
def RI (Sb S : MS) (m n : Nat) (f : Nat → Int32) : Prop :=
  kT S m = 7 ∧ m ≠ 0 ∧ kT Sb m = 0 ∧ sI S m = f ∧ (∀ a, (a = 0 ∨ kT Sb a ≠ 0) → Sm Sb S a) ∧ (∀ a, kT S a ≠ 0 → a ≠ 0) ∧
  (∀ k, k < n → lenA k ≠ 0 → kT S (sR S m k) = tagA k ∧ kL S (sR S m k) = lenA k ∧ (∀ j, sI S (sR S m k) j = 0) ∧ sR S m k ≠ m ∧ sR S m k ≠ 0 ∧ kT Sb (sR S m k) = 0) ∧
  (∀ k, (n ≤ k ∨ lenA k = 0) → sR S m k = 0) ∧
  (∀ k j, k < n → j < n → lenA k ≠ 0 → lenA j ≠ 0 → sR S m k = sR S m j → k = j)
theorem ri_skip {Sb S : MS} {m n : Nat} {f : Nat → Int32} (h : RI Sb S m n f) (n' : Nat) (hn : n ≤ n') (hl : ∀ k, n ≤ k → k < n' → lenA k = 0) : RI Sb S m n' f := by
  obtain ⟨a1, a2, a3, a4, a5, a6, a7, a8, a9⟩ := h
  have lt : ∀ k, k < n' → lenA k ≠ 0 → k < n := fun k hk h0 => Classical.byContradiction (fun x => h0 (hl k (by omega) hk))
  exact ⟨a1, a2, a3, a4, a5, a6, fun k hk h0 => a7 k (lt k hk h0) h0, fun k hk => a8 k (hk.imp (fun x => by omega) id), fun k j hk hj h1 h2 => a9 k j (lt k hk h1) (lt j hj h2) h1 h2⟩
theorem ri_int {Sb S : MS} {m n : Nat} {f : Nat → Int32} (h : RI Sb S m n f) (k0 : Nat) (v : Int32) : RI Sb (pI S m k0 v) m n (fun j => if j = k0 then v else f j) := by
  obtain ⟨a1, a2, a3, a4, a5, a6, a7, a8, a9⟩ := h
  refine ⟨a1, a2, a3, ?_, fun a ha => (a5 a ha).tr (sm_pI (fun e => ha.elim (fun x => a2 (e ▸ x)) (fun x => x (by rw [e]; exact a3)))), a6, fun k hk h0 => ?_, a8, a9⟩
  · funext j
    rw [sI_pI, if_pos rfl, a4]
  · obtain ⟨b1, b2, b3, b4, b5, b6⟩ := a7 k hk h0
    exact ⟨b1, b2, fun j => by
      have : sI (pI S m k0 v) (sR S m k) = sI S (sR S m k) := (sm_pI b4).2.1
      show sI (pI S m k0 v) (sR S m k) j = 0
      rw [this]; exact b3 j, b4, b5, b6⟩
theorem ri_arr {Sb S : MS} {m n : Nat} {f : Nat → Int32} (h : RI Sb S m n f) {q L T : Nat} (hl : lenA n = L) (hL : L ≠ 0) (ht : tagA n = T) (hT : T ≠ 0) (kq : kT S q = 0) (zq : ¬ q = 0) : RI Sb (pR (nw S q T L) m n q) m (n + 1) f := by
  obtain ⟨a1, a2, a3, a4, a5, a6, a7, a8, a9⟩ := h
  have nm : m ≠ q := fun e => by rw [← e, a1] at kq; exact absurd kq (by decide)
  have fq : kT Sb q = 0 := Classical.byContradiction (fun x => x (by rw [← (a5 q (Or.inr x)).T]; exact kq))
  have sm : ∀ a, a ≠ q → a ≠ m → Sm S (pR (nw S q T L) m n q) a := fun a h1 h2 => (sm_nw h1).tr (sm_pR h2)
  have rr : ∀ j, sR (pR (nw S q T L) m n q) m j = if j = n then q else sR S m j := fun j => by
    rw [sR_pR, if_pos rfl, (sm_nw nm).2.2]
  refine ⟨?_, a2, a3, ?_, fun a ha => (a5 a ha).tr (sm a (fun e => ha.elim (fun x => zq (e ▸ x)) (fun x => x (by rw [e]; exact fq))) (fun e => ha.elim (fun x => a2 (e ▸ x)) (fun x => x (by rw [e]; exact a3)))), fun a ha => ?_, fun k hk h0 => ?_, fun k hk => ?_, fun k j hk hj h1 h2 e => ?_⟩
  · show kT (nw S q T L) m = 7
    rw [(sm_nw nm).T]; exact a1
  · show sI (nw S q T L) m = f
    rw [(sm_nw nm).2.1]; exact a4
  · by_cases e : a = q
    · rw [e]; exact zq
    · refine a6 a ?_
      have : kT (nw S q T L) a ≠ 0 := ha
      rw [(sm_nw e).T] at this; exact this
  · rw [rr]
    by_cases e : k = n
    · rw [if_pos e, e, hl, ht]
      refine ⟨kT_nw _ _ _ _, ?_, fun j => sI_nw S q T L j, Ne.symm nm, zq, fq⟩
      show kL (nw S q T L) q = L
      simp [kL, nw]
    · rw [if_neg e]
      obtain ⟨b1, b2, b3, b4, b5, b6⟩ := a7 k (by omega) h0
      have nk : sR S m k ≠ q := fun x => by
        rw [x, kq] at b1
        unfold tagA at b1
        split at b1 <;> exact absurd b1 (by decide)
      have s := sm _ nk b4
      exact ⟨s.T.trans b1, s.L.trans b2, fun j => by rw [s.2.1]; exact b3 j, b4, b5, b6⟩
  · rw [rr]
    have e : k ≠ n := fun x => by rw [x, hl] at hk; omega
    rw [if_neg e]
    exact a8 k (hk.imp (fun x => by omega) id)
  · rw [rr, rr] at e
    have nk : ∀ k, k < n → lenA k ≠ 0 → sR S m k ≠ q := fun k hk h0 x => by
      have b1 := (a7 k hk h0).1
      rw [x, kq] at b1
      unfold tagA at b1
      split at b1 <;> exact absurd b1 (by decide)
    by_cases e1 : k = n <;> by_cases e2 : j = n
    · omega
    · rw [if_pos e1, if_neg e2] at e
      exact absurd e.symm (nk j (by omega) h2)
    · rw [if_neg e1, if_pos e2] at e
      exact absurd e (nk k (by omega) h1)
    · rw [if_neg e1, if_neg e2] at e
      exact a9 k j (by omega) (by omega) h1 h2 e
theorem rf_in_loop {m b : Nat} (S0 : MS) (hm : kT S0 m = 7) (hmb : m ≠ b) (h15 : sR S0 m 15 = b) (hb : kT S0 b = 9 ∧ kL S0 b = 1952) {post : MS → Prop} (hp : ∀ S', (∀ a, a ≠ b → Sm S0 S' a) → S'.1 = S0.1 → (∀ k, sI S' b k = if k < 32 then -1000 else sI S0 b k) → sR S' = sR S0 → post S') : ∀ n i (S : MS), i + n = 32 → (∀ a, a ≠ b → Sm S0 S a) → S.1 = S0.1 → (∀ k, sI S b k = if k < i then -1000 else sI S0 b k) → sR S = sR S0 → b_X6_init_170 post (n + 1) S m (nI i) := by
  intro n
  induction n with
  | zero =>
    intro i S hi hs hk h1 hr
    have e : i = 32 := by omega
    subst e
    rw [b_X6_init_170]
    exact ⟨fun _ => hp S hs hk h1 hr, fun q => absurd (Int32.le_refl _) q⟩
  | succ n ih =>
    intro i S hi hs hk h1 hr
    have kb : kT S b = 9 ∧ kL S b = 1952 := by
      unfold kT kL at hb ⊢
      rw [hk]; exact hb
    rw [b_X6_init_170]
    dsimp only
    rw [hr, h15, kb.2, ix_nI (by omega)]
    refine ⟨fun q => absurd q (nI_ge (b := 32) (by omega) (by omega)), fun _ => ⟨by rw [(hs m hmb).T]; exact hm, kb.1, vp_in_nI (by omega) (by omega), fun S4 e4 v7 hv7 => ?_⟩⟩
    rw [hv7, nI_1, e4]
    refine ih (i + 1) _ (by omega) (fun a ha => (hs a ha).tr (sm_pI ha)) hk (fun k => ?_) hr
    rw [sI_pI, if_pos rfl]
    by_cases e : k = i
    · rw [if_pos e, if_pos (by omega)]
    · rw [if_neg e, h1 k]
      by_cases q : k < i
      · rw [if_pos q, if_pos (by omega)]
      · rw [if_neg q, if_neg (by omega)]
set_option maxHeartbeats 2000000 in
theorem rf_modInit {Sb : MS} {m : Nat} (hq : kT Sb m = 0) (hz : ¬ m = 0) (hnz : ∀ a, kT Sb a ≠ 0 → a ≠ 0) (h00 : ∀ j, sI Sb 0 j = 0) {post : MS → Prop} (hp : ∀ S', RM m (sR S' m) S' sgI → (∀ a, (a = 0 ∨ kT Sb a ≠ 0) → Sm Sb S' a) → (∀ a, kT S' a ≠ 0 → a ≠ 0) → (∀ k, lenA k ≠ 0 → kT Sb (sR S' m k) = 0 ∧ kT S' (sR S' m k) ≠ 0) → (∀ k, lenA k = 0 → sR S' m k = 0) → post S') : w_X6_init (nw Sb m 7 0) m post := by
  have r0 : RI Sb (nw Sb m 7 0) m 2 (fun _ => 0) := by
    refine ⟨kT_nw _ _ _ _, hz, hq, funext (fun j => sI_nw _ _ _ _ _), fun a ha => sm_nw (fun e => ha.elim (fun x => hz (e ▸ x)) (fun x => x (by rw [e]; exact hq))), fun a ha => ?_, fun k hk h0 => ?_, fun k _ => sR_nw _ _ _ _ _, fun k j hk hj h1 h2 e => ?_⟩
    · by_cases e : a = m
      · rw [e]; exact hz
      · rw [(sm_nw e).T] at ha; exact hnz a ha
    · exfalso
      have : k = 0 ∨ k = 1 := by omega
      rcases this with x | x <;> subst x <;> exact h0 rfl
    · exfalso
      have : k = 0 ∨ k = 1 := by omega
      rcases this with x | x <;> subst x <;> exact h1 rfl
  refine ⟨kT_nw _ _ _ _, fun q2 k2 z2 S3 e3 S6 e6 => ?_⟩
  rw [e3] at e6; subst e6
  have r1 := ri_arr r0 (L := 80) (T := 9) rfl (by decide) rfl (by decide) k2 z2
  intro q9 k9 z9 S10 e10 S14 e14
  rw [e10] at e14; subst e14
  have r2 := ri_arr r1 (L := 80) (T := 9) rfl (by decide) rfl (by decide) k9 z9
  intro q18 k18 z18 S19 e19 S24 e24
  rw [e19] at e24; subst e24
  have r3 := ri_arr r2 (L := 80) (T := 9) rfl (by decide) rfl (by decide) k18 z18
  intro q29 k29 z29 S30 e30 S36 e36
  rw [e30] at e36; subst e36
  have r4 := ri_arr r3 (L := 80) (T := 9) rfl (by decide) rfl (by decide) k29 z29
  intro q42 k42 z42 S43 e43 S50 e50
  rw [e43] at e50; subst e50
  have r5 := ri_arr r4 (L := 80) (T := 10) rfl (by decide) rfl (by decide) k42 z42
  intro q57 k57 z57 S58 e58 S66 e66
  rw [e58] at e66; subst e66
  have r6 := ri_arr r5 (L := 80) (T := 9) rfl (by decide) rfl (by decide) k57 z57
  intro q74 k74 z74 S75 e75 S84 e84
  rw [e75] at e84; subst e84
  have r7 := ri_arr r6 (L := 9600) (T := 9) rfl (by decide) rfl (by decide) k74 z74
  intro q93 k93 z93 S94 e94 S104 e104
  rw [e94] at e104; subst e104
  have r8 := ri_arr r7 (L := 2560) (T := 9) rfl (by decide) rfl (by decide) k93 z93
  intro q114 k114 z114 S115 e115 S126 e126
  rw [e115] at e126; subst e126
  have r9 := ri_arr r8 (L := 2560) (T := 9) rfl (by decide) rfl (by decide) k114 z114
  intro q137 k137 z137 S138 e138 S150 e150
  rw [e138] at e150; subst e150
  have r10 := ri_arr r9 (L := 7680) (T := 9) rfl (by decide) rfl (by decide) k137 z137
  intro q162 k162 z162 S163 e163 S176 e176
  rw [e163] at e176; subst e176
  have r11 := ri_arr r10 (L := 80) (T := 9) rfl (by decide) rfl (by decide) k162 z162
  intro S189 e189
  subst e189
  have r12 := ri_skip (ri_int r11 13 (-1)) 15 (by omega) (fun k h1 h2 => by
    have : k = 13 ∨ k = 14 := by omega
    rcases this with x | x <;> subst x <;> rfl)
  intro q202 k202 z202 S203 e203 S217 e217
  rw [e203] at e217; subst e217
  have r13 := ri_arr r12 (L := 1952) (T := 9) rfl (by decide) rfl (by decide) k202 z202
  intro q231 k231 z231 S232 e232 S247 e247
  rw [e232] at e247; subst e247
  have r14 := ri_arr r13 (L := 61) (T := 9) rfl (by decide) rfl (by decide) k231 z231
  intro S262 e262
  subst e262
  have r15 := ri_skip (ri_int r14 19 3) 20 (by omega) (fun k h1 h2 => by
    have : k = 17 ∨ k = 18 ∨ k = 19 := by omega
    rcases this with x | x | x <;> subst x <;> rfl)
  intro q277 k277 z277 S278 e278 S294 e294
  rw [e278] at e294; subst e294
  have r16 := ri_skip (ri_arr r15 (L := 12) (T := 9) rfl (by decide) rfl (by decide) k277 z277) 22 (by omega) (fun k h1 h2 => by
    have : k = 21 := by omega
    subst this; rfl)
  intro q310 k310 z310 S311 e311 S328 e328
  rw [e311] at e328; subst e328
  have r17 := ri_arr r16 (L := 61) (T := 9) rfl (by decide) rfl (by decide) k310 z310
  intro q345 k345 z345 S346 e346 S364 e364
  rw [e346] at e364; subst e364
  have r18 := ri_arr r17 (L := 32) (T := 9) rfl (by decide) rfl (by decide) k345 z345
  intro q382 k382 z382 S383 e383 S402 e402
  rw [e383] at e402; subst e402
  have r19 := ri_arr r18 (L := 60) (T := 9) rfl (by decide) rfl (by decide) k382 z382
  intro S421 e421
  subst e421
  have r20 := ri_skip (ri_int r19 28 (-1)) 29 (by omega) (fun k h1 h2 => by
    have : k = 25 ∨ k = 26 ∨ k = 27 ∨ k = 28 := by omega
    rcases this with x | x | x | x <;> subst x <;> rfl)
  intro q440 k440 z440 S441 e441 S461 e461
  rw [e441] at e461
  have r21 := ri_arr r20 (L := 120) (T := 9) rfl (by decide) rfl (by decide) k440 z440
  rw [← e461] at r21
  clear e461 r20 r19 r18 r17 r16 r15 r14 r13 r12 r11 r10 r9 r8 r7 r6 r5 r4 r3 r2 r1 r0
  obtain ⟨a1, a2, a3, a4, a5, a6, a7, a8, a9⟩ := r21
  have lt30 : ∀ k, lenA k ≠ 0 → k < 29 + 1 := fun k h0 => by
    refine Classical.byContradiction (fun x => h0 ?_)
    unfold lenA
    split <;> first | omega | rfl
  obtain ⟨b1, b2, b3, b4, b5, b6⟩ := a7 15 (by omega) (by decide)
  refine ⟨33, rf_in_loop S461 a1 (Ne.symm b4) rfl ⟨b1, b2⟩ (fun S9 s9 k9' w9 r9' => hp S9 ?_ (fun a ha => ?_) (fun a ha => ?_) (fun k hk => ?_) (fun k hk => ?_)) 32 0 S461 (by omega) (fun a _ => Sm.rf S461 a) rfl (fun k => by rw [if_neg (by omega)]) rfl⟩
  · have kt : ∀ x, kT S9 x = kT S461 x := fun x => by unfold kT; rw [k9']
    have kl : ∀ x, kL S9 x = kL S461 x := fun x => by unfold kL; rw [k9']
    rw [r9']
    refine ⟨?_, by rw [r9'], fun k => ?_, by rw [kt]; exact a1, fun k hk => ?_, fun k => ?_, fun k hk j e => ?_⟩
    · rw [(s9 m (Ne.symm b4)).2.1, a4]
      funext j
      show (if j = 28 then (-1 : Int32) else if j = 19 then 3 else if j = 13 then -1 else 0) = (if j = 13 then (-1 : Int32) else if j = 19 then 3 else if j = 28 then -1 else 0)
      by_cases q28 : j = 28
      · rw [if_pos q28, if_neg (by omega), if_neg (by omega), if_pos q28]
      · rw [if_neg q28, if_neg q28]
        by_cases q19 : j = 19
        · rw [if_pos q19, if_neg (by omega), if_pos q19]
        · rw [if_neg q19, if_neg q19]
    · by_cases h0 : lenA k = 0
      · rw [a8 k (Or.inr h0), (s9 0 (Ne.symm b5)).2.1, (a5 0 (Or.inl rfl)).2.1]
        funext j
        rw [h00 j]
        show (0 : Int32) = if k = 15 ∧ j < 32 then -1000 else 0
        rw [if_neg (fun x => by rw [x.1] at h0; exact absurd h0 (by decide))]
      · by_cases e : k = 15
        · subst e
          funext j
          rw [w9, b3]
          show (if j < 32 then (-1000 : Int32) else 0) = if 15 = 15 ∧ j < 32 then -1000 else 0
          by_cases q : j < 32
          · rw [if_pos q, if_pos ⟨rfl, q⟩]
          · rw [if_neg q, if_neg (fun x => q x.2)]
        · obtain ⟨c1, c2, c3, c4, c5, c6⟩ := a7 k (lt30 k h0) h0
          have nb : sR S461 m k ≠ sR S461 m 15 := fun x => e (a9 k 15 (lt30 k h0) (by omega) h0 (by decide) x)
          rw [(s9 _ nb).2.1]
          funext j
          rw [c3 j]
          show (0 : Int32) = if k = 15 ∧ j < 32 then -1000 else 0
          rw [if_neg (fun x => e x.1)]
    · rw [kt, kl]
      obtain ⟨c1, c2, -⟩ := a7 k (lt30 k hk) hk
      exact ⟨c1, c2⟩
    · by_cases h0 : lenA k = 0
      · rw [a8 k (Or.inr h0)]; exact Ne.symm a2
      · exact (a7 k (lt30 k h0) h0).2.2.2.1
    · by_cases h0 : lenA j = 0
      · rw [a8 j (Or.inr h0)] at e
        exact absurd e.symm (a7 k (lt30 k hk) hk).2.2.2.2.1
      · exact a9 j k (lt30 j h0) (lt30 k hk) h0 hk e
  · refine (a5 a ha).tr (s9 a (fun e => ha.elim (fun x => b5 (e ▸ x)) (fun x => x (by rw [e]; exact b6))))
  · refine a6 a ?_
    unfold kT at ha ⊢
    rw [← k9']; exact ha
  · rw [r9']
    obtain ⟨c1, c2, c3, c4, c5, c6⟩ := a7 k (lt30 k hk) hk
    refine ⟨c6, ?_⟩
    unfold kT at c1 ⊢
    rw [k9', c1]
    unfold tagA
    split <;> decide
  · rw [r9']; exact a8 k (Or.inr hk)
