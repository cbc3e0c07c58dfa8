/-! every run agrees -/
theorem wf_I : WF sgI 0 0 0 := by
  refine ⟨rfl, by omega, rfl, by omega, rfl, by omega, fun t ht => absurd ht (by omega), fun t ht => absurd ht (by omega), fun c hc k hk => ?_, fun c h1 hc => absurd hc (by omega), Or.inl rfl, Or.inl rfl, Or.inl rfl, ⟨3, by omega, by omega, rfl⟩, fun i hi => absurd hi (by omega), ⟨0, by omega, rfl, fun i hi => absurd hi (by omega)⟩, fun t h1 h2 => ⟨?_, ?_, ?_⟩⟩
  · have e : sgI.2 15 (32 * c + k) = -1000 := by
      show (if 15 = 15 ∧ 32 * c + k < 32 then (-1000 : Int32) else 0) = _
      rw [if_pos ⟨rfl, by omega⟩]
    rw [e]
    decide
  · show (if 4 = 15 ∧ t < 32 then (-1000 : Int32) else 0) = 0
    rw [if_neg (fun x => absurd x.1 (by decide))]
  · show (if 5 = 15 ∧ t < 32 then (-1000 : Int32) else 0) = 0
    rw [if_neg (fun x => absurd x.1 (by decide))]
  · show (if 6 = 15 ∧ t < 32 then (-1000 : Int32) else 0) = 0
    rw [if_neg (fun x => absurd x.1 (by decide))]
theorem rc_loc {S : MS} {loc loc' : Nat → Nat} (h : RC S loc sgI 0 0 0) (hl : ∀ r, UA r → loc' r = loc r) : RC S loc' sgI 0 0 0 := by
  obtain ⟨r1, r2, r3, r4, r5, r6, r7, r8, r9⟩ := h
  have l : ∀ r, 1 ≤ r → r ≤ 11 → loc' r = loc r := fun r h1 h2 => hl r (Or.inl ⟨h1, h2⟩)
  have lr : ∀ c, c ≤ 60 → loc' (100 + c) = loc (100 + c) := fun c hc => hl _ (Or.inr ⟨by omega, by omega⟩)
  refine ⟨?_, fun c hc => ?_, fun t ht => absurd ht (by omega), fun t ht => absurd ht (by omega), fun t ht => absurd ht (by omega), fun c hc k hk => ?_, fun c h1 hc => absurd hc (by omega), fun i hi => absurd hi (by omega), fun y i hy h60 hi => ?_⟩
  · unfold StR at r1 ⊢
    rw [l 1 (by omega) (by omega), l 2 (by omega) (by omega), l 3 (by omega) (by omega), l 4 (by omega) (by omega), l 5 (by omega) (by omega), l 6 (by omega) (by omega), l 7 (by omega) (by omega), l 8 (by omega) (by omega), l 9 (by omega) (by omega), l 10 (by omega) (by omega), l 11 (by omega) (by omega)]
    exact r1
  · have := r2 c hc
    unfold RwR at this ⊢
    rw [lr c hc, l 8 (by omega) (by omega)]; exact this
  · rw [lr c (by omega)]; exact r6 c hc k hk
  · rw [l 10 (by omega) (by omega)]; exact r9 y i hy h60 hi
theorem law_true (xs : Nat → Int32) (L : Nat) (hL : L ≤ 2560) : w_L_law xs L S0 := by
  unfold w_L_law
  intro q1 k1 z1 S2 e2
  rw [e2]
  refine cl_stoInit (fun _ => rfl) z1 (fun S4 loc ow al nz l1 s0 rc q6 k6 z6 S7 e7 => ?_)
  rw [e7]
  refine rf_modInit k6 z6 nz (fun j => by rw [s0.2.1]; rfl) (fun S9 rm f9 nz9 ar9 a09 q11 k11 z11 S12 e12 q14 k14 z14 S15 e15 => ⟨513, Nat.le_refl _, ?_⟩)
  have kq6 : kT S9 q6 = 7 := rm.2.2.2.1
  have m9 : ∀ a, kT S4 a ≠ 0 → kT S9 a ≠ 0 := fun a ha => by rw [(f9 a (Or.inr ha)).T]; exact ha
  obtain ⟨L2, O2, L2u, L2k, al2⟩ := al_bulk (S := S9) (K := fun x => x = 5000 ∨ ∃ k, lenA k ≠ 0 ∧ x = 5001 + k) (h := fun x => if x = 5000 then q6 else sR S9 q6 (x - 5001)) al m9 (fun x hx => by
    rcases hx with e | ⟨k, hk, e⟩
    · rw [if_pos e]; exact ⟨k6, kt_nz kq6 (by decide)⟩
    · rw [if_neg (by omega), e, Nat.add_sub_cancel_left]; exact ar9 k hk) (fun x z hx hz' e => by
    rcases hx with h1 | ⟨k, hk, h1⟩ <;> rcases hz' with h2 | ⟨j, hj, h2⟩
    · omega
    · rw [if_pos h1, if_neg (by omega)] at e; exact absurd e.symm (rm.2.2.2.2.2.1 _)
    · rw [if_neg (by omega), if_pos h2] at e; exact absurd e (rm.2.2.2.2.2.1 _)
    · rw [if_neg (by omega), if_neg (by omega), h1, h2, Nat.add_sub_cancel_left, Nat.add_sub_cancel_left] at e
      have := rm.2.2.2.2.2.2 j hj k e
      omega) (fun x hx hk => by
    unfold UA at hx
    rcases hk with e | ⟨k, _, e⟩ <;> omega)
  have f12 : ∀ a, (a = 0 ∨ kT S9 a ≠ 0) → Sm S9 S12 a := fun a ha => by
    rw [e12]
    exact sm_nw (fun e => ha.elim (fun x => z11 (e ▸ x)) (fun x => x (by rw [e]; exact k11)))
  have f15 : ∀ a, (a = 0 ∨ kT S12 a ≠ 0) → Sm S12 S15 a := fun a ha => by
    rw [e15]
    exact sm_nw (fun e => ha.elim (fun x => z14 (e ▸ x)) (fun x => x (by rw [e]; exact k14)))
  have kq11 : kT S12 q11 = 15 ∧ kL S12 q11 = 1 := by rw [e12]; exact ⟨kT_nw _ _ _ _, by simp [kL, nw]⟩
  have kq14 : kT S15 q14 = 16 ∧ kL S15 q14 = 1 := by rw [e15]; exact ⟨kT_nw _ _ _ _, by simp [kL, nw]⟩
  obtain ⟨L3, O3, L3u, L3k, al3⟩ := al_one (Sb := S9) (S := S12) (q := q11) (r0 := 5100) al2 (fun a ha => by rw [(f12 a (Or.inr ha)).T]; exact ha) k11 (kt_nz kq11.1 (by decide)) (fun hx => by
    rcases hx with e | e | ⟨k, hk, e⟩
    · unfold UA at e; omega
    · omega
    · have : k = 99 := by omega
      subst this
      exact hk rfl)
  obtain ⟨L4, O4, L4u, L4k, al4⟩ := al_one (Sb := S12) (S := S15) (q := q14) (r0 := 5101) al3 (fun a ha => by rw [(f15 a (Or.inr ha)).T]; exact ha) k14 (kt_nz kq14.1 (by decide)) (fun hx => by
    rcases hx with (e | e | ⟨k, hk, e⟩) | e
    · unfold UA at e; omega
    · omega
    · have : k = 100 := by omega
      subst this
      exact hk rfl
    · omega)
  have g : ∀ a, (a = 0 ∨ kT S9 a ≠ 0) → Sm S9 S15 a := fun a ha => (f12 a ha).tr (f15 a (ha.imp id (fun x => by rw [(f12 a ha).T]; exact x)))
  have g4 : ∀ a, (a = 0 ∨ kT S4 a ≠ 0) → Sm S4 S15 a := fun a ha => (f9 a ha).tr (g a (ha.imp id (fun x => by rw [(f9 a ha).T]; exact x)))
  have lu : ∀ r, UA r → L4 r = loc r := fun r hr => by
    rw [L4u r (Or.inl (Or.inl hr)), L3u r (Or.inl hr), L2u r hr]
  have l5000 : L4 5000 = q6 := by
    rw [L4u 5000 (Or.inl (Or.inr (Or.inl rfl))), L3u 5000 (Or.inr (Or.inl rfl)), L2k 5000 (Or.inl rfl)]
    rfl
  have l5001 : ∀ k, lenA k ≠ 0 → L4 (5001 + k) = sR S9 q6 k := fun k hk => by
    have hx : (5001 + k = 5000 ∨ ∃ j, lenA j ≠ 0 ∧ 5001 + k = 5001 + j) := Or.inr ⟨k, hk, rfl⟩
    rw [L4u _ (Or.inl (Or.inr hx)), L3u _ (Or.inr hx), L2k _ hx]
    rw [if_neg (by omega), Nat.add_sub_cancel_left]
  have l5100 : L4 5100 = q11 := by rw [L4u 5100 (Or.inr rfl)]; exact L3k
  have ua : ∀ r, Us sgI 0 0 r → r < 5000 → UA r := fun r hr hlt => by
    unfold Us at hr
    unfold UA
    rcases hr with h | h | h | h | h | h | h | ⟨t, i, z, ht, _⟩ | h | ⟨k, _, e⟩ | h <;> omega
  have s6 := g q6 (Or.inr (kt_nz kq6 (by decide)))
  have rc4 : RC S15 loc sgI 0 0 0 := rc_same (by omega) (by omega) (by omega) ⟨fun r hr hlt _ _ => g4 _ (Or.inr (al r (ua r hr hlt)).2), (g4 _ (Or.inr (al 6 (Or.inl ⟨by omega, by omega⟩)).2)).1, (g4 _ (Or.inr (al 7 (Or.inl ⟨by omega, by omega⟩)).2)).1⟩ rc
  have hI : Inv S15 q1 q6 q11 q14 L4 O4 sgI 0 0 0 := by
    refine ⟨(lu 1 (Or.inl ⟨by omega, by omega⟩)).trans l1, l5000, l5100, L4k, ?_, ?_, kq14.1, kq14.2, fun r hr => al4 r ?_, fun a ha => ?_, wf_I, rc_loc rc4 lu, rm_same rm (fun k => ?_) s6, fun k => ?_⟩
    · rw [(f15 q11 (Or.inr (kt_nz kq11.1 (by decide)))).T]; exact kq11.1
    · rw [(f15 q11 (Or.inr (kt_nz kq11.1 (by decide)))).L]; exact kq11.2
    · by_cases hlt : r < 5000
      · exact Or.inl (Or.inl (Or.inl (ua r hr hlt)))
      · unfold Us at hr
        rcases hr with h | h | h | h | h | h | h | ⟨t, i, z, ht, _⟩ | h | ⟨k, hk, e⟩ | h | h
        all_goals first
          | omega
          | exact Or.inl (Or.inl (Or.inr (Or.inl h)))
          | exact Or.inl (Or.inl (Or.inr (Or.inr ⟨k, hk, e⟩)))
          | exact Or.inl (Or.inr h)
          | exact Or.inr h
    · by_cases e : a = q14
      · rw [e]; exact z14
      · by_cases e' : a = q11
        · rw [e']; exact z11
        · rw [e15, (sm_nw e).T, e12, (sm_nw e').T] at ha
          exact nz9 a ha
    · by_cases hk : lenA k = 0
      · rw [a09 k hk]; exact g 0 (Or.inl rfl)
      · exact g _ (Or.inr (ar9 k hk).2)
    · rw [s6.2.2]
      exact ⟨fun hk => (l5001 k hk).symm, fun hk => a09 k hk⟩
  exact loop_true ⟨sp_configure, sp_begin, sp_retry, sp_read, sp_scan, sp_sum, sp_write, sp_remove, sp_add, sp_commit, sp_abort, sp_clock, sp_transactionCount, sp_activeCount, sp_ticketHolder, sp_state, sp_attempt, sp_reason, sp_commitOf, sp_operationCount, sp_recordedKeys, sp_predicateCount, sp_writtenKeys, sp_isStale, sp_rivals, sp_value, sp_valueAt, sp_writerOf, sp_transactionOf, sp_dependency, sp_longestChain, sp_serialFaults, sp_rewind, sp_addConstraint, sp_clearConstraints, sp_aborts, sp_averageAttempts, sp_abortRate, sp_appendCharacter, sp_runScript, sp_faultPosition⟩ xs L hL q1 q6 q11 q14 512 0 S15 L4 O4 sgI 0 0 0 (by omega) hI
