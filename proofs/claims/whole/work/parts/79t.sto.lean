/-! a new store -/
def sgI : Sg := (fun j => if j = 13 then -1 else if j = 19 then 3 else if j = 28 then -1 else 0, fun k j => if k = 15 ∧ j < 32 then -1000 else 0)
def UA (r : Nat) : Prop := (1 ≤ r ∧ r ≤ 11) ∨ (100 ≤ r ∧ r ≤ 160)
theorem kt_nz {S : MS} {a n : Nat} (h : kT S a = n) (hn : n ≠ 0) : kT S a ≠ 0 := by rw [h]; exact hn
/-- an address that is new later isn't an old one -/
theorem ne_new {S : MS} {a q : Nat} (h : kT S a ≠ 0) (hq : kT S q = 0) : a ≠ q := fun e => h (by rw [e]; exact hq)
set_option maxHeartbeats 2000000 in
theorem cl_stoInit {Sb : MS} {q1 : Nat} (h0 : ∀ a, kT Sb a = 0) (hz : ¬ q1 = 0) {post : MS → Prop} (hp : ∀ S' loc ow, AL S' loc ow UA → (∀ a, kT S' a ≠ 0 → a ≠ 0) → loc 1 = q1 → Sm Sb S' 0 → RC S' loc sgI 0 0 0 → post S') : w_X5_init (nw Sb q1 6 0) q1 post := by
  have hq : kT Sb q1 = 0 := h0 q1
  refine ⟨kT_nw _ _ _ _, fun q2 k2 z2 S3 e3 => ?_⟩
  rw [e3]
  clear e3
  refine cl_hisInit k2 z2 (fun S5 qs qa r hn => ?_)
  obtain ⟨n1, n2, ⟨o1, o2, o3, o4⟩, ⟨d1, d2, d3, d4, d5⟩, ⟨c1, c2, c3, c4⟩, ⟨c5, c6, c7⟩, ⟨c8, c9⟩, c10, c11⟩ := hn
  have k1S : kT (nw Sb q1 6 0) q1 ≠ 0 := kt_nz (kT_nw _ _ _ _) (by decide)
  have s5q := n1 q1 (Or.inr k1S)
  have k5 : kT S5 q1 = 6 := s5q.T.trans (kT_nw _ _ _ _)
  refine ⟨k5, fun S8 e8 q10 k10 z10 S11 e11 S14 e14 q17 k17 z17 S18 e18 S22 e22 q26 k26 z26 S27 e27 => ?_⟩
  have f8 : Fr q1 S5 S8 := by rw [e8]; exact (Fr.rf q1 S5).pR
  have f14 : Fr q1 S8 S14 := by rw [e14, e11]; exact ((Fr.rf q1 S8).nw k10 z10).pR
  have f22 : Fr q1 S14 S22 := by rw [e22, e18]; exact ((Fr.rf q1 S14).nw k17 z17).pR
  have kq8 : kT S8 q1 = 6 := by rw [e8]; exact k5
  have n10 : q1 ≠ q10 := ne_new (kt_nz kq8 (by decide)) k10
  have kq14 : kT S14 q1 = 6 := by
    rw [e14, e11]
    show kT (nw S8 q10 13 80) q1 = 6
    rw [(sm_nw n10).T]; exact kq8
  have n17 : q1 ≠ q17 := ne_new (kt_nz kq14 (by decide)) k17
  have kq22 : kT S22 q1 = 6 := by
    rw [e22, e18]
    show kT (nw S14 q17 11 3) q1 = 6
    rw [(sm_nw n17).T]; exact kq14
  have kq10 : kT S14 q10 = 13 ∧ kL S14 q10 = 80 := by
    rw [e14, e11]
    exact ⟨kT_nw _ _ _ _, by show kL (nw S8 q10 13 80) q10 = 80; simp [kL, nw]⟩
  have kq17 : kT S22 q17 = 11 ∧ kL S22 q17 = 3 := by
    rw [e22, e18]
    exact ⟨kT_nw _ _ _ _, by show kL (nw S14 q17 11 3) q17 = 3; simp [kL, nw]⟩
  rw [e27]
  clear e27
  refine cl_scrInit k26 z26 (fun S29 qt qp hs => ?_)
  obtain ⟨t1, t2, ⟨u1, u2', u3⟩, ⟨v1, v2, v3⟩, ⟨w1, w2, w3, w4, w5⟩, ⟨w6, w7⟩, ⟨w8, w9⟩⟩ := hs
  have f29 : Fr q1 S22 S29 := fun a ha _ => t1 a ha
  have s29q := t1 q1 (Or.inr (kt_nz kq22 (by decide)))
  have kq29 : kT S29 q1 = 6 := s29q.T.trans kq22
  refine ⟨kq29, fun S32 e32 q34 k34 z34 S35 e35 S38 e38 q41 k41 z41 S42 e42 S46 e46 S50 e50 S54 e54 S58 e58 S62 e62 => ?_⟩
  have f32 : Fr q1 S29 S32 := by rw [e32]; exact (Fr.rf q1 S29).pR
  have f38 : Fr q1 S32 S38 := by rw [e38, e35]; exact ((Fr.rf q1 S32).nw k34 z34).pR
  have f62 : Fr q1 S38 S62 := by
    rw [e62, e58, e54, e50, e46, e42]
    exact ((((((Fr.rf q1 S38).nw k41 z41).pR).pI).pI).pI).pI
  have kq32 : kT S32 q1 = 6 := by rw [e32]; exact kq29
  have n34 : q1 ≠ q34 := ne_new (kt_nz kq32 (by decide)) k34
  have kq38 : kT S38 q1 = 6 := by
    rw [e38, e35]
    show kT (nw S32 q34 9 32) q1 = 6
    rw [(sm_nw n34).T]; exact kq32
  have n41 : q1 ≠ q41 := ne_new (kt_nz kq38 (by decide)) k41
  have kq62 : kT S62 q1 = 6 := by
    rw [e62, e58, e54, e50, e46, e42]
    show kT (nw S38 q41 9 61) q1 = 6
    rw [(sm_nw n41).T]; exact kq38
  have kq34 : kT S38 q34 = 9 ∧ kL S38 q34 = 32 := by
    rw [e38, e35]
    exact ⟨kT_nw _ _ _ _, by show kL (nw S32 q34 9 32) q34 = 32; simp [kL, nw]⟩
  have kq41 : kT S62 q41 = 9 ∧ kL S62 q41 = 61 := by
    rw [e62, e58, e54, e50, e46, e42]
    exact ⟨kT_nw _ _ _ _, by show kL (nw S38 q41 9 61) q41 = 61; simp [kL, nw]⟩
  -- the store's own fields
  have R62 : ∀ j, sR S62 q1 j = if j = 5 then q41 else sR S38 q1 j := fun j => by
    rw [e62, e58, e54, e50, e46]
    show sR (pR S42 q1 5 q41) q1 j = _
    rw [sR_pR, if_pos rfl, e42, (sm_nw n41).2.2]
  have R38 : ∀ j, sR S38 q1 j = if j = 4 then q34 else sR S32 q1 j := fun j => by
    rw [e38, sR_pR, if_pos rfl, e35, (sm_nw n34).2.2]
  have R32 : ∀ j, sR S32 q1 j = if j = 3 then q26 else sR S22 q1 j := fun j => by
    rw [e32, sR_pR, if_pos rfl, s29q.2.2]
  have R22 : ∀ j, sR S22 q1 j = if j = 2 then q17 else sR S14 q1 j := fun j => by
    rw [e22, sR_pR, if_pos rfl, e18, (sm_nw n17).2.2]
  have R14 : ∀ j, sR S14 q1 j = if j = 1 then q10 else sR S8 q1 j := fun j => by
    rw [e14, sR_pR, if_pos rfl, e11, (sm_nw n10).2.2]
  have R8 : ∀ j, sR S8 q1 j = if j = 0 then q2 else sR S5 q1 j := fun j => by
    rw [e8, sR_pR, if_pos rfl]
  have I5 : ∀ j, sI S5 q1 j = 0 := fun j => by rw [s5q.2.1]; exact sI_nw _ _ _ _ _
  have I38 : ∀ j, sI S38 q1 j = 0 := fun j => by
    have x1 : sI S38 q1 = sI S32 q1 := by
      rw [e38]
      show sI S35 q1 = _
      rw [e35, (sm_nw n34).2.1]
    have x2 : sI S32 q1 = sI S29 q1 := by rw [e32]; rfl
    have x3 : sI S22 q1 = sI S14 q1 := by
      rw [e22]
      show sI S18 q1 = _
      rw [e18, (sm_nw n17).2.1]
    have x4 : sI S14 q1 = sI S8 q1 := by
      rw [e14]
      show sI S11 q1 = _
      rw [e11, (sm_nw n10).2.1]
    have x5 : sI S8 q1 = sI S5 q1 := by rw [e8]; rfl
    rw [x1, x2, s29q.2.1, x3, x4, x5]; exact I5 j
  have I46 : ∀ j, sI S46 q1 j = 0 := fun j => by
    have x : sI S46 q1 = sI S38 q1 := by
      rw [e46]
      show sI S42 q1 = _
      rw [e42, (sm_nw n41).2.1]
    rw [x]; exact I38 j
  have I62 : ∀ j, sI S62 q1 j = if j = 11 then -1 else if j = 10 then 3 else 0 := fun j => by
    rw [e62, sI_pI, if_pos rfl, e58, sI_pI, if_pos rfl, e54, sI_pI, if_pos rfl, e50, sI_pI, if_pos rfl, I46]
    by_cases q11 : j = 11
    · rw [if_pos q11, if_pos q11]
    · rw [if_neg q11, if_neg q11]
      by_cases q10' : j = 10
      · rw [if_pos q10', if_pos q10']
      · rw [if_neg q10', if_neg q10']
        by_cases q9 : j = 9
        · rw [if_pos q9]
        · rw [if_neg q9]
          by_cases q8 : j = 8
          · rw [if_pos q8]
          · rw [if_neg q8]
  -- the frames to the end
  have g38 := f62
  have g32 := f38.tr f62
  have g29 := f32.tr g32
  have g22 := f29.tr g29
  have g14 := f22.tr g22
  have g8 := f14.tr g14
  have g5 := f8.tr g8
  have nq2 : q2 ≠ q1 := fun e => by rw [e] at k2; exact k1S k2
  have nqs : qs ≠ q1 := fun e => by rw [e] at o2; exact k1S o2
  have nqa : qa ≠ q1 := fun e => by rw [e] at o3; exact k1S o3
  have nqr : ∀ i, i < 61 → r i ≠ q1 := fun i hi e => by
    have := o4 i hi
    rw [e] at this; exact k1S this
  have S62_2 := g5 q2 (Or.inr (kt_nz c1 (by decide))) nq2
  have S62_s := g5 qs (Or.inr (kt_nz c5 (by decide))) nqs
  have S62_a := g5 qa (Or.inr (kt_nz c8 (by decide))) nqa
  have S62_r := fun i hi => g5 (r i) (Or.inr (kt_nz (c10 i hi).1 (by decide))) (nqr i hi)
  have S62_10 := g14 q10 (Or.inr (kt_nz kq10.1 (by decide))) (Ne.symm n10)
  have S62_17 := g22 q17 (Or.inr (kt_nz kq17.1 (by decide))) (Ne.symm n17)
  have n26 : q26 ≠ q1 := fun e => by rw [e, kq22] at k26; exact absurd k26 (by decide)
  have nt1 : qt ≠ q1 := fun e => by rw [e, kq22] at u2'; exact absurd u2' (by decide)
  have np1 : qp ≠ q1 := fun e => by rw [e, kq22] at u3; exact absurd u3 (by decide)
  have S62_26 := g29 q26 (Or.inr (kt_nz w1 (by decide))) n26
  have S62_t := g29 qt (Or.inr (kt_nz w6 (by decide))) nt1
  have S62_p := g29 qp (Or.inr (kt_nz w8 (by decide))) np1
  have S62_34 := g38 q34 (Or.inr (kt_nz kq34.1 (by decide))) (Ne.symm n34)
  -- the owners, group by group
  have al0 : AL Sb (fun _ => 0) (fun _ => 0) (fun _ => False) := fun r hr => hr.elim
  obtain ⟨L1, O1, -, L1a, al1⟩ := al_one (S := nw Sb q1 6 0) (q := q1) (r0 := 1) al0 (fun a ha => absurd (h0 a) ha) hq k1S (fun x => x)
  have m5 : ∀ a, kT (nw Sb q1 6 0) a ≠ 0 → kT S5 a ≠ 0 := fun a ha => by rw [(n1 a (Or.inr ha)).T]; exact ha
  obtain ⟨L2, O2, L2u, L2k, al2⟩ := al_bulk (S := S5) (K := fun x => x = 2 ∨ x = 8 ∨ x = 9 ∨ (100 ≤ x ∧ x ≤ 160)) (h := fun x => if x = 2 then q2 else if x = 8 then qs else if x = 9 then qa else r (x - 100)) al1 m5 (fun x hx => by
    rcases hx with e | e | e | e
    · subst e; exact ⟨k2, kt_nz c1 (by decide)⟩
    · subst e; exact ⟨o2, kt_nz c5 (by decide)⟩
    · subst e; exact ⟨o3, kt_nz c8 (by decide)⟩
    · rw [if_neg (by omega), if_neg (by omega), if_neg (by omega)]
      exact ⟨o4 _ (by omega), kt_nz (c10 _ (by omega)).1 (by decide)⟩) (fun x z hx hz' e => by
    rcases hx with h1 | h1 | h1 | h1 <;> rcases hz' with h2 | h2 | h2 | h2
    · omega
    · rw [if_pos h1, if_neg (by omega), if_pos h2] at e; exact absurd e d1
    · rw [if_pos h1, if_neg (by omega), if_neg (by omega), if_pos h2] at e; exact absurd e d2
    · rw [if_pos h1, if_neg (by omega), if_neg (by omega), if_neg (by omega)] at e; exact absurd e.symm (d4 _ (by omega)).1
    · rw [if_neg (by omega), if_pos h1, if_pos h2] at e; exact absurd e.symm d1
    · omega
    · rw [if_neg (by omega), if_pos h1, if_neg (by omega), if_neg (by omega), if_pos h2] at e; exact absurd e d3
    · rw [if_neg (by omega), if_pos h1, if_neg (by omega), if_neg (by omega), if_neg (by omega)] at e; exact absurd e.symm (d4 _ (by omega)).2.1
    · rw [if_neg (by omega), if_neg (by omega), if_pos h1, if_pos h2] at e; exact absurd e.symm d2
    · rw [if_neg (by omega), if_neg (by omega), if_pos h1, if_neg (by omega), if_pos h2] at e; exact absurd e.symm d3
    · omega
    · rw [if_neg (by omega), if_neg (by omega), if_pos h1, if_neg (by omega), if_neg (by omega), if_neg (by omega)] at e; exact absurd e.symm (d4 _ (by omega)).2.2
    · rw [if_neg (by omega), if_neg (by omega), if_neg (by omega), if_pos h2] at e; exact absurd e (d4 _ (by omega)).1
    · rw [if_neg (by omega), if_neg (by omega), if_neg (by omega), if_neg (by omega), if_pos h2] at e; exact absurd e (d4 _ (by omega)).2.1
    · rw [if_neg (by omega), if_neg (by omega), if_neg (by omega), if_neg (by omega), if_neg (by omega), if_pos h2] at e; exact absurd e (d4 _ (by omega)).2.2
    · rw [if_neg (by omega), if_neg (by omega), if_neg (by omega), if_neg (by omega), if_neg (by omega), if_neg (by omega)] at e
      have := d5 _ _ (by omega) (by omega) e
      omega) (fun x hx hk => by
    rcases hx with e | e
    · exact e
    · omega)
  have m8 := f8.kt (kt_nz kq8 (by decide))
  obtain ⟨L3, O3, L3u, L3k, al3⟩ := al_one (Sb := S8) (S := S14) (q := q10) (r0 := 3) (fun x hx => ⟨(al2 x hx).1, m8 _ (al2 x hx).2⟩) (f14.kt (kt_nz kq14 (by decide))) k10 (kt_nz kq10.1 (by decide)) (fun hx => by rcases hx with (e | e) | e | e | e | e <;> first | exact e | omega)
  obtain ⟨L4, O4, L4u, L4k, al4⟩ := al_one (Sb := S14) (S := S22) (q := q17) (r0 := 4) al3 (f22.kt (kt_nz kq22 (by decide))) k17 (kt_nz kq17.1 (by decide)) (fun hx => by rcases hx with ((e | e) | e | e | e | e) | e <;> first | exact e | omega)
  have m29 : ∀ a, kT S22 a ≠ 0 → kT S29 a ≠ 0 := fun a ha => by rw [(t1 a (Or.inr ha)).T]; exact ha
  obtain ⟨L5, O5, L5u, L5k, al5⟩ := al_bulk (S := S29) (K := fun x => x = 5 ∨ x = 10 ∨ x = 11) (h := fun x => if x = 5 then q26 else if x = 10 then qt else qp) al4 m29 (fun x hx => by
    rcases hx with e | e | e
    · subst e; exact ⟨k26, kt_nz w1 (by decide)⟩
    · subst e; exact ⟨u2', kt_nz w6 (by decide)⟩
    · subst e; exact ⟨u3, kt_nz w8 (by decide)⟩) (fun x z hx hz' e => by
    rcases hx with h1 | h1 | h1 <;> rcases hz' with h2 | h2 | h2
    · omega
    · rw [if_pos h1, if_neg (by omega), if_pos h2] at e; exact absurd e v1
    · rw [if_pos h1, if_neg (by omega), if_neg (by omega)] at e; exact absurd e v2
    · rw [if_neg (by omega), if_pos h1, if_pos h2] at e; exact absurd e.symm v1
    · omega
    · rw [if_neg (by omega), if_pos h1, if_neg (by omega), if_neg (by omega)] at e; exact absurd e v3
    · rw [if_neg (by omega), if_neg (by omega), if_pos h2] at e; exact absurd e.symm v2
    · rw [if_neg (by omega), if_neg (by omega), if_neg (by omega), if_pos h2] at e; exact absurd e.symm v3
    · omega) (fun x hx hk => by rcases hx with (((e | e) | e | e | e | e) | e) | e <;> first | exact e | omega)
  have m32 := f32.kt (kt_nz kq32 (by decide))
  obtain ⟨L6, O6, L6u, L6k, al6⟩ := al_one (Sb := S32) (S := S38) (q := q34) (r0 := 6) (fun x hx => ⟨(al5 x hx).1, m32 _ (al5 x hx).2⟩) (f38.kt (kt_nz kq38 (by decide))) k34 (kt_nz kq34.1 (by decide)) (fun hx => by rcases hx with ((((e | e) | e | e | e | e) | e) | e) | e | e | e <;> first | exact e | omega)
  obtain ⟨L7, O7, L7u, L7k, al7⟩ := al_one (Sb := S38) (S := S62) (q := q41) (r0 := 7) al6 (f62.kt (kt_nz kq62 (by decide))) k41 (kt_nz kq41.1 (by decide)) (fun hx => by rcases hx with (((((e | e) | e | e | e | e) | e) | e) | e | e | e) | e <;> first | exact e | omega)
  have l1 : L7 1 = q1 := by
    rw [L7u 1 (by simp), L6u 1 (by simp), L5u 1 (by simp), L4u 1 (by simp), L3u 1 (by simp), L2u 1 (by simp)]; exact L1a
  have l2 : L7 2 = q2 := by
    rw [L7u 2 (by simp), L6u 2 (by simp), L5u 2 (by simp), L4u 2 (by simp), L3u 2 (by simp), L2k 2 (by simp)]; rfl
  have l8 : L7 8 = qs := by
    rw [L7u 8 (by simp), L6u 8 (by simp), L5u 8 (by simp), L4u 8 (by simp), L3u 8 (by simp), L2k 8 (by simp)]; rfl
  have l9 : L7 9 = qa := by
    rw [L7u 9 (by simp), L6u 9 (by simp), L5u 9 (by simp), L4u 9 (by simp), L3u 9 (by simp), L2k 9 (by simp)]; rfl
  have lr : ∀ i, i ≤ 60 → L7 (100 + i) = r i := fun i hi => by
    have hk : (100 + i = 2 ∨ 100 + i = 8 ∨ 100 + i = 9 ∨ (100 ≤ 100 + i ∧ 100 + i ≤ 160)) := by omega
    rw [L7u _ (Or.inl (Or.inl (Or.inl (Or.inl (Or.inr hk))))), L6u _ (Or.inl (Or.inl (Or.inl (Or.inr hk)))), L5u _ (Or.inl (Or.inl (Or.inr hk))), L4u _ (Or.inl (Or.inr hk)), L3u _ (Or.inr hk), L2k _ hk]
    rw [if_neg (by omega), if_neg (by omega), if_neg (by omega), Nat.add_sub_cancel_left]
  have l3 : L7 3 = q10 := by
    rw [L7u 3 (by simp), L6u 3 (by simp), L5u 3 (by simp), L4u 3 (by simp)]; exact L3k
  have l4 : L7 4 = q17 := by
    rw [L7u 4 (by simp), L6u 4 (by simp), L5u 4 (by simp)]; exact L4k
  have l5 : L7 5 = q26 := by
    rw [L7u 5 (by simp), L6u 5 (by simp), L5k 5 (by simp)]; rfl
  have l10 : L7 10 = qt := by
    rw [L7u 10 (by simp), L6u 10 (by simp), L5k 10 (by simp)]; rfl
  have l11 : L7 11 = qp := by
    rw [L7u 11 (by simp), L6u 11 (by simp), L5k 11 (by simp)]; rfl
  have l6 : L7 6 = q34 := by
    rw [L7u 6 (by simp)]; exact L6k
  have l7 : L7 7 = q41 := L7k
  have all : AL S62 L7 O7 UA := fun x hx => al7 x (by
    unfold UA at hx
    have : x = 1 ∨ x = 2 ∨ x = 3 ∨ x = 4 ∨ x = 5 ∨ x = 6 ∨ x = 7 ∨ x = 8 ∨ x = 9 ∨ x = 10 ∨ x = 11 ∨ (100 ≤ x ∧ x ≤ 160) := by omega
    rcases this with e | e | e | e | e | e | e | e | e | e | e | e <;> simp [e])
  have s0 : Sm Sb S62 0 := by
    have a1 : Sm Sb (nw Sb q1 6 0) 0 := sm_nw (Ne.symm hz)
    exact a1.tr ((n1 0 (Or.inl rfl)).tr (g5 0 (Or.inl rfl) (Ne.symm hz)))
  refine hp S62 L7 O7 all (fun a ha e => ?_) l1 s0 ⟨?_, fun c hc => ?_, fun t ht => absurd ht (by omega), fun t ht => absurd ht (by omega), fun t ht => absurd ht (by omega), fun c hc k hk => ?_, fun c h1 hc => absurd hc (by omega), fun i hi => absurd hi (by omega), fun y i hy h60 hi => ?_⟩
  · rw [e, s0.T] at ha
    exact ha (h0 0)
  · unfold StR
    rw [l1, l2, l3, l4, l5, l6, l7, l8, l9, l10, l11]
    refine ⟨kq62, S62_2.T.trans c1, S62_10.T.trans kq10.1, S62_10.L.trans kq10.2, S62_17.T.trans kq17.1, S62_17.L.trans kq17.2, S62_26.T.trans w1, S62_34.T.trans kq34.1, S62_34.L.trans kq34.2, kq41.1, kq41.2, S62_s.T.trans c5, S62_s.L.trans c6, S62_a.T.trans c8, S62_a.L.trans c9, S62_t.T.trans w6, S62_t.L.trans w7, S62_p.T.trans w8, S62_p.L.trans w9, ?_, ?_, ?_, ?_, ?_, ?_, ?_, ?_, ?_, ?_, ?_, ?_, ?_, ?_, ?_, ?_, ?_, ?_, ?_⟩
    · rw [R62, if_neg (by decide), R38, if_neg (by decide), R32, if_neg (by decide), R22, if_neg (by decide), R14, if_neg (by decide), R8, if_pos rfl]
    · rw [R62, if_neg (by decide), R38, if_neg (by decide), R32, if_neg (by decide), R22, if_neg (by decide), R14, if_pos rfl]
    · rw [R62, if_neg (by decide), R38, if_neg (by decide), R32, if_neg (by decide), R22, if_pos rfl]
    · rw [R62, if_neg (by decide), R38, if_neg (by decide), R32, if_pos rfl]
    · rw [R62, if_neg (by decide), R38, if_pos rfl]
    · rw [R62, if_pos rfl]
    · rw [S62_2.2.2]; exact c2
    · rw [S62_2.2.2]; exact c3
    · rw [S62_26.2.2]; exact w2
    · rw [S62_26.2.2]; exact w3
    · rw [I62]; rfl
    · rw [I62]; rfl
    · rw [I62]; rfl
    · rw [I62]; rfl
    · rw [I62]; rfl
    · rw [I62]; rfl
    · rw [S62_2.2.1, c4]; rfl
    · rw [S62_26.2.1, w4]; rfl
    · rw [S62_26.2.1, w5]; rfl
  · unfold RwR
    rw [lr c hc, l8]
    have sr := S62_r c (by omega)
    exact ⟨sr.T.trans (c10 c (by omega)).1, sr.L.trans (c10 c (by omega)).2, by rw [S62_s.2.2]; exact c7 c (by omega)⟩
  · have e0 : c = 0 := by omega
    subst e0
    rw [lr 0 (by omega), (S62_r 0 (by omega)).2.1, c11 k hk]
    show _ = if 15 = 15 ∧ 32 * 0 + k < 32 then (-1000 : Int32) else 0
    rw [if_pos ⟨rfl, by omega⟩]
  · have hy' : (0 : Int32) = nI y := hy
    have : 0 = y := (nI_eq (a := 0) (b := y) (by omega) (by omega)).mp hy'
    omega
