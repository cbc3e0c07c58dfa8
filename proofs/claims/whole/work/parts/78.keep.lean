/-! an operation: its view, its cells, its rows -/
def vwd (σ : Sg) (C t k : Nat) : Int32 := if σ.2 10 (32 * t + k) = -5000 then stf σ C k else σ.2 10 (32 * t + k)
section KP
variable {S S' : MS} {l1 l2 l3 l4 : Nat} {loc ow : Nat → Nat} {σ σ1 σ2 : Sg} {M C N : Nat}
/-- a cell without a role is made or written -/
theorem mr_free (h : MR S l1 l2 l3 l4 loc ow σ σ1 M C N) {q : Nat} (hs : ∀ a, a ≠ q → Sm S S' a) (hq : ∀ r, Us σ1 M N r → loc r ≠ q) (hz : q ≠ 0) : MR S' l1 l2 l3 l4 loc ow σ σ1 M C N := by
  obtain ⟨hM, hC, hN⟩ := h.bd
  have hnz := h.2.2.2.2.2.2.2.2.2.1
  refine mr_mk h (fun _ _ => rfl) rfl (hs 0 (Ne.symm hz)) (fun r hr _ => hs _ (hq r hr)) (fun r hr => ?_) (fun x hx => ?_) ⟨hM, hC, hN⟩ (rc_same hM hC hN ⟨fun r hr _ _ _ => hs _ (hq r hr), (hs _ (hq 6 (us_s (by omega) (by omega)))).1, (hs _ (hq 7 (us_s (by omega) (by omega)))).1⟩ h.rc)
  · rw [(hs _ (hq r hr)).T]; exact h.owr r hr
  · by_cases e : x = q
    · rw [e]; exact hz
    · rw [(hs x e).T] at hx; exact hnz x hx
theorem Mid.free (h : Mid S l1 l2 l3 l4 loc ow σ σ1 M C N) {q : Nat} (hs : ∀ a, a ≠ q → Sm S S' a) (hq : ∀ r, Us σ1 M N r → loc r ≠ q) (hz : q ≠ 0) : Mid S' l1 l2 l3 l4 loc ow σ σ1 M C N := (mr_free h.mr hs hq hz).mid h.wf
theorem Mid.fresh (h : Mid S l1 l2 l3 l4 loc ow σ σ1 M C N) {q : Nat} (hk : kT S q = 0) : ∀ r, Us σ1 M N r → loc r ≠ q := fun r hr e => (h.owr r hr).2 (by rw [e]; exact hk)
/-- an operation's cell without a role -/
def Opq (S : MS) (loc : Nat → Nat) (σ : Sg) (M N q : Nat) (kd lo hi num : Int32) : Prop := kT S q = 3 ∧ q ≠ 0 ∧ (∀ r, Us σ M N r → loc r ≠ q) ∧ sI S q 0 = kd ∧ sI S q 1 = lo ∧ sI S q 2 = hi ∧ sI S q 3 = num
theorem Opq.sm {q : Nat} {kd lo hi num : Int32} (h : Opq S loc σ1 M N q kd lo hi num) (hs : Sm S S' q) : Opq S' loc σ1 M N q kd lo hi num := by
  obtain ⟨a, b, c, d, e, f, g⟩ := h
  exact ⟨by rw [hs.T]; exact a, b, c, by rw [hs.2.1]; exact d, by rw [hs.2.1]; exact e, by rw [hs.2.1]; exact f, by rw [hs.2.1]; exact g⟩
theorem cl_opInit (h : Mid S l1 l2 l3 l4 loc ow σ σ1 M C N) {q : Nat} (hk : kT S q = 0) (hz : ¬ q = 0) {a b c d : Int32} {post : MS → Prop} (hp : ∀ S', Mid S' l1 l2 l3 l4 loc ow σ σ1 M C N → Opq S' loc σ1 M N q a b c d → (∀ x, x ≠ q → Sm S S' x) → post S') : w_X2_init (nw S q 3 0) q a b c d post := by
  refine ⟨kT_nw _ _ _ _, fun S2 e2 S4 e4 S6 e6 S8 e8 => ?_⟩
  have hs : ∀ x, x ≠ q → Sm S S8 x := fun x hx => by
    rw [e8, e6, e4, e2]
    exact (sm_nw hx).tr ((sm_pI hx).tr ((sm_pI hx).tr ((sm_pI hx).tr (sm_pI hx))))
  refine hp S8 (h.free hs (h.fresh hk) hz) ⟨?_, hz, h.fresh hk, ?_, ?_, ?_, ?_⟩ hs
  all_goals rw [e8, e6, e4, e2]
  · exact kT_nw _ _ _ _
  all_goals simp [sI, pI, u2]
/-- a row past the newest store is free -/
theorem mid_row (h : Mid S l1 l2 l3 l4 loc ow σ σ1 M C N) {c k : Nat} {v : Int32} (hc : C < c) (h60 : c ≤ 60) : Mid (pI S (loc (100 + c)) k v) l1 l2 l3 l4 loc ow σ σ1 M C N := by
  have u := us_r (σ := σ1) (M := M) (N := N) h60
  obtain ⟨hM, hC, hN⟩ := h.mr.bd
  have ne : ∀ {q}, Us σ1 M N q → q ≠ 100 + c → sI (pI S (loc (100 + c)) k v) (loc q) = sI S (loc q) := fun hq hn => u2_ne _ _ _ (h.ne hq u hn)
  refine (mr_putI h.mr u (by omega) (fun q hq => hq) ⟨hM, hC, hN⟩ ?_).mid h.wf
  obtain ⟨r1, r2, r3, r4, r5, r6, r7, r8, r9⟩ := h.rc
  refine ⟨?_, r2, fun t ht => ?_, fun t ht j hj => ?_, fun t ht i z hz h24 hi => ?_, fun c' hc' j hj => ?_, r7, fun i hi => ?_, fun y i hy h60 hi => ?_⟩
  · unfold StR at r1 ⊢
    rw [ne (us_s (r := 1) (by omega) (by omega)) (by omega), ne (us_s (r := 2) (by omega) (by omega)) (by omega), ne (us_s (r := 5) (by omega) (by omega)) (by omega)]
    exact r1
  · have := r3 t ht
    unfold TxR at this ⊢
    rw [ne (us_t (σ := σ1) (N := N) ht).1 (by omega)]
    exact this
  · have := r4 t ht j hj
    unfold KyR at this ⊢
    rw [ne (us_t (σ := σ1) (N := N) ht).1 (by omega), ne (us_t (σ := σ1) (N := N) ht).2.2.1 (by omega), ne (us_t (σ := σ1) (N := N) ht).2.2.2 (by omega)]
    exact this
  · have := r5 t ht i z hz h24 hi
    unfold OpR at this ⊢
    rw [ne (us_z ht hz h24 hi) (by omega)]
    exact this
  · rw [ne (us_r (by omega)) (by omega)]
    exact r6 c' hc' j hj
  · have := r8 i hi
    unfold CnR at this ⊢
    rw [ne (us_c hi) (by omega)]
    exact this
  · rw [ne (us_s (r := 10) (by omega) (by omega)) (by omega)]
    exact r9 y i hy h60 hi
/-- the writes of t over a row -/
theorem cl_aw_loop {t b : Nat} (ht : t < M) {f0 : Nat → Int32} (hput : ∀ (S : MS) k v, Mid S l1 l2 l3 l4 loc ow σ σ1 M C N → Mid (pI S b k v) l1 l2 l3 l4 loc ow σ σ1 M C N) (hb4 : loc (500 + t) ≠ b) (S0 : MS) {post : MS → Prop} (hp : ∀ S', Mid S' l1 l2 l3 l4 loc ow σ σ1 M C N → (∀ a, a ≠ b → Sm S0 S' a) → S'.1 = S0.1 → (∀ k, k < 32 → sI S' b k = if σ1.2 10 (32 * t + k) = -5000 then f0 k else σ1.2 10 (32 * t + k)) → post S') (hb : kT S0 b = 9 ∧ kL S0 b = 32) : ∀ n i (S : MS), i + n = 32 → Mid S l1 l2 l3 l4 loc ow σ σ1 M C N → (∀ a, a ≠ b → Sm S0 S a) → S.1 = S0.1 → (∀ k, k < i → sI S b k = if σ1.2 10 (32 * t + k) = -5000 then f0 k else σ1.2 10 (32 * t + k)) → (∀ k, i ≤ k → k < 32 → sI S b k = f0 k) → b_X4_applyWrites_2 post (n + 1) S (loc (200 + t)) b (nI i) := by
  intro n
  induction n with
  | zero =>
    intro i S hi h hsm hk h1 h2
    have e : i = 32 := by omega
    subst e
    rw [b_X4_applyWrites_2]
    exact ⟨fun _ => hp S h hsm hk (fun k hk => h1 k hk), fun q => absurd (Int32.le_refl _) q⟩
  | succ n ih =>
    intro i S hi h hsm hk h1 h2
    obtain ⟨b1, b2, b3, b4, b5, b6, b7, b8, b9, b10, b11, b12, b13, b14, b15, b16, b17, b18⟩ := h.tx ht
    have kb : kT S b = 9 ∧ kL S b = 32 := by
      unfold kT kL at hb ⊢
      rw [hk]; exact hb
    rw [b_X4_applyWrites_2]
    simp only [b_X4_applyWrites_25]
    refine ⟨fun q => absurd q (i32_lt32 (by omega)), fun _ => ⟨b1, cl_hasWr h ht (by omega) ⟨fun g v hv => ?_, fun g => ?_⟩⟩⟩
    · rw [hv, nI_1]
      have g := Classical.not_not.mp (bI_z.mp g)
      refine ih (i + 1) S (by omega) h hsm hk (fun k hk => ?_) (fun k h3 h4 => h2 k (by omega) h4)
      by_cases e : k = i
      · rw [e, if_pos g]; exact h2 i (by omega) (by omega)
      · exact h1 k (by omega)
    · have g := bI_nz.mp g
      rw [b5, b11, ix_nI (by omega), kb.2, (h.ky ht (show i < 32 by omega)).2.2.2 g]
      refine ⟨b1, b10, vp_in_nI (by omega) (by omega), kb.1, vp_in_nI (by omega) (by omega), fun S9 e9 v hv => ?_⟩
      rw [hv, nI_1, e9]
      refine ih (i + 1) _ (by omega) (hput S _ _ h) (fun a ha => (hsm a ha).tr (sm_pI ha)) hk (fun k hk => ?_) (fun k h3 h4 => ?_)
      · rw [sI_pI, if_pos rfl]
        by_cases e : k = i
        · rw [if_pos e, e, if_neg g]
        · rw [if_neg e]; exact h1 k (by omega)
      · rw [sI_pI, if_pos rfl, if_neg (by omega)]; exact h2 k (by omega) h4
theorem cl_viewOf (h : Mid S l1 l2 l3 l4 loc ow σ σ1 M C N) {t : Nat} (ht : t < M) {post : Nat → MS → Prop} (hp : ∀ S', Mid S' l1 l2 l3 l4 loc ow σ σ1 M C N → (∀ a, a ≠ loc 6 → Sm S S' a) → (∀ k, k < 32 → sI S' (loc 6) k = vwd σ1 C t k) → post (loc 6) S') : w_X5_viewOf S l1 (loc (200 + t)) post := by
  obtain ⟨a1, a2, a3⟩ := h.his
  obtain ⟨v1, v2, v3⟩ := h.vwr
  obtain ⟨c1, c2, c3, c4⟩ := h.row (Nat.le_refl C)
  have h2 := mid_cpI h (a := loc (100 + C)) (n := 32)
  have u6 : Us σ1 M N 6 := us_s (by omega) (by omega)
  have hM := h.M80
  unfold w_X5_viewOf
  rw [a1]
  refine ⟨h.k1, a2, cl_newest h ?_⟩
  rw [v1, c2, v3, ix0', ix32]
  refine ⟨h.k1, c1, v2, by omega, by omega, fun S10 e10 => ?_⟩
  rw [e10, h2.vwr.1]
  refine ⟨(h2.tx ht).1, 33, cl_aw_loop ht (f0 := stf σ1 C) (b := loc 6) (fun S k v hm => mid_scr hm (Or.inl rfl)) (h.ne (us_t (σ := σ1) (N := N) ht).2.2.2 u6 (by omega)) (cpI S (loc (100 + C)) (loc 6) 32) (fun S' h' hs' hk' hv' => ?_) ⟨h2.vwr.2.1, h2.vwr.2.2⟩ 32 0 _ (by omega) h2 (fun a _ => Sm.rf _ a) rfl (fun k hk => by omega) (fun k _ hk => by rw [sI_cpI hk]; exact c3 k hk)⟩
  rw [h'.vwr.1]
  refine ⟨h'.k1, hp S' h' (fun a ha => Sm.tr (show Sm S (cpI S (loc (100 + C)) (loc 6) 32) a from ⟨rfl, if_neg ha, rfl⟩) (hs' a ha)) (fun k hk => hv' k hk)⟩
/-- a key is recorded -/
theorem mr_rec (h : MR S l1 l2 l3 l4 loc ow σ σ1 M C N) {t k : Nat} {v : Int32} (ht : t < M) (hk : k < 32) (hv : ¬ v = -1) : MR (pI (pI S (loc (200 + t)) 6 (sI S (loc (200 + t)) 6 ||| ((1 : Int32) <<< (nI k &&& 31)))) (loc (400 + t)) k v) l1 l2 l3 l4 loc ow σ (sA σ1 9 (32 * t + k) v) M C N := by
  obtain ⟨hM, hC, hN⟩ := h.bd
  obtain ⟨ua, ub, uc, ud⟩ := us_t (σ := σ1) (N := N) ht
  have rne : ∀ j, j ≠ 9 → (sA σ1 9 (32 * t + k) v).2 j = σ1.2 j := fun j hj => u2_ne _ _ _ hj
  have nac : loc (400 + t) ≠ loc (200 + t) := h.ne uc ua (by omega)
  have sm : ∀ {q}, Us σ1 M N q → q ≠ 200 + t → q ≠ 400 + t → Sm S (pI (pI S (loc (200 + t)) 6 (sI S (loc (200 + t)) 6 ||| ((1 : Int32) <<< (nI k &&& 31)))) (loc (400 + t)) k v) (loc q) := fun hq h1 h2 => (sm_pI (h.ne hq ua h1)).tr (sm_pI (h.ne hq uc h2))
  have ne : ∀ {q}, Us σ1 M N q → q ≠ 200 + t → q ≠ 400 + t → sI (pI (pI S (loc (200 + t)) 6 (sI S (loc (200 + t)) 6 ||| ((1 : Int32) <<< (nI k &&& 31)))) (loc (400 + t)) k v) (loc q) = sI S (loc q) := fun hq h1 h2 => (sm hq h1 h2).2.1
  have xa : ∀ j, sI (pI (pI S (loc (200 + t)) 6 (sI S (loc (200 + t)) 6 ||| ((1 : Int32) <<< (nI k &&& 31)))) (loc (400 + t)) k v) (loc (200 + t)) j = if j = 6 then (sI S (loc (200 + t)) 6 ||| ((1 : Int32) <<< (nI k &&& 31))) else sI S (loc (200 + t)) j := fun j => by
    rw [sI_pI, if_neg (Ne.symm nac), sI_pI, if_pos rfl]
  have xc : ∀ j, sI (pI (pI S (loc (200 + t)) 6 (sI S (loc (200 + t)) 6 ||| ((1 : Int32) <<< (nI k &&& 31)))) (loc (400 + t)) k v) (loc (400 + t)) j = if j = k then v else sI S (loc (400 + t)) j := fun j => by
    rw [sI_pI, if_pos rfl, sI_pI, if_neg nac]
  have hcP := cP_8 (σ' := sA σ1 9 (32 * t + k) v) (rne 8 (by decide))
  refine mr_mk h (fun _ _ => rfl) rfl ((sm_pI (Ne.symm (h.nz ua))).tr (sm_pI (Ne.symm (h.nz uc)))) (fun r hr h5 => sm hr (by omega) (by omega)) (fun r hr => h.owr r (us_r7 (rne 7 (by decide)) hr)) (fun x hx => h.2.2.2.2.2.2.2.2.2.1 x hx) ⟨hM, hC, hN⟩ ?_
  obtain ⟨r1, r2, r3, r4, r5, r6, r7, r8, r9⟩ := h.rc
  refine ⟨?_, r2, fun u hu => ?_, fun u hu j hj => ?_, fun u hu i z hz h24 hi => ?_, fun c hc' j hj => ?_, fun c h1 hc' u hu hq => ?_, fun i hi => ?_, fun y i hy h60 hi => ?_⟩
  · unfold StR at r1 ⊢
    rw [ne (us_s (r := 1) (by omega) (by omega)) (by omega) (by omega), ne (us_s (r := 2) (by omega) (by omega)) (by omega) (by omega), ne (us_s (r := 5) (by omega) (by omega)) (by omega) (by omega)]
    exact r1
  · have := r3 u hu
    have f : ∀ {j}, j ≠ 6 → sI (pI (pI S (loc (200 + t)) 6 (sI S (loc (200 + t)) 6 ||| ((1 : Int32) <<< (nI k &&& 31)))) (loc (400 + t)) k v) (loc (200 + u)) j = sI S (loc (200 + u)) j := fun {j} hj => by
      by_cases e : u = t
      · rw [e, xa, if_neg hj]
      · rw [ne (us_t (σ := σ1) (N := N) hu).1 (by omega) (by omega)]
    unfold TxR at this ⊢
    rw [f (by decide), f (by decide), f (by decide), f (by decide), f (by decide), f (by decide), f (by decide), rne 3 (by decide), rne 7 (by decide), rne 2 (by decide), rne 4 (by decide), rne 5 (by decide), rne 6 (by decide)]
    exact this
  · have := r4 u hu j hj
    unfold KyR at this ⊢
    rw [rne 10 (by decide), ne (us_t (σ := σ1) (N := N) hu).2.2.2 (by omega) (by omega)]
    by_cases e : u = t
    · subst e
      rw [xa, if_pos rfl, xa, if_neg (by decide), xc, sA_at, hb_or hk hj]
      by_cases e2 : j = k
      · subst e2
        rw [if_pos rfl, if_pos rfl]
        exact ⟨⟨fun _ => hv, fun _ => Or.inr rfl⟩, fun _ => rfl, this.2.2⟩
      · rw [if_neg (show ¬ 32 * u + j = 32 * u + k by omega), if_neg e2]
        refine ⟨⟨fun q => this.1.mp (q.elim id (fun x => absurd x e2)), fun q => Or.inl (this.1.mpr q)⟩, this.2⟩
    · rw [ne (us_t (σ := σ1) (N := N) hu).1 (by omega) (by omega), ne (us_t (σ := σ1) (N := N) hu).2.2.1 (by omega) (by omega), sA_at, if_neg (by omega)]
      exact this
  · rw [rne 7 (by decide)] at hz
    have := r5 u hu i z hz h24 hi
    unfold OpR at this ⊢
    rw [ne (us_z hu hz h24 hi) (by omega) (by omega), rne 8 (by decide), rne 11 (by decide), hcP]
    exact this
  · rw [ne (us_r (by omega)) (by omega) (by omega), rne 15 (by decide)]
    exact r6 c hc' j hj
  · rw [rne 16 (by decide)] at hq
    exact r7 c h1 hc' u hu hq
  · have := r8 i hi
    unfold CnR at this ⊢
    rw [ne (us_c hi) (by omega) (by omega), rne 20 (by decide)]
    exact this
  · rw [ne (us_s (r := 10) (by omega) (by omega)) (by omega) (by omega), rne 24 (by decide)]
    exact r9 y i hy h60 hi
/-- a key is written -/
theorem mr_wrt (h : MR S l1 l2 l3 l4 loc ow σ σ1 M C N) {t k : Nat} {v : Int32} (ht : t < M) (hk : k < 32) (hv : ¬ v = -5000) : MR (pI (pI S (loc (200 + t)) 7 (sI S (loc (200 + t)) 7 ||| ((1 : Int32) <<< (nI k &&& 31)))) (loc (500 + t)) k v) l1 l2 l3 l4 loc ow σ (sA σ1 10 (32 * t + k) v) M C N := by
  obtain ⟨hM, hC, hN⟩ := h.bd
  obtain ⟨ua, ub, uc, ud⟩ := us_t (σ := σ1) (N := N) ht
  have rne : ∀ j, j ≠ 10 → (sA σ1 10 (32 * t + k) v).2 j = σ1.2 j := fun j hj => u2_ne _ _ _ hj
  have nac : loc (500 + t) ≠ loc (200 + t) := h.ne ud ua (by omega)
  have sm : ∀ {q}, Us σ1 M N q → q ≠ 200 + t → q ≠ 500 + t → Sm S (pI (pI S (loc (200 + t)) 7 (sI S (loc (200 + t)) 7 ||| ((1 : Int32) <<< (nI k &&& 31)))) (loc (500 + t)) k v) (loc q) := fun hq h1 h2 => (sm_pI (h.ne hq ua h1)).tr (sm_pI (h.ne hq ud h2))
  have ne : ∀ {q}, Us σ1 M N q → q ≠ 200 + t → q ≠ 500 + t → sI (pI (pI S (loc (200 + t)) 7 (sI S (loc (200 + t)) 7 ||| ((1 : Int32) <<< (nI k &&& 31)))) (loc (500 + t)) k v) (loc q) = sI S (loc q) := fun hq h1 h2 => (sm hq h1 h2).2.1
  have xa : ∀ j, sI (pI (pI S (loc (200 + t)) 7 (sI S (loc (200 + t)) 7 ||| ((1 : Int32) <<< (nI k &&& 31)))) (loc (500 + t)) k v) (loc (200 + t)) j = if j = 7 then (sI S (loc (200 + t)) 7 ||| ((1 : Int32) <<< (nI k &&& 31))) else sI S (loc (200 + t)) j := fun j => by
    rw [sI_pI, if_neg (Ne.symm nac), sI_pI, if_pos rfl]
  have xc : ∀ j, sI (pI (pI S (loc (200 + t)) 7 (sI S (loc (200 + t)) 7 ||| ((1 : Int32) <<< (nI k &&& 31)))) (loc (500 + t)) k v) (loc (500 + t)) j = if j = k then v else sI S (loc (500 + t)) j := fun j => by
    rw [sI_pI, if_pos rfl, sI_pI, if_neg nac]
  have hcP := cP_8 (σ' := sA σ1 10 (32 * t + k) v) (rne 8 (by decide))
  refine mr_mk h (fun _ _ => rfl) rfl ((sm_pI (Ne.symm (h.nz ua))).tr (sm_pI (Ne.symm (h.nz ud)))) (fun r hr h5 => sm hr (by omega) (by omega)) (fun r hr => h.owr r (us_r7 (rne 7 (by decide)) hr)) (fun x hx => h.2.2.2.2.2.2.2.2.2.1 x hx) ⟨hM, hC, hN⟩ ?_
  obtain ⟨r1, r2, r3, r4, r5, r6, r7, r8, r9⟩ := h.rc
  refine ⟨?_, r2, fun u hu => ?_, fun u hu j hj => ?_, fun u hu i z hz h24 hi => ?_, fun c hc' j hj => ?_, fun c h1 hc' u hu hq => ?_, fun i hi => ?_, fun y i hy h60 hi => ?_⟩
  · unfold StR at r1 ⊢
    rw [ne (us_s (r := 1) (by omega) (by omega)) (by omega) (by omega), ne (us_s (r := 2) (by omega) (by omega)) (by omega) (by omega), ne (us_s (r := 5) (by omega) (by omega)) (by omega) (by omega)]
    exact r1
  · have := r3 u hu
    have f : ∀ {j}, j ≠ 7 → sI (pI (pI S (loc (200 + t)) 7 (sI S (loc (200 + t)) 7 ||| ((1 : Int32) <<< (nI k &&& 31)))) (loc (500 + t)) k v) (loc (200 + u)) j = sI S (loc (200 + u)) j := fun {j} hj => by
      by_cases e : u = t
      · rw [e, xa, if_neg hj]
      · rw [ne (us_t (σ := σ1) (N := N) hu).1 (by omega) (by omega)]
    unfold TxR at this ⊢
    rw [f (by decide), f (by decide), f (by decide), f (by decide), f (by decide), f (by decide), f (by decide), rne 3 (by decide), rne 7 (by decide), rne 2 (by decide), rne 4 (by decide), rne 5 (by decide), rne 6 (by decide)]
    exact this
  · have := r4 u hu j hj
    unfold KyR at this ⊢
    rw [rne 9 (by decide), ne (us_t (σ := σ1) (N := N) hu).2.2.1 (by omega) (by omega)]
    by_cases e : u = t
    · subst e
      rw [xa, if_neg (by decide), xa, if_pos rfl, xc, sA_at, hb_or hk hj]
      by_cases e2 : j = k
      · subst e2
        rw [if_pos rfl, if_pos rfl]
        exact ⟨this.1, this.2.1, ⟨fun _ => hv, fun _ => Or.inr rfl⟩, fun _ => rfl⟩
      · rw [if_neg (show ¬ 32 * u + j = 32 * u + k by omega), if_neg e2]
        refine ⟨this.1, this.2.1, ⟨fun q => this.2.2.1.mp (q.elim id (fun x => absurd x e2)), fun q => Or.inl (this.2.2.1.mpr q)⟩, this.2.2.2⟩
    · rw [ne (us_t (σ := σ1) (N := N) hu).1 (by omega) (by omega), ne (us_t (σ := σ1) (N := N) hu).2.2.2 (by omega) (by omega), sA_at, if_neg (by omega)]
      exact this
  · rw [rne 7 (by decide)] at hz
    have := r5 u hu i z hz h24 hi
    unfold OpR at this ⊢
    rw [ne (us_z hu hz h24 hi) (by omega) (by omega), rne 8 (by decide), rne 11 (by decide), hcP]
    exact this
  · rw [ne (us_r (by omega)) (by omega) (by omega), rne 15 (by decide)]
    exact r6 c hc' j hj
  · rw [rne 16 (by decide)] at hq
    exact r7 c h1 hc' u hu hq
  · have := r8 i hi
    unfold CnR at this ⊢
    rw [ne (us_c hi) (by omega) (by omega), rne 20 (by decide)]
    exact this
  · rw [ne (us_s (r := 10) (by omega) (by omega)) (by omega) (by omega), rne 24 (by decide)]
    exact r9 y i hy h60 hi
end KP
