def bv_X6_hasWritten_27 (P : Int32 → Sg → Prop) (σ : Sg) (l1 : Int32) (l2 : Int32) (s0 : Int32) : Prop := narrow .boolean (.int s0) = .int s0 ∧ P s0 σ
def v_X6_hasWritten (σ : Sg) (a1 : Int32) (a2 : Int32) (P : Int32 → Sg → Prop) : Prop := vp_in a1 61 ∧ vp_in ((32 * (σ.2 16 (ix a1))) + a2) 2560 ∧ (((σ.2 10 (ix ((32 * (σ.2 16 (ix a1))) + a2))) = ((-5000)) → bv_X6_hasWritten_27 P σ a1 a2 0) ∧ (¬ (σ.2 10 (ix ((32 * (σ.2 16 (ix a1))) + a2))) = ((-5000)) → bv_X6_hasWritten_27 P σ a1 a2 1))
set_option maxHeartbeats 4000000 in
theorem vr_X6_hasWritten {m : Nat} {ad : Nat → Nat} {S : MS} {σ : Sg} {a1 : Int32} {a2 : Int32} {P : Int32 → Sg → Prop} {post : Int32 → MS → Prop} (hR : RM m ad S σ) (h : v_X6_hasWritten σ a1 a2 P) (hpost : ∀ (r : Int32) (σ2 : Sg) (S2 : MS), P r σ2 → RM m ad S2 σ2 → Fm m ad S S2 → post r S2) : w_X6_hasWritten S m a1 a2 post := by
  have hpost := fun r σ2 S2 h1 h2 h3 => hpost r σ2 S2 h1 h2 h3
  have hF := Fm.rf m ad S
  obtain ⟨S0, hS0⟩ : ∃ z : MS, z = S := ⟨_, rfl⟩
  rw [← hS0] at hpost
  have hF : Fm m ad S0 S := by rw [hS0]; exact hF
  have g27 : ∀ (S : MS) (σ : Sg) (l1 : Int32) (l2 : Int32) (s0 : Int32), RM m ad S σ → Fm m ad S0 S → bv_X6_hasWritten_27 P σ l1 l2 s0 → b_X6_hasWritten_27 post S m l1 l2 s0 := by
    intro  S σ l1 l2 s0 hR hF h
    unfold bv_X6_hasWritten_27 at h
    unfold b_X6_hasWritten_27
    try simp only [hR.1, hR.2.1, hR.2.2.1]
    obtain ⟨hz, h⟩ := h
    exact ⟨hz, hpost _ _ _ h hR hF⟩
  unfold v_X6_hasWritten at h
  unfold w_X6_hasWritten
  try simp only [hR.1, hR.2.1, hR.2.2.1]
  refine ⟨hR.2.2.2.1, ?_⟩
  refine ⟨rm_kT hR (by decide) rfl, ?_⟩
  obtain ⟨hi1, h⟩ := h
  refine ⟨(rm_kL hR (k := 16) rfl (by decide)) ▸ hi1, ?_⟩
  refine ⟨rm_kT hR (by decide) rfl, ?_⟩
  obtain ⟨hi2, h⟩ := h
  refine ⟨(rm_kL hR (k := 10) rfl (by decide)) ▸ hi2, ?_⟩
  refine ⟨fun hc3 => ?_, fun hc3 => ?_⟩
  · have h := h.1 hc3
    exact g27 _ _ _ _ _ hR hF h
  · have h := h.2 hc3
    exact g27 _ _ _ _ _ hR hF h
def bv_X6_staleness_152 (P : Int32 → Sg → Prop) (σ : Sg) (l1 : Int32) (l2 : Int32) (l3 : Int32) (l4 : Int32) (s0 : Int32) : Prop := P s0 σ
def bv_X6_staleness_122 (KV7 : Sg → Int32 → Int32 → Int32 → Int32 → Prop) (KV19 : Sg → Int32 → Int32 → Int32 → Int32 → Int32 → Prop) (P : Int32 → Sg → Prop) (σ : Sg) (l1 : Int32) (l2 : Int32) (l3 : Int32) (l4 : Int32) (l5 : Int32) (l6 : Int32) (l7 : Int32) (s0 : Int32) : Prop := ∀ v1 : Int32, v1 = l5 + 1 → KV19 σ l1 s0 l3 l4 v1
def bv_X6_staleness_121 (KV7 : Sg → Int32 → Int32 → Int32 → Int32 → Prop) (KV19 : Sg → Int32 → Int32 → Int32 → Int32 → Int32 → Prop) (P : Int32 → Sg → Prop) (σ : Sg) (l1 : Int32) (l2 : Int32) (l3 : Int32) (l4 : Int32) (l5 : Int32) (l6 : Int32) (l7 : Int32) : Prop := bv_X6_staleness_122 KV7 KV19 P σ l1 l2 l3 l4 l5 l6 l7 0
def bv_X6_staleness_117 (KV7 : Sg → Int32 → Int32 → Int32 → Int32 → Prop) (KV19 : Sg → Int32 → Int32 → Int32 → Int32 → Int32 → Prop) (P : Int32 → Sg → Prop) (σ : Sg) (l1 : Int32) (l2 : Int32) (l3 : Int32) (l4 : Int32) (l5 : Int32) (l6 : Int32) (l7 : Int32) : Prop := bv_X6_staleness_122 KV7 KV19 P σ l1 l2 l3 l4 l5 l6 l7 1
def bv_X6_staleness_77 (KV7 : Sg → Int32 → Int32 → Int32 → Int32 → Prop) (KV19 : Sg → Int32 → Int32 → Int32 → Int32 → Int32 → Prop) (P : Int32 → Sg → Prop) (σ : Sg) (l1 : Int32) (l2 : Int32) (l3 : Int32) (l4 : Int32) (l5 : Int32) (l6 : Int32) (l7 : Int32) (s0 : Int32) : Prop := ((¬ l2 = 0 → bv_X6_staleness_117 KV7 KV19 P σ l1 l2 s0 l4 l5 l6 l7) ∧ (l2 = 0 → ((l7 = 0 → bv_X6_staleness_121 KV7 KV19 P σ l1 l2 s0 l4 l5 l6 l7) ∧ (¬ l7 = 0 → v_X6_stored σ (l4 - 1) l5 (fun r1 σ1 => v_X6_stored σ1 l4 l5 (fun r2 σ2 => v_X6_touchesAny σ2 l1 l4 l5 r1 r2 (fun r3 σ3 => ((r3 = 0 → bv_X6_staleness_121 KV7 KV19 P σ3 l1 l2 s0 l4 l5 l6 l7) ∧ (¬ r3 = 0 → bv_X6_staleness_117 KV7 KV19 P σ3 l1 l2 s0 l4 l5 l6 l7)))))))))
def bv_X6_staleness_76 (KV7 : Sg → Int32 → Int32 → Int32 → Int32 → Prop) (KV19 : Sg → Int32 → Int32 → Int32 → Int32 → Int32 → Prop) (P : Int32 → Sg → Prop) (σ : Sg) (l1 : Int32) (l2 : Int32) (l3 : Int32) (l4 : Int32) (l5 : Int32) (l6 : Int32) (l7 : Int32) : Prop := bv_X6_staleness_77 KV7 KV19 P σ l1 l2 l3 l4 l5 l6 l7 0
def bv_X6_staleness_72 (KV7 : Sg → Int32 → Int32 → Int32 → Int32 → Prop) (KV19 : Sg → Int32 → Int32 → Int32 → Int32 → Int32 → Prop) (P : Int32 → Sg → Prop) (σ : Sg) (l1 : Int32) (l2 : Int32) (l3 : Int32) (l4 : Int32) (l5 : Int32) (l6 : Int32) (l7 : Int32) : Prop := bv_X6_staleness_77 KV7 KV19 P σ l1 l2 l3 l4 l5 l6 l7 1
def bv_X6_staleness_19 (KV7 : Sg → Int32 → Int32 → Int32 → Int32 → Prop) (P : Int32 → Sg → Prop) : Nat → Sg → Int32 → Int32 → Int32 → Int32 → Int32 → Prop
  | 0 => fun _ _ _ _ _ _ => False
  | f + 1 => fun σ l1 l2 l3 l4 l5 => ((32 ≤ l5 → ∀ v1 : Int32, v1 = l4 + 1 → KV7 σ l1 l2 l3 v1) ∧ (¬ 32 ≤ l5 → vp_in ((32 * l1) + l5) 2560 ∧ ∀ v3 : Int32, v3 = σ.2 9 (ix ((32 * l1) + l5)) → v_X6_hasWritten σ l4 l5 (fun r4 σ4 => ((¬ l3 = 0 → bv_X6_staleness_72 KV7 (bv_X6_staleness_19 KV7 P f) P σ4 l1 l2 l3 l4 l5 v3 r4) ∧ (l3 = 0 → ((r4 = 0 → bv_X6_staleness_76 KV7 (bv_X6_staleness_19 KV7 P f) P σ4 l1 l2 l3 l4 l5 v3 r4) ∧ (¬ r4 = 0 → ((v3 = ((-1)) → bv_X6_staleness_76 KV7 (bv_X6_staleness_19 KV7 P f) P σ4 l1 l2 l3 l4 l5 v3 r4) ∧ (¬ v3 = ((-1)) → ((l4 ≤ v3 → bv_X6_staleness_76 KV7 (bv_X6_staleness_19 KV7 P f) P σ4 l1 l2 l3 l4 l5 v3 r4) ∧ (¬ l4 ≤ v3 → bv_X6_staleness_72 KV7 (bv_X6_staleness_19 KV7 P f) P σ4 l1 l2 l3 l4 l5 v3 r4)))))))))))
def bv_X6_staleness_7 (P : Int32 → Sg → Prop) : Nat → Sg → Int32 → Int32 → Int32 → Int32 → Prop
  | 0 => fun _ _ _ _ _ => False
  | f + 1 => fun σ l1 l2 l3 l4 => (((σ.1 14) < l4 → ((l3 = 0 → ((l2 = 0 → bv_X6_staleness_152 P σ l1 l2 l3 l4 0) ∧ (¬ l2 = 0 → bv_X6_staleness_152 P σ l1 l2 l3 l4 2))) ∧ (¬ l3 = 0 → bv_X6_staleness_152 P σ l1 l2 l3 l4 1))) ∧ (¬ (σ.1 14) < l4 → ∃ f19, bv_X6_staleness_19 (bv_X6_staleness_7 P f) P f19 σ l1 l2 l3 l4 0))
def v_X6_staleness (σ : Sg) (a1 : Int32) (P : Int32 → Sg → Prop) : Prop := ∃ f7, bv_X6_staleness_7 P f7 σ a1 0 0 1
set_option maxHeartbeats 4000000 in
theorem vr_X6_staleness {m : Nat} {ad : Nat → Nat} {S : MS} {σ : Sg} {a1 : Int32} {P : Int32 → Sg → Prop} {post : Int32 → MS → Prop} (hR : RM m ad S σ) (h : v_X6_staleness σ a1 P) (hpost : ∀ (r : Int32) (σ2 : Sg) (S2 : MS), P r σ2 → RM m ad S2 σ2 → Fm m ad S S2 → post r S2) : w_X6_staleness S m a1 post := by
  have hpost := fun r σ2 S2 h1 h2 h3 => hpost r σ2 S2 h1 h2 h3
  have hF := Fm.rf m ad S
  obtain ⟨S0, hS0⟩ : ∃ z : MS, z = S := ⟨_, rfl⟩
  rw [← hS0] at hpost
  have hF : Fm m ad S0 S := by rw [hS0]; exact hF
  have g152 : ∀ (S : MS) (σ : Sg) (l1 : Int32) (l2 : Int32) (l3 : Int32) (l4 : Int32) (s0 : Int32), RM m ad S σ → Fm m ad S0 S → bv_X6_staleness_152 P σ l1 l2 l3 l4 s0 → b_X6_staleness_152 post S m l1 l2 l3 l4 s0 := by
    intro  S σ l1 l2 l3 l4 s0 hR hF h
    unfold bv_X6_staleness_152 at h
    unfold b_X6_staleness_152
    try simp only [hR.1, hR.2.1, hR.2.2.1]
    exact hpost _ _ _ h hR hF
  have g122 : ∀ (KV7 : Sg → Int32 → Int32 → Int32 → Int32 → Prop) (KH7 : MS → Nat → Int32 → Int32 → Int32 → Int32 → Prop) (hKV7 : ∀ (S : MS) (σ : Sg) (l1 : Int32) (l2 : Int32) (l3 : Int32) (l4 : Int32), RM m ad S σ → Fm m ad S0 S → KV7 σ l1 l2 l3 l4 → KH7 S m l1 l2 l3 l4 ) (KV19 : Sg → Int32 → Int32 → Int32 → Int32 → Int32 → Prop) (KH19 : MS → Nat → Int32 → Int32 → Int32 → Int32 → Int32 → Prop) (hKV19 : ∀ (S : MS) (σ : Sg) (l1 : Int32) (l2 : Int32) (l3 : Int32) (l4 : Int32) (l5 : Int32), RM m ad S σ → Fm m ad S0 S → KV19 σ l1 l2 l3 l4 l5 → KH19 S m l1 l2 l3 l4 l5 ) (S : MS) (σ : Sg) (l1 : Int32) (l2 : Int32) (l3 : Int32) (l4 : Int32) (l5 : Int32) (l6 : Int32) (l7 : Int32) (s0 : Int32), RM m ad S σ → Fm m ad S0 S → bv_X6_staleness_122 KV7 KV19 P σ l1 l2 l3 l4 l5 l6 l7 s0 → b_X6_staleness_122 KH7 KH19 post S m l1 l2 l3 l4 l5 l6 l7 s0 := by
    intro KV7 KH7 hKV7 KV19 KH19 hKV19 S σ l1 l2 l3 l4 l5 l6 l7 s0 hR hF h
    unfold bv_X6_staleness_122 at h
    unfold b_X6_staleness_122
    try simp only [hR.1, hR.2.1, hR.2.2.1]
    intro v1 hv1
    have h := h v1 hv1
    exact hKV19 _ _ _ _ _ _ _ hR hF h
  have g121 : ∀ (KV7 : Sg → Int32 → Int32 → Int32 → Int32 → Prop) (KH7 : MS → Nat → Int32 → Int32 → Int32 → Int32 → Prop) (hKV7 : ∀ (S : MS) (σ : Sg) (l1 : Int32) (l2 : Int32) (l3 : Int32) (l4 : Int32), RM m ad S σ → Fm m ad S0 S → KV7 σ l1 l2 l3 l4 → KH7 S m l1 l2 l3 l4 ) (KV19 : Sg → Int32 → Int32 → Int32 → Int32 → Int32 → Prop) (KH19 : MS → Nat → Int32 → Int32 → Int32 → Int32 → Int32 → Prop) (hKV19 : ∀ (S : MS) (σ : Sg) (l1 : Int32) (l2 : Int32) (l3 : Int32) (l4 : Int32) (l5 : Int32), RM m ad S σ → Fm m ad S0 S → KV19 σ l1 l2 l3 l4 l5 → KH19 S m l1 l2 l3 l4 l5 ) (S : MS) (σ : Sg) (l1 : Int32) (l2 : Int32) (l3 : Int32) (l4 : Int32) (l5 : Int32) (l6 : Int32) (l7 : Int32), RM m ad S σ → Fm m ad S0 S → bv_X6_staleness_121 KV7 KV19 P σ l1 l2 l3 l4 l5 l6 l7 → b_X6_staleness_121 KH7 KH19 post S m l1 l2 l3 l4 l5 l6 l7  := by
    intro KV7 KH7 hKV7 KV19 KH19 hKV19 S σ l1 l2 l3 l4 l5 l6 l7 hR hF h
    unfold bv_X6_staleness_121 at h
    unfold b_X6_staleness_121
    try simp only [hR.1, hR.2.1, hR.2.2.1]
    exact g122 _ _ hKV7 _ _ hKV19 _ _ _ _ _ _ _ _ _ _ hR hF h
  have g117 : ∀ (KV7 : Sg → Int32 → Int32 → Int32 → Int32 → Prop) (KH7 : MS → Nat → Int32 → Int32 → Int32 → Int32 → Prop) (hKV7 : ∀ (S : MS) (σ : Sg) (l1 : Int32) (l2 : Int32) (l3 : Int32) (l4 : Int32), RM m ad S σ → Fm m ad S0 S → KV7 σ l1 l2 l3 l4 → KH7 S m l1 l2 l3 l4 ) (KV19 : Sg → Int32 → Int32 → Int32 → Int32 → Int32 → Prop) (KH19 : MS → Nat → Int32 → Int32 → Int32 → Int32 → Int32 → Prop) (hKV19 : ∀ (S : MS) (σ : Sg) (l1 : Int32) (l2 : Int32) (l3 : Int32) (l4 : Int32) (l5 : Int32), RM m ad S σ → Fm m ad S0 S → KV19 σ l1 l2 l3 l4 l5 → KH19 S m l1 l2 l3 l4 l5 ) (S : MS) (σ : Sg) (l1 : Int32) (l2 : Int32) (l3 : Int32) (l4 : Int32) (l5 : Int32) (l6 : Int32) (l7 : Int32), RM m ad S σ → Fm m ad S0 S → bv_X6_staleness_117 KV7 KV19 P σ l1 l2 l3 l4 l5 l6 l7 → b_X6_staleness_117 KH7 KH19 post S m l1 l2 l3 l4 l5 l6 l7  := by
    intro KV7 KH7 hKV7 KV19 KH19 hKV19 S σ l1 l2 l3 l4 l5 l6 l7 hR hF h
    unfold bv_X6_staleness_117 at h
    unfold b_X6_staleness_117
    try simp only [hR.1, hR.2.1, hR.2.2.1]
    exact g122 _ _ hKV7 _ _ hKV19 _ _ _ _ _ _ _ _ _ _ hR hF h
  have g77 : ∀ (KV7 : Sg → Int32 → Int32 → Int32 → Int32 → Prop) (KH7 : MS → Nat → Int32 → Int32 → Int32 → Int32 → Prop) (hKV7 : ∀ (S : MS) (σ : Sg) (l1 : Int32) (l2 : Int32) (l3 : Int32) (l4 : Int32), RM m ad S σ → Fm m ad S0 S → KV7 σ l1 l2 l3 l4 → KH7 S m l1 l2 l3 l4 ) (KV19 : Sg → Int32 → Int32 → Int32 → Int32 → Int32 → Prop) (KH19 : MS → Nat → Int32 → Int32 → Int32 → Int32 → Int32 → Prop) (hKV19 : ∀ (S : MS) (σ : Sg) (l1 : Int32) (l2 : Int32) (l3 : Int32) (l4 : Int32) (l5 : Int32), RM m ad S σ → Fm m ad S0 S → KV19 σ l1 l2 l3 l4 l5 → KH19 S m l1 l2 l3 l4 l5 ) (S : MS) (σ : Sg) (l1 : Int32) (l2 : Int32) (l3 : Int32) (l4 : Int32) (l5 : Int32) (l6 : Int32) (l7 : Int32) (s0 : Int32), RM m ad S σ → Fm m ad S0 S → bv_X6_staleness_77 KV7 KV19 P σ l1 l2 l3 l4 l5 l6 l7 s0 → b_X6_staleness_77 KH7 KH19 post S m l1 l2 l3 l4 l5 l6 l7 s0 := by
    intro KV7 KH7 hKV7 KV19 KH19 hKV19 S σ l1 l2 l3 l4 l5 l6 l7 s0 hR hF h
    unfold bv_X6_staleness_77 at h
    unfold b_X6_staleness_77
    try simp only [hR.1, hR.2.1, hR.2.2.1]
    refine ⟨fun hc6 => ?_, fun hc6 => ?_⟩
    · have h := h.1 hc6
      exact g117 _ _ hKV7 _ _ hKV19 _ _ _ _ _ _ _ _ _ hR hF h
    · have h := h.2 hc6
      refine ⟨fun hc5 => ?_, fun hc5 => ?_⟩
      · have h := h.1 hc5
        exact g121 _ _ hKV7 _ _ hKV19 _ _ _ _ _ _ _ _ _ hR hF h
      · have h := h.2 hc5
        refine ⟨hR.2.2.2.1, ?_⟩
        refine vr_X6_stored hR h (fun r1 σ1 S1 h hR1 hF1 => ?_)
        have hF1 := Fm.tr hF hF1
        try simp only [hR1.1, hR1.2.1, hR1.2.2.1]
        refine ⟨hR1.2.2.2.1, ?_⟩
        refine vr_X6_stored hR1 h (fun r2 σ2 S2 h hR2 hF2 => ?_)
        have hF2 := Fm.tr hF1 hF2
        try simp only [hR2.1, hR2.2.1, hR2.2.2.1]
        refine ⟨hR2.2.2.2.1, ?_⟩
        refine vr_X6_touchesAny hR2 h (fun r3 σ3 S3 h hR3 hF3 => ?_)
        have hF3 := Fm.tr hF2 hF3
        try simp only [hR3.1, hR3.2.1, hR3.2.2.1]
        refine ⟨fun hc4 => ?_, fun hc4 => ?_⟩
        · have h := h.1 hc4
          exact g121 _ _ hKV7 _ _ hKV19 _ _ _ _ _ _ _ _ _ hR3 hF3 h
        · have h := h.2 hc4
          exact g117 _ _ hKV7 _ _ hKV19 _ _ _ _ _ _ _ _ _ hR3 hF3 h
  have g76 : ∀ (KV7 : Sg → Int32 → Int32 → Int32 → Int32 → Prop) (KH7 : MS → Nat → Int32 → Int32 → Int32 → Int32 → Prop) (hKV7 : ∀ (S : MS) (σ : Sg) (l1 : Int32) (l2 : Int32) (l3 : Int32) (l4 : Int32), RM m ad S σ → Fm m ad S0 S → KV7 σ l1 l2 l3 l4 → KH7 S m l1 l2 l3 l4 ) (KV19 : Sg → Int32 → Int32 → Int32 → Int32 → Int32 → Prop) (KH19 : MS → Nat → Int32 → Int32 → Int32 → Int32 → Int32 → Prop) (hKV19 : ∀ (S : MS) (σ : Sg) (l1 : Int32) (l2 : Int32) (l3 : Int32) (l4 : Int32) (l5 : Int32), RM m ad S σ → Fm m ad S0 S → KV19 σ l1 l2 l3 l4 l5 → KH19 S m l1 l2 l3 l4 l5 ) (S : MS) (σ : Sg) (l1 : Int32) (l2 : Int32) (l3 : Int32) (l4 : Int32) (l5 : Int32) (l6 : Int32) (l7 : Int32), RM m ad S σ → Fm m ad S0 S → bv_X6_staleness_76 KV7 KV19 P σ l1 l2 l3 l4 l5 l6 l7 → b_X6_staleness_76 KH7 KH19 post S m l1 l2 l3 l4 l5 l6 l7  := by
    intro KV7 KH7 hKV7 KV19 KH19 hKV19 S σ l1 l2 l3 l4 l5 l6 l7 hR hF h
    unfold bv_X6_staleness_76 at h
    unfold b_X6_staleness_76
    try simp only [hR.1, hR.2.1, hR.2.2.1]
    exact g77 _ _ hKV7 _ _ hKV19 _ _ _ _ _ _ _ _ _ _ hR hF h
  have g72 : ∀ (KV7 : Sg → Int32 → Int32 → Int32 → Int32 → Prop) (KH7 : MS → Nat → Int32 → Int32 → Int32 → Int32 → Prop) (hKV7 : ∀ (S : MS) (σ : Sg) (l1 : Int32) (l2 : Int32) (l3 : Int32) (l4 : Int32), RM m ad S σ → Fm m ad S0 S → KV7 σ l1 l2 l3 l4 → KH7 S m l1 l2 l3 l4 ) (KV19 : Sg → Int32 → Int32 → Int32 → Int32 → Int32 → Prop) (KH19 : MS → Nat → Int32 → Int32 → Int32 → Int32 → Int32 → Prop) (hKV19 : ∀ (S : MS) (σ : Sg) (l1 : Int32) (l2 : Int32) (l3 : Int32) (l4 : Int32) (l5 : Int32), RM m ad S σ → Fm m ad S0 S → KV19 σ l1 l2 l3 l4 l5 → KH19 S m l1 l2 l3 l4 l5 ) (S : MS) (σ : Sg) (l1 : Int32) (l2 : Int32) (l3 : Int32) (l4 : Int32) (l5 : Int32) (l6 : Int32) (l7 : Int32), RM m ad S σ → Fm m ad S0 S → bv_X6_staleness_72 KV7 KV19 P σ l1 l2 l3 l4 l5 l6 l7 → b_X6_staleness_72 KH7 KH19 post S m l1 l2 l3 l4 l5 l6 l7  := by
    intro KV7 KH7 hKV7 KV19 KH19 hKV19 S σ l1 l2 l3 l4 l5 l6 l7 hR hF h
    unfold bv_X6_staleness_72 at h
    unfold b_X6_staleness_72
    try simp only [hR.1, hR.2.1, hR.2.2.1]
    exact g77 _ _ hKV7 _ _ hKV19 _ _ _ _ _ _ _ _ _ _ hR hF h
  have g19 : ∀ (KV7 : Sg → Int32 → Int32 → Int32 → Int32 → Prop) (KH7 : MS → Nat → Int32 → Int32 → Int32 → Int32 → Prop) (hKV7 : ∀ (S : MS) (σ : Sg) (l1 : Int32) (l2 : Int32) (l3 : Int32) (l4 : Int32), RM m ad S σ → Fm m ad S0 S → KV7 σ l1 l2 l3 l4 → KH7 S m l1 l2 l3 l4 ) (f : Nat) (S : MS) (σ : Sg) (l1 : Int32) (l2 : Int32) (l3 : Int32) (l4 : Int32) (l5 : Int32), RM m ad S σ → Fm m ad S0 S → bv_X6_staleness_19 KV7 P f σ l1 l2 l3 l4 l5 → b_X6_staleness_19 KH7 post f S m l1 l2 l3 l4 l5  := by
    intro KV7 KH7 hKV7
    intro f
    induction f with
    | zero => intro S σ l1 l2 l3 l4 l5 hR hF h; exact h.elim
    | succ f ih =>
      intro S σ l1 l2 l3 l4 l5 hR hF h
      simp only [bv_X6_staleness_19] at h
      simp only [b_X6_staleness_19]
      try simp only [hR.1, hR.2.1, hR.2.2.1]
      refine ⟨fun hc9 => ?_, fun hc9 => ?_⟩
      · have h := h.1 hc9
        intro v1 hv1
        have h := h v1 hv1
        exact hKV7 _ _ _ _ _ _ hR hF h
      · have h := h.2 hc9
        refine ⟨hR.2.2.2.1, ?_⟩
        refine ⟨rm_kT hR (by decide) rfl, ?_⟩
        obtain ⟨hi2, h⟩ := h
        refine ⟨(rm_kL hR (k := 9) rfl (by decide)) ▸ hi2, ?_⟩
        intro v3 hv3
        have h := h v3 hv3
        refine vr_X6_hasWritten hR h (fun r4 σ4 S4 h hR4 hF4 => ?_)
        have hF4 := Fm.tr hF hF4
        try simp only [hR4.1, hR4.2.1, hR4.2.2.1]
        refine ⟨fun hc8 => ?_, fun hc8 => ?_⟩
        · have h := h.1 hc8
          exact g72 _ _ hKV7 _ _ ih _ _ _ _ _ _ _ _ _ hR4 hF4 h
        · have h := h.2 hc8
          refine ⟨fun hc7 => ?_, fun hc7 => ?_⟩
          · have h := h.1 hc7
            exact g76 _ _ hKV7 _ _ ih _ _ _ _ _ _ _ _ _ hR4 hF4 h
          · have h := h.2 hc7
            refine ⟨fun hc6 => ?_, fun hc6 => ?_⟩
            · have h := h.1 hc6
              exact g76 _ _ hKV7 _ _ ih _ _ _ _ _ _ _ _ _ hR4 hF4 h
            · have h := h.2 hc6
              refine ⟨fun hc5 => ?_, fun hc5 => ?_⟩
              · have h := h.1 hc5
                exact g76 _ _ hKV7 _ _ ih _ _ _ _ _ _ _ _ _ hR4 hF4 h
              · have h := h.2 hc5
                exact g72 _ _ hKV7 _ _ ih _ _ _ _ _ _ _ _ _ hR4 hF4 h
  have g7 : ∀ (f : Nat) (S : MS) (σ : Sg) (l1 : Int32) (l2 : Int32) (l3 : Int32) (l4 : Int32), RM m ad S σ → Fm m ad S0 S → bv_X6_staleness_7 P f σ l1 l2 l3 l4 → b_X6_staleness_7 post f S m l1 l2 l3 l4  := by
    intro f
    induction f with
    | zero => intro S σ l1 l2 l3 l4 hR hF h; exact h.elim
    | succ f ih =>
      intro S σ l1 l2 l3 l4 hR hF h
      simp only [bv_X6_staleness_7] at h
      simp only [b_X6_staleness_7]
      try simp only [hR.1, hR.2.1, hR.2.2.1]
      refine ⟨hR.2.2.2.1, ?_⟩
      refine ⟨fun hc3 => ?_, fun hc3 => ?_⟩
      · have h := h.1 hc3
        refine ⟨fun hc2 => ?_, fun hc2 => ?_⟩
        · have h := h.1 hc2
          refine ⟨fun hc1 => ?_, fun hc1 => ?_⟩
          · have h := h.1 hc1
            exact g152 _ _ _ _ _ _ _ hR hF h
          · have h := h.2 hc1
            exact g152 _ _ _ _ _ _ _ hR hF h
        · have h := h.2 hc2
          exact g152 _ _ _ _ _ _ _ hR hF h
      · have h := h.2 hc3
        obtain ⟨f19, h⟩ := h
        exact ⟨f19, g19 _ _ ih f19 _ _ _ _ _ _ _ hR hF h⟩
  unfold v_X6_staleness at h
  unfold w_X6_staleness
  try simp only [hR.1, hR.2.1, hR.2.2.1]
  obtain ⟨f7, h⟩ := h
  exact ⟨f7, g7 f7 _ _ _ _ _ _ hR hF h⟩
def bv_X6_activeProblem_26 (P : Int32 → Sg → Prop) (σ : Sg) (l1 : Int32) (s0 : Int32) : Prop := P s0 σ
def v_X6_activeProblem (σ : Sg) (a1 : Int32) (P : Int32 → Sg → Prop) : Prop := v_X6_isTransaction σ a1 (fun r1 σ1 => ((¬ r1 = 0 → vp_in a1 80 ∧ (((σ1.2 2 (ix a1)) = 0 → bv_X6_activeProblem_26 P σ1 a1 0) ∧ (¬ (σ1.2 2 (ix a1)) = 0 → bv_X6_activeProblem_26 P σ1 a1 2))) ∧ (r1 = 0 → bv_X6_activeProblem_26 P σ1 a1 1)))
set_option maxHeartbeats 4000000 in
theorem vr_X6_activeProblem {m : Nat} {ad : Nat → Nat} {S : MS} {σ : Sg} {a1 : Int32} {P : Int32 → Sg → Prop} {post : Int32 → MS → Prop} (hR : RM m ad S σ) (h : v_X6_activeProblem σ a1 P) (hpost : ∀ (r : Int32) (σ2 : Sg) (S2 : MS), P r σ2 → RM m ad S2 σ2 → Fm m ad S S2 → post r S2) : w_X6_activeProblem S m a1 post := by
  have hpost := fun r σ2 S2 h1 h2 h3 => hpost r σ2 S2 h1 h2 h3
  have hF := Fm.rf m ad S
  obtain ⟨S0, hS0⟩ : ∃ z : MS, z = S := ⟨_, rfl⟩
  rw [← hS0] at hpost
  have hF : Fm m ad S0 S := by rw [hS0]; exact hF
  have g26 : ∀ (S : MS) (σ : Sg) (l1 : Int32) (s0 : Int32), RM m ad S σ → Fm m ad S0 S → bv_X6_activeProblem_26 P σ l1 s0 → b_X6_activeProblem_26 post S m l1 s0 := by
    intro  S σ l1 s0 hR hF h
    unfold bv_X6_activeProblem_26 at h
    unfold b_X6_activeProblem_26
    try simp only [hR.1, hR.2.1, hR.2.2.1]
    exact hpost _ _ _ h hR hF
  unfold v_X6_activeProblem at h
  unfold w_X6_activeProblem
  try simp only [hR.1, hR.2.1, hR.2.2.1]
  refine ⟨hR.2.2.2.1, ?_⟩
  refine vr_X6_isTransaction hR h (fun r1 σ1 S1 h hR1 hF1 => ?_)
  have hF1 := Fm.tr hF hF1
  try simp only [hR1.1, hR1.2.1, hR1.2.2.1]
  refine ⟨fun hc4 => ?_, fun hc4 => ?_⟩
  · have h := h.1 hc4
    refine ⟨hR1.2.2.2.1, ?_⟩
    refine ⟨rm_kT hR1 (by decide) rfl, ?_⟩
    obtain ⟨hi2, h⟩ := h
    refine ⟨(rm_kL hR1 (k := 2) rfl (by decide)) ▸ hi2, ?_⟩
    refine ⟨fun hc3 => ?_, fun hc3 => ?_⟩
    · have h := h.1 hc3
      exact g26 _ _ _ _ hR1 hF1 h
    · have h := h.2 hc3
      exact g26 _ _ _ _ hR1 hF1 h
  · have h := h.2 hc4
    exact g26 _ _ _ _ hR1 hF1 h
def bv_X6_isStale_29 (P : Int32 → Sg → Prop) (σ : Sg) (l1 : Int32) (s0 : Int32) : Prop := narrow .boolean (.int s0) = .int s0 ∧ P s0 σ
def bv_X6_isStale_28 (P : Int32 → Sg → Prop) (σ : Sg) (l1 : Int32) : Prop := bv_X6_isStale_29 P σ l1 0
def v_X6_isStale (σ : Sg) (a1 : Int32) (P : Int32 → Sg → Prop) : Prop := v_X6_activeProblem σ a1 (fun r1 σ1 => ∀ σ2 : Sg, σ2 = sF σ1 0 r1 → ((¬ (σ2.1 0) = 0 → bv_X6_isStale_28 P σ2 a1) ∧ ((σ2.1 0) = 0 → v_X6_staleness σ2 a1 (fun r3 σ3 => ((r3 ≤ 0 → bv_X6_isStale_28 P σ3 a1) ∧ (¬ r3 ≤ 0 → bv_X6_isStale_29 P σ3 a1 1))))))
set_option maxHeartbeats 4000000 in
theorem vr_X6_isStale {m : Nat} {ad : Nat → Nat} {S : MS} {σ : Sg} {a1 : Int32} {P : Int32 → Sg → Prop} {post : Int32 → MS → Prop} (hR : RM m ad S σ) (h : v_X6_isStale σ a1 P) (hpost : ∀ (r : Int32) (σ2 : Sg) (S2 : MS), P r σ2 → RM m ad S2 σ2 → Fm m ad S S2 → post r S2) : w_X6_isStale S m a1 post := by
  have hpost := fun r σ2 S2 h1 h2 h3 => hpost r σ2 S2 h1 h2 h3
  have hF := Fm.rf m ad S
  obtain ⟨S0, hS0⟩ : ∃ z : MS, z = S := ⟨_, rfl⟩
  rw [← hS0] at hpost
  have hF : Fm m ad S0 S := by rw [hS0]; exact hF
  have g29 : ∀ (S : MS) (σ : Sg) (l1 : Int32) (s0 : Int32), RM m ad S σ → Fm m ad S0 S → bv_X6_isStale_29 P σ l1 s0 → b_X6_isStale_29 post S m l1 s0 := by
    intro  S σ l1 s0 hR hF h
    unfold bv_X6_isStale_29 at h
    unfold b_X6_isStale_29
    try simp only [hR.1, hR.2.1, hR.2.2.1]
    obtain ⟨hz, h⟩ := h
    exact ⟨hz, hpost _ _ _ h hR hF⟩
  have g28 : ∀ (S : MS) (σ : Sg) (l1 : Int32), RM m ad S σ → Fm m ad S0 S → bv_X6_isStale_28 P σ l1 → b_X6_isStale_28 post S m l1  := by
    intro  S σ l1 hR hF h
    unfold bv_X6_isStale_28 at h
    unfold b_X6_isStale_28
    try simp only [hR.1, hR.2.1, hR.2.2.1]
    exact g29 _ _ _ _ hR hF h
  unfold v_X6_isStale at h
  unfold w_X6_isStale
  try simp only [hR.1, hR.2.1, hR.2.2.1]
  refine ⟨hR.2.2.2.1, ?_⟩
  refine vr_X6_activeProblem hR h (fun r1 σ1 S1 h hR1 hF1 => ?_)
  have hF1 := Fm.tr hF hF1
  try simp only [hR1.1, hR1.2.1, hR1.2.2.1]
  refine ⟨hR1.2.2.2.1, ?_⟩
  intro S2 hS2
  obtain ⟨σ2, hσ2⟩ : ∃ z : Sg, z = sF σ1 0 r1 := ⟨_, rfl⟩
  have h := h σ2 hσ2
  obtain ⟨hR2, hF2⟩ := rm_putF hR1 hS2 hσ2
  have hF2 := Fm.tr hF1 hF2
  try simp only [hR2.1, hR2.2.1, hR2.2.2.1]
  refine ⟨fun hc5 => ?_, fun hc5 => ?_⟩
  · have h := h.1 hc5
    exact g28 _ _ _ hR2 hF2 h
  · have h := h.2 hc5
    refine vr_X6_staleness hR2 h (fun r3 σ3 S3 h hR3 hF3 => ?_)
    have hF3 := Fm.tr hF2 hF3
    try simp only [hR3.1, hR3.2.1, hR3.2.2.1]
    refine ⟨fun hc4 => ?_, fun hc4 => ?_⟩
    · have h := h.1 hc4
      exact g28 _ _ _ hR3 hF3 h
    · have h := h.2 hc4
      exact g29 _ _ _ _ hR3 hF3 h
def bv_X6_rivals_25 (P : Int32 → Sg → Prop) (σ : Sg) (l1 : Int32) (s0 : Int32) : Prop := P s0 σ
def v_X6_rivals (σ : Sg) (a1 : Int32) (P : Int32 → Sg → Prop) : Prop := v_X6_activeProblem σ a1 (fun r1 σ1 => ∀ σ2 : Sg, σ2 = sF σ1 0 r1 → ((¬ (σ2.1 0) = 0 → bv_X6_rivals_25 P σ2 a1 0) ∧ ((σ2.1 0) = 0 → v_X6_countRivals σ2 a1 (fun r3 σ3 => bv_X6_rivals_25 P σ3 a1 r3))))
set_option maxHeartbeats 4000000 in
theorem vr_X6_rivals {m : Nat} {ad : Nat → Nat} {S : MS} {σ : Sg} {a1 : Int32} {P : Int32 → Sg → Prop} {post : Int32 → MS → Prop} (hR : RM m ad S σ) (h : v_X6_rivals σ a1 P) (hpost : ∀ (r : Int32) (σ2 : Sg) (S2 : MS), P r σ2 → RM m ad S2 σ2 → Fm m ad S S2 → post r S2) : w_X6_rivals S m a1 post := by
  have hpost := fun r σ2 S2 h1 h2 h3 => hpost r σ2 S2 h1 h2 h3
  have hF := Fm.rf m ad S
  obtain ⟨S0, hS0⟩ : ∃ z : MS, z = S := ⟨_, rfl⟩
  rw [← hS0] at hpost
  have hF : Fm m ad S0 S := by rw [hS0]; exact hF
  have g25 : ∀ (S : MS) (σ : Sg) (l1 : Int32) (s0 : Int32), RM m ad S σ → Fm m ad S0 S → bv_X6_rivals_25 P σ l1 s0 → b_X6_rivals_25 post S m l1 s0 := by
    intro  S σ l1 s0 hR hF h
    unfold bv_X6_rivals_25 at h
    unfold b_X6_rivals_25
    try simp only [hR.1, hR.2.1, hR.2.2.1]
    exact hpost _ _ _ h hR hF
  unfold v_X6_rivals at h
  unfold w_X6_rivals
  try simp only [hR.1, hR.2.1, hR.2.2.1]
  refine ⟨hR.2.2.2.1, ?_⟩
  refine vr_X6_activeProblem hR h (fun r1 σ1 S1 h hR1 hF1 => ?_)
  have hF1 := Fm.tr hF hF1
  try simp only [hR1.1, hR1.2.1, hR1.2.2.1]
  refine ⟨hR1.2.2.2.1, ?_⟩
  intro S2 hS2
  obtain ⟨σ2, hσ2⟩ : ∃ z : Sg, z = sF σ1 0 r1 := ⟨_, rfl⟩
  have h := h σ2 hσ2
  obtain ⟨hR2, hF2⟩ := rm_putF hR1 hS2 hσ2
  have hF2 := Fm.tr hF1 hF2
  try simp only [hR2.1, hR2.2.1, hR2.2.2.1]
  refine ⟨fun hc4 => ?_, fun hc4 => ?_⟩
  · have h := h.1 hc4
    exact g25 _ _ _ _ hR2 hF2 h
  · have h := h.2 hc4
    refine vr_X6_countRivals hR2 h (fun r3 σ3 S3 h hR3 hF3 => ?_)
    have hF3 := Fm.tr hF2 hF3
    try simp only [hR3.1, hR3.2.1, hR3.2.2.1]
    exact g25 _ _ _ _ hR3 hF3 h
def bv_X6_endWith_31 (P : Sg → Prop) (σ : Sg) (l1 : Int32) (l2 : Int32) (s0 : Int32) : Prop := ∀ σ1 : Sg, σ1 = sF σ 13 s0 → P σ1
def v_X6_endWith (σ : Sg) (a1 : Int32) (a2 : Int32) (P : Sg → Prop) : Prop := vp_in a1 80 ∧ ∀ σ2 : Sg, σ2 = sA σ 2 (ix a1) 2 → vp_in a1 80 ∧ ∀ σ4 : Sg, σ4 = sA σ2 4 (ix a1) a2 → ((¬ (σ4.1 13) = a1 → bv_X6_endWith_31 P σ4 a1 a2 (σ4.1 13)) ∧ ((σ4.1 13) = a1 → bv_X6_endWith_31 P σ4 a1 a2 ((-1))))
set_option maxHeartbeats 4000000 in
theorem vr_X6_endWith {m : Nat} {ad : Nat → Nat} {S : MS} {σ : Sg} {a1 : Int32} {a2 : Int32} {P : Sg → Prop} {post : MS → Prop} (hR : RM m ad S σ) (h : v_X6_endWith σ a1 a2 P) (hpost : ∀ (σ2 : Sg) (S2 : MS), P σ2 → RM m ad S2 σ2 → Fm m ad S S2 → post S2) : w_X6_endWith S m a1 a2 post := by
  have hpost := fun σ2 S2 h1 h2 h3 => hpost σ2 S2 h1 h2 h3
  have hF := Fm.rf m ad S
  obtain ⟨S0, hS0⟩ : ∃ z : MS, z = S := ⟨_, rfl⟩
  rw [← hS0] at hpost
  have hF : Fm m ad S0 S := by rw [hS0]; exact hF
  have g31 : ∀ (S : MS) (σ : Sg) (l1 : Int32) (l2 : Int32) (s0 : Int32), RM m ad S σ → Fm m ad S0 S → bv_X6_endWith_31 P σ l1 l2 s0 → b_X6_endWith_31 post S m l1 l2 s0 m := by
    intro  S σ l1 l2 s0 hR hF h
    unfold bv_X6_endWith_31 at h
    unfold b_X6_endWith_31
    try simp only [hR.1, hR.2.1, hR.2.2.1]
    refine ⟨hR.2.2.2.1, ?_⟩
    intro S1 hS1
    obtain ⟨σ1, hσ1⟩ : ∃ z : Sg, z = sF σ 13 s0 := ⟨_, rfl⟩
    have h := h σ1 hσ1
    obtain ⟨hR1, hF1⟩ := rm_putF hR hS1 hσ1
    have hF1 := Fm.tr hF hF1
    try simp only [hR1.1, hR1.2.1, hR1.2.2.1]
    exact hpost _ _ h hR1 hF1
  unfold v_X6_endWith at h
  unfold w_X6_endWith
  try simp only [hR.1, hR.2.1, hR.2.2.1]
  refine ⟨hR.2.2.2.1, ?_⟩
  refine ⟨rm_kT hR (by decide) rfl, ?_⟩
  obtain ⟨hi1, h⟩ := h
  refine ⟨(rm_kL hR (k := 2) rfl (by decide)) ▸ hi1, ?_⟩
  intro S2 hS2
  obtain ⟨σ2, hσ2⟩ : ∃ z : Sg, z = sA σ 2 (ix a1) 2 := ⟨_, rfl⟩
  have h := h σ2 hσ2
  obtain ⟨hR2, hF2⟩ := rm_putA hR (k := 2) (by decide) hS2 hσ2
  have hF2 := Fm.tr hF hF2
  try simp only [hR2.1, hR2.2.1, hR2.2.2.1]
  refine ⟨rm_kT hR2 (by decide) rfl, ?_⟩
  obtain ⟨hi3, h⟩ := h
  refine ⟨(rm_kL hR2 (k := 4) rfl (by decide)) ▸ hi3, ?_⟩
  intro S4 hS4
  obtain ⟨σ4, hσ4⟩ : ∃ z : Sg, z = sA σ2 4 (ix a1) a2 := ⟨_, rfl⟩
  have h := h σ4 hσ4
  obtain ⟨hR4, hF4⟩ := rm_putA hR2 (k := 4) (by decide) hS4 hσ4
  have hF4 := Fm.tr hF2 hF4
  try simp only [hR4.1, hR4.2.1, hR4.2.2.1]
  refine ⟨fun hc5 => ?_, fun hc5 => ?_⟩
  · have h := h.1 hc5
    exact g31 _ _ _ _ _ hR4 hF4 h
  · have h := h.2 hc5
    exact g31 _ _ _ _ _ hR4 hF4 h
def bv_X6_loses_64 (KV15 : Sg → Int32 → Int32 → Int32 → Prop) (P : Int32 → Sg → Prop) (σ : Sg) (l1 : Int32) (l2 : Int32) (l3 : Int32) (s0 : Int32) : Prop := ∀ v1 : Int32, v1 = l3 + 1 → KV15 σ l1 s0 v1
def bv_X6_loses_63 (KV15 : Sg → Int32 → Int32 → Int32 → Prop) (P : Int32 → Sg → Prop) (σ : Sg) (l1 : Int32) (l2 : Int32) (l3 : Int32) : Prop := bv_X6_loses_64 KV15 P σ l1 l2 l3 0
def bv_X6_loses_59 (KV15 : Sg → Int32 → Int32 → Int32 → Prop) (P : Int32 → Sg → Prop) (σ : Sg) (l1 : Int32) (l2 : Int32) (l3 : Int32) : Prop := bv_X6_loses_64 KV15 P σ l1 l2 l3 1
def bv_X6_loses_15 (P : Int32 → Sg → Prop) : Nat → Sg → Int32 → Int32 → Int32 → Prop
  | 0 => fun _ _ _ _ => False
  | f + 1 => fun σ l1 l2 l3 => (((σ.1 1) ≤ l3 → narrow .boolean (.int l2) = .int l2 ∧ P l2 σ) ∧ (¬ (σ.1 1) ≤ l3 → ((¬ l2 = 0 → bv_X6_loses_59 (bv_X6_loses_15 P f) P σ l1 l2 l3) ∧ (l2 = 0 → ((¬ (σ.1 18) = 2 → bv_X6_loses_63 (bv_X6_loses_15 P f) P σ l1 l2 l3) ∧ ((σ.1 18) = 2 → v_X6_isRival σ l1 l3 (fun r1 σ1 => ((r1 = 0 → bv_X6_loses_63 (bv_X6_loses_15 P f) P σ1 l1 l2 l3) ∧ (¬ r1 = 0 → vp_in l3 80 ∧ vp_in l1 80 ∧ (((σ1.2 7 (ix l3)) ≤ (σ1.2 7 (ix l1)) → bv_X6_loses_63 (bv_X6_loses_15 P f) P σ1 l1 l2 l3) ∧ (¬ (σ1.2 7 (ix l3)) ≤ (σ1.2 7 (ix l1)) → bv_X6_loses_59 (bv_X6_loses_15 P f) P σ1 l1 l2 l3)))))))))))
def bv_X6_loses_12 (P : Int32 → Sg → Prop) (σ : Sg) (l1 : Int32) (s0 : Int32) : Prop := ∃ f15, bv_X6_loses_15 P f15 σ l1 s0 0
def v_X6_loses (σ : Sg) (a1 : Int32) (P : Int32 → Sg → Prop) : Prop := ((¬ (σ.1 18) = 0 → bv_X6_loses_12 P σ a1 0) ∧ ((σ.1 18) = 0 → bv_X6_loses_12 P σ a1 1))
set_option maxHeartbeats 4000000 in
theorem vr_X6_loses {m : Nat} {ad : Nat → Nat} {S : MS} {σ : Sg} {a1 : Int32} {P : Int32 → Sg → Prop} {post : Int32 → MS → Prop} (hR : RM m ad S σ) (h : v_X6_loses σ a1 P) (hpost : ∀ (r : Int32) (σ2 : Sg) (S2 : MS), P r σ2 → RM m ad S2 σ2 → Fm m ad S S2 → post r S2) : w_X6_loses S m a1 post := by
  have hpost := fun r σ2 S2 h1 h2 h3 => hpost r σ2 S2 h1 h2 h3
  have hF := Fm.rf m ad S
  obtain ⟨S0, hS0⟩ : ∃ z : MS, z = S := ⟨_, rfl⟩
  rw [← hS0] at hpost
  have hF : Fm m ad S0 S := by rw [hS0]; exact hF
  have g64 : ∀ (KV15 : Sg → Int32 → Int32 → Int32 → Prop) (KH15 : MS → Nat → Int32 → Int32 → Int32 → Prop) (hKV15 : ∀ (S : MS) (σ : Sg) (l1 : Int32) (l2 : Int32) (l3 : Int32), RM m ad S σ → Fm m ad S0 S → KV15 σ l1 l2 l3 → KH15 S m l1 l2 l3 ) (S : MS) (σ : Sg) (l1 : Int32) (l2 : Int32) (l3 : Int32) (s0 : Int32), RM m ad S σ → Fm m ad S0 S → bv_X6_loses_64 KV15 P σ l1 l2 l3 s0 → b_X6_loses_64 KH15 post S m l1 l2 l3 s0 := by
    intro KV15 KH15 hKV15 S σ l1 l2 l3 s0 hR hF h
    unfold bv_X6_loses_64 at h
    unfold b_X6_loses_64
    try simp only [hR.1, hR.2.1, hR.2.2.1]
    intro v1 hv1
    have h := h v1 hv1
    exact hKV15 _ _ _ _ _ hR hF h
  have g63 : ∀ (KV15 : Sg → Int32 → Int32 → Int32 → Prop) (KH15 : MS → Nat → Int32 → Int32 → Int32 → Prop) (hKV15 : ∀ (S : MS) (σ : Sg) (l1 : Int32) (l2 : Int32) (l3 : Int32), RM m ad S σ → Fm m ad S0 S → KV15 σ l1 l2 l3 → KH15 S m l1 l2 l3 ) (S : MS) (σ : Sg) (l1 : Int32) (l2 : Int32) (l3 : Int32), RM m ad S σ → Fm m ad S0 S → bv_X6_loses_63 KV15 P σ l1 l2 l3 → b_X6_loses_63 KH15 post S m l1 l2 l3  := by
    intro KV15 KH15 hKV15 S σ l1 l2 l3 hR hF h
    unfold bv_X6_loses_63 at h
    unfold b_X6_loses_63
    try simp only [hR.1, hR.2.1, hR.2.2.1]
    exact g64 _ _ hKV15 _ _ _ _ _ _ hR hF h
  have g59 : ∀ (KV15 : Sg → Int32 → Int32 → Int32 → Prop) (KH15 : MS → Nat → Int32 → Int32 → Int32 → Prop) (hKV15 : ∀ (S : MS) (σ : Sg) (l1 : Int32) (l2 : Int32) (l3 : Int32), RM m ad S σ → Fm m ad S0 S → KV15 σ l1 l2 l3 → KH15 S m l1 l2 l3 ) (S : MS) (σ : Sg) (l1 : Int32) (l2 : Int32) (l3 : Int32), RM m ad S σ → Fm m ad S0 S → bv_X6_loses_59 KV15 P σ l1 l2 l3 → b_X6_loses_59 KH15 post S m l1 l2 l3  := by
    intro KV15 KH15 hKV15 S σ l1 l2 l3 hR hF h
    unfold bv_X6_loses_59 at h
    unfold b_X6_loses_59
    try simp only [hR.1, hR.2.1, hR.2.2.1]
    exact g64 _ _ hKV15 _ _ _ _ _ _ hR hF h
  have g15 : ∀ (f : Nat) (S : MS) (σ : Sg) (l1 : Int32) (l2 : Int32) (l3 : Int32), RM m ad S σ → Fm m ad S0 S → bv_X6_loses_15 P f σ l1 l2 l3 → b_X6_loses_15 post f S m l1 l2 l3  := by
    intro f
    induction f with
    | zero => intro S σ l1 l2 l3 hR hF h; exact h.elim
    | succ f ih =>
      intro S σ l1 l2 l3 hR hF h
      simp only [bv_X6_loses_15] at h
      simp only [b_X6_loses_15]
      try simp only [hR.1, hR.2.1, hR.2.2.1]
      refine ⟨hR.2.2.2.1, ?_⟩
      refine ⟨fun hc8 => ?_, fun hc8 => ?_⟩
      · have h := h.1 hc8
        obtain ⟨hz, h⟩ := h
        exact ⟨hz, hpost _ _ _ h hR hF⟩
      · have h := h.2 hc8
        refine ⟨fun hc7 => ?_, fun hc7 => ?_⟩
        · have h := h.1 hc7
          exact g59 _ _ ih _ _ _ _ _ hR hF h
        · have h := h.2 hc7
          refine ⟨fun hc6 => ?_, fun hc6 => ?_⟩
          · have h := h.1 hc6
            exact g63 _ _ ih _ _ _ _ _ hR hF h
          · have h := h.2 hc6
            refine vr_X6_isRival hR h (fun r1 σ1 S1 h hR1 hF1 => ?_)
            have hF1 := Fm.tr hF hF1
            try simp only [hR1.1, hR1.2.1, hR1.2.2.1]
            refine ⟨fun hc5 => ?_, fun hc5 => ?_⟩
            · have h := h.1 hc5
              exact g63 _ _ ih _ _ _ _ _ hR1 hF1 h
            · have h := h.2 hc5
              refine ⟨hR1.2.2.2.1, ?_⟩
              refine ⟨rm_kT hR1 (by decide) rfl, ?_⟩
              obtain ⟨hi2, h⟩ := h
              refine ⟨(rm_kL hR1 (k := 7) rfl (by decide)) ▸ hi2, ?_⟩
              obtain ⟨hi3, h⟩ := h
              refine ⟨(rm_kL hR1 (k := 7) rfl (by decide)) ▸ hi3, ?_⟩
              refine ⟨fun hc4 => ?_, fun hc4 => ?_⟩
              · have h := h.1 hc4
                exact g63 _ _ ih _ _ _ _ _ hR1 hF1 h
              · have h := h.2 hc4
                exact g59 _ _ ih _ _ _ _ _ hR1 hF1 h
  have g12 : ∀ (S : MS) (σ : Sg) (l1 : Int32) (s0 : Int32), RM m ad S σ → Fm m ad S0 S → bv_X6_loses_12 P σ l1 s0 → b_X6_loses_12 post S m l1 s0 := by
    intro  S σ l1 s0 hR hF h
    unfold bv_X6_loses_12 at h
    unfold b_X6_loses_12
    try simp only [hR.1, hR.2.1, hR.2.2.1]
    obtain ⟨f15, h⟩ := h
    exact ⟨f15, g15 f15 _ _ _ _ _ hR hF h⟩
  unfold v_X6_loses at h
  unfold w_X6_loses
  try simp only [hR.1, hR.2.1, hR.2.2.1]
  refine ⟨hR.2.2.2.1, ?_⟩
  refine ⟨fun hc1 => ?_, fun hc1 => ?_⟩
  · have h := h.1 hc1
    exact g12 _ _ _ _ hR hF h
  · have h := h.2 hc1
    exact g12 _ _ _ _ hR hF h
def bv_X6_isViolated_174 (P : Int32 → Sg → Prop) (σ : Sg) (l1 : Int32) (l2 : Int32) (l3 : Int32) (l4 : Int32) (l5 : Int32) (l6 : Int32) (s0 : Int32) : Prop := narrow .boolean (.int s0) = .int s0 ∧ P s0 σ
def bv_X6_isViolated_94 (KV20 : Sg → Int32 → Int32 → Int32 → Int32 → Int32 → Int32 → Prop) (P : Int32 → Sg → Prop) (σ : Sg) (l1 : Int32) (l2 : Int32) (l3 : Int32) (l4 : Int32) (l5 : Int32) (l6 : Int32) (l7 : Int32) (s0 : Int32) (s1 : Int32) : Prop := ∀ v1 : Int32, v1 = s1 + s0 → ∀ v2 : Int32, v2 = l6 + 1 → KV20 σ l1 l2 l3 l4 v1 v2
def bv_X6_isViolated_76 (KV20 : Sg → Int32 → Int32 → Int32 → Int32 → Int32 → Int32 → Prop) (P : Int32 → Sg → Prop) (σ : Sg) (l1 : Int32) (l2 : Int32) (l3 : Int32) (l4 : Int32) (l5 : Int32) (l6 : Int32) (l7 : Int32) (s0 : Int32) (s1 : Int32) : Prop := ∀ v1 : Int32, v1 = s1 + s0 → ((¬ l7 = ((-1000)) → bv_X6_isViolated_94 KV20 P σ l1 l2 l3 v1 l5 l6 l7 1 l5) ∧ (l7 = ((-1000)) → bv_X6_isViolated_94 KV20 P σ l1 l2 l3 v1 l5 l6 l7 0 l5))
def bv_X6_isViolated_58 (KV20 : Sg → Int32 → Int32 → Int32 → Int32 → Int32 → Int32 → Prop) (P : Int32 → Sg → Prop) (σ : Sg) (l1 : Int32) (l2 : Int32) (l3 : Int32) (l4 : Int32) (l5 : Int32) (l6 : Int32) (s0 : Int32) : Prop := ((¬ s0 = ((-1000)) → bv_X6_isViolated_76 KV20 P σ l1 l2 l3 l4 l5 l6 s0 s0 l4) ∧ (s0 = ((-1000)) → bv_X6_isViolated_76 KV20 P σ l1 l2 l3 l4 l5 l6 s0 0 l4))
def bv_X6_isViolated_20 (P : Int32 → Sg → Prop) : Nat → Sg → Int32 → Int32 → Int32 → Int32 → Int32 → Int32 → Prop
  | 0 => fun _ _ _ _ _ _ _ => False
  | f + 1 => fun σ l1 l2 l3 l4 l5 l6 => vp_in (l3 + 2) 12 ∧ (((σ.2 20 (ix (l3 + 2))) < l6 → vp_in (l3 + 3) 12 ∧ ∀ v3 : Int32, v3 = σ.2 20 (ix (l3 + 3)) → vp_in l3 12 ∧ ((¬ (σ.2 20 (ix l3)) = 0 → vp_in l3 12 ∧ ((¬ (σ.2 20 (ix l3)) = 1 → ((l5 ≤ v3 → bv_X6_isViolated_174 P σ l1 l2 l3 l4 l5 v3 0) ∧ (¬ l5 ≤ v3 → bv_X6_isViolated_174 P σ l1 l2 l3 l4 l5 v3 1))) ∧ ((σ.2 20 (ix l3)) = 1 → ((l4 ≤ v3 → bv_X6_isViolated_174 P σ l1 l2 l3 l4 l5 v3 0) ∧ (¬ l4 ≤ v3 → bv_X6_isViolated_174 P σ l1 l2 l3 l4 l5 v3 1))))) ∧ ((σ.2 20 (ix l3)) = 0 → ((v3 ≤ l4 → bv_X6_isViolated_174 P σ l1 l2 l3 l4 l5 v3 0) ∧ (¬ v3 ≤ l4 → bv_X6_isViolated_174 P σ l1 l2 l3 l4 l5 v3 1))))) ∧ (¬ (σ.2 20 (ix (l3 + 2))) < l6 → ((¬ l2 = ((-1)) → v_X6_viewed σ l2 l6 (fun r11 σ11 => bv_X6_isViolated_58 (bv_X6_isViolated_20 P f) P σ11 l1 l2 l3 l4 l5 l6 r11)) ∧ (l2 = ((-1)) → v_X6_stored σ (σ.1 14) l6 (fun r12 σ12 => bv_X6_isViolated_58 (bv_X6_isViolated_20 P f) P σ12 l1 l2 l3 l4 l5 l6 r12)))))
def v_X6_isViolated (σ : Sg) (a1 : Int32) (a2 : Int32) (P : Int32 → Sg → Prop) : Prop := ∀ v1 : Int32, v1 = 4 * a1 → vp_in (v1 + 1) 12 ∧ ∀ v3 : Int32, v3 = σ.2 20 (ix (v1 + 1)) → ∃ f20, bv_X6_isViolated_20 P f20 σ a1 a2 v1 0 0 v3
set_option maxHeartbeats 4000000 in
theorem vr_X6_isViolated {m : Nat} {ad : Nat → Nat} {S : MS} {σ : Sg} {a1 : Int32} {a2 : Int32} {P : Int32 → Sg → Prop} {post : Int32 → MS → Prop} (hR : RM m ad S σ) (h : v_X6_isViolated σ a1 a2 P) (hpost : ∀ (r : Int32) (σ2 : Sg) (S2 : MS), P r σ2 → RM m ad S2 σ2 → Fm m ad S S2 → post r S2) : w_X6_isViolated S m a1 a2 post := by
  have hpost := fun r σ2 S2 h1 h2 h3 => hpost r σ2 S2 h1 h2 h3
  have hF := Fm.rf m ad S
  obtain ⟨S0, hS0⟩ : ∃ z : MS, z = S := ⟨_, rfl⟩
  rw [← hS0] at hpost
  have hF : Fm m ad S0 S := by rw [hS0]; exact hF
  have g174 : ∀ (S : MS) (σ : Sg) (l1 : Int32) (l2 : Int32) (l3 : Int32) (l4 : Int32) (l5 : Int32) (l6 : Int32) (s0 : Int32), RM m ad S σ → Fm m ad S0 S → bv_X6_isViolated_174 P σ l1 l2 l3 l4 l5 l6 s0 → b_X6_isViolated_174 post S m l1 l2 l3 l4 l5 l6 s0 := by
    intro  S σ l1 l2 l3 l4 l5 l6 s0 hR hF h
    unfold bv_X6_isViolated_174 at h
    unfold b_X6_isViolated_174
    try simp only [hR.1, hR.2.1, hR.2.2.1]
    obtain ⟨hz, h⟩ := h
    exact ⟨hz, hpost _ _ _ h hR hF⟩
  have g94 : ∀ (KV20 : Sg → Int32 → Int32 → Int32 → Int32 → Int32 → Int32 → Prop) (KH20 : MS → Nat → Int32 → Int32 → Int32 → Int32 → Int32 → Int32 → Prop) (hKV20 : ∀ (S : MS) (σ : Sg) (l1 : Int32) (l2 : Int32) (l3 : Int32) (l4 : Int32) (l5 : Int32) (l6 : Int32), RM m ad S σ → Fm m ad S0 S → KV20 σ l1 l2 l3 l4 l5 l6 → KH20 S m l1 l2 l3 l4 l5 l6 ) (S : MS) (σ : Sg) (l1 : Int32) (l2 : Int32) (l3 : Int32) (l4 : Int32) (l5 : Int32) (l6 : Int32) (l7 : Int32) (s0 : Int32) (s1 : Int32), RM m ad S σ → Fm m ad S0 S → bv_X6_isViolated_94 KV20 P σ l1 l2 l3 l4 l5 l6 l7 s0 s1 → b_X6_isViolated_94 KH20 post S m l1 l2 l3 l4 l5 l6 l7 s0 s1 := by
    intro KV20 KH20 hKV20 S σ l1 l2 l3 l4 l5 l6 l7 s0 s1 hR hF h
    unfold bv_X6_isViolated_94 at h
    unfold b_X6_isViolated_94
    try simp only [hR.1, hR.2.1, hR.2.2.1]
    intro v1 hv1
    have h := h v1 hv1
    intro v2 hv2
    have h := h v2 hv2
    exact hKV20 _ _ _ _ _ _ _ _ hR hF h
  have g76 : ∀ (KV20 : Sg → Int32 → Int32 → Int32 → Int32 → Int32 → Int32 → Prop) (KH20 : MS → Nat → Int32 → Int32 → Int32 → Int32 → Int32 → Int32 → Prop) (hKV20 : ∀ (S : MS) (σ : Sg) (l1 : Int32) (l2 : Int32) (l3 : Int32) (l4 : Int32) (l5 : Int32) (l6 : Int32), RM m ad S σ → Fm m ad S0 S → KV20 σ l1 l2 l3 l4 l5 l6 → KH20 S m l1 l2 l3 l4 l5 l6 ) (S : MS) (σ : Sg) (l1 : Int32) (l2 : Int32) (l3 : Int32) (l4 : Int32) (l5 : Int32) (l6 : Int32) (l7 : Int32) (s0 : Int32) (s1 : Int32), RM m ad S σ → Fm m ad S0 S → bv_X6_isViolated_76 KV20 P σ l1 l2 l3 l4 l5 l6 l7 s0 s1 → b_X6_isViolated_76 KH20 post S m l1 l2 l3 l4 l5 l6 l7 s0 s1 := by
    intro KV20 KH20 hKV20 S σ l1 l2 l3 l4 l5 l6 l7 s0 s1 hR hF h
    unfold bv_X6_isViolated_76 at h
    unfold b_X6_isViolated_76
    try simp only [hR.1, hR.2.1, hR.2.2.1]
    intro v1 hv1
    have h := h v1 hv1
    refine ⟨fun hc2 => ?_, fun hc2 => ?_⟩
    · have h := h.1 hc2
      exact g94 _ _ hKV20 _ _ _ _ _ _ _ _ _ _ _ hR hF h
    · have h := h.2 hc2
      exact g94 _ _ hKV20 _ _ _ _ _ _ _ _ _ _ _ hR hF h
  have g58 : ∀ (KV20 : Sg → Int32 → Int32 → Int32 → Int32 → Int32 → Int32 → Prop) (KH20 : MS → Nat → Int32 → Int32 → Int32 → Int32 → Int32 → Int32 → Prop) (hKV20 : ∀ (S : MS) (σ : Sg) (l1 : Int32) (l2 : Int32) (l3 : Int32) (l4 : Int32) (l5 : Int32) (l6 : Int32), RM m ad S σ → Fm m ad S0 S → KV20 σ l1 l2 l3 l4 l5 l6 → KH20 S m l1 l2 l3 l4 l5 l6 ) (S : MS) (σ : Sg) (l1 : Int32) (l2 : Int32) (l3 : Int32) (l4 : Int32) (l5 : Int32) (l6 : Int32) (s0 : Int32), RM m ad S σ → Fm m ad S0 S → bv_X6_isViolated_58 KV20 P σ l1 l2 l3 l4 l5 l6 s0 → b_X6_isViolated_58 KH20 post S m l1 l2 l3 l4 l5 l6 s0 := by
    intro KV20 KH20 hKV20 S σ l1 l2 l3 l4 l5 l6 s0 hR hF h
    unfold bv_X6_isViolated_58 at h
    unfold b_X6_isViolated_58
    try simp only [hR.1, hR.2.1, hR.2.2.1]
    refine ⟨fun hc1 => ?_, fun hc1 => ?_⟩
    · have h := h.1 hc1
      exact g76 _ _ hKV20 _ _ _ _ _ _ _ _ _ _ _ hR hF h
    · have h := h.2 hc1
      exact g76 _ _ hKV20 _ _ _ _ _ _ _ _ _ _ _ hR hF h
  have g20 : ∀ (f : Nat) (S : MS) (σ : Sg) (l1 : Int32) (l2 : Int32) (l3 : Int32) (l4 : Int32) (l5 : Int32) (l6 : Int32), RM m ad S σ → Fm m ad S0 S → bv_X6_isViolated_20 P f σ l1 l2 l3 l4 l5 l6 → b_X6_isViolated_20 post f S m l1 l2 l3 l4 l5 l6  := by
    intro f
    induction f with
    | zero => intro S σ l1 l2 l3 l4 l5 l6 hR hF h; exact h.elim
    | succ f ih =>
      intro S σ l1 l2 l3 l4 l5 l6 hR hF h
      simp only [bv_X6_isViolated_20] at h
      simp only [b_X6_isViolated_20]
      try simp only [hR.1, hR.2.1, hR.2.2.1]
      refine ⟨hR.2.2.2.1, ?_⟩
      refine ⟨rm_kT hR (by decide) rfl, ?_⟩
      obtain ⟨hi1, h⟩ := h
      refine ⟨(rm_kL hR (k := 20) rfl (by decide)) ▸ hi1, ?_⟩
      refine ⟨fun hc14 => ?_, fun hc14 => ?_⟩
      · have h := h.1 hc14
        obtain ⟨hi2, h⟩ := h
        refine ⟨(rm_kL hR (k := 20) rfl (by decide)) ▸ hi2, ?_⟩
        intro v3 hv3
        have h := h v3 hv3
        obtain ⟨hi4, h⟩ := h
        refine ⟨(rm_kL hR (k := 20) rfl (by decide)) ▸ hi4, ?_⟩
        refine ⟨fun hc10 => ?_, fun hc10 => ?_⟩
        · have h := h.1 hc10
          obtain ⟨hi5, h⟩ := h
          refine ⟨(rm_kL hR (k := 20) rfl (by decide)) ▸ hi5, ?_⟩
          refine ⟨fun hc8 => ?_, fun hc8 => ?_⟩
          · have h := h.1 hc8
            refine ⟨fun hc6 => ?_, fun hc6 => ?_⟩
            · have h := h.1 hc6
              exact g174 _ _ _ _ _ _ _ _ _ hR hF h
            · have h := h.2 hc6
              exact g174 _ _ _ _ _ _ _ _ _ hR hF h
          · have h := h.2 hc8
            refine ⟨fun hc7 => ?_, fun hc7 => ?_⟩
            · have h := h.1 hc7
              exact g174 _ _ _ _ _ _ _ _ _ hR hF h
            · have h := h.2 hc7
              exact g174 _ _ _ _ _ _ _ _ _ hR hF h
        · have h := h.2 hc10
          refine ⟨fun hc9 => ?_, fun hc9 => ?_⟩
          · have h := h.1 hc9
            exact g174 _ _ _ _ _ _ _ _ _ hR hF h
          · have h := h.2 hc9
            exact g174 _ _ _ _ _ _ _ _ _ hR hF h
      · have h := h.2 hc14
        refine ⟨fun hc13 => ?_, fun hc13 => ?_⟩
        · have h := h.1 hc13
          refine vr_X6_viewed hR h (fun r11 σ11 S11 h hR11 hF11 => ?_)
          have hF11 := Fm.tr hF hF11
          try simp only [hR11.1, hR11.2.1, hR11.2.2.1]
          exact g58 _ _ ih _ _ _ _ _ _ _ _ _ hR11 hF11 h
        · have h := h.2 hc13
          refine vr_X6_stored hR h (fun r12 σ12 S12 h hR12 hF12 => ?_)
          have hF12 := Fm.tr hF hF12
          try simp only [hR12.1, hR12.2.1, hR12.2.2.1]
          exact g58 _ _ ih _ _ _ _ _ _ _ _ _ hR12 hF12 h
  unfold v_X6_isViolated at h
  unfold w_X6_isViolated
  try simp only [hR.1, hR.2.1, hR.2.2.1]
  intro v1 hv1
  have h := h v1 hv1
  refine ⟨hR.2.2.2.1, ?_⟩
  refine ⟨rm_kT hR (by decide) rfl, ?_⟩
  obtain ⟨hi2, h⟩ := h
  refine ⟨(rm_kL hR (k := 20) rfl (by decide)) ▸ hi2, ?_⟩
  intro v3 hv3
  have h := h v3 hv3
  obtain ⟨f20, h⟩ := h
  exact ⟨f20, g20 f20 _ _ _ _ _ _ _ _ hR hF h⟩
def bv_X6_violates_30 (KV4 : Sg → Int32 → Int32 → Int32 → Prop) (P : Int32 → Sg → Prop) (σ : Sg) (l1 : Int32) (l2 : Int32) (l3 : Int32) (s0 : Int32) : Prop := ∀ v1 : Int32, v1 = l3 + 1 → KV4 σ l1 s0 v1
def bv_X6_violates_25 (KV4 : Sg → Int32 → Int32 → Int32 → Prop) (P : Int32 → Sg → Prop) (σ : Sg) (l1 : Int32) (l2 : Int32) (l3 : Int32) : Prop := bv_X6_violates_30 KV4 P σ l1 l2 l3 1
def bv_X6_violates_4 (P : Int32 → Sg → Prop) : Nat → Sg → Int32 → Int32 → Int32 → Prop
  | 0 => fun _ _ _ _ => False
  | f + 1 => fun σ l1 l2 l3 => (((σ.1 21) ≤ l3 → narrow .boolean (.int l2) = .int l2 ∧ P l2 σ) ∧ (¬ (σ.1 21) ≤ l3 → ((¬ l2 = 0 → bv_X6_violates_25 (bv_X6_violates_4 P f) P σ l1 l2 l3) ∧ (l2 = 0 → v_X6_isViolated σ l3 l1 (fun r1 σ1 => ((r1 = 0 → bv_X6_violates_30 (bv_X6_violates_4 P f) P σ1 l1 l2 l3 0) ∧ (¬ r1 = 0 → bv_X6_violates_25 (bv_X6_violates_4 P f) P σ1 l1 l2 l3)))))))
def v_X6_violates (σ : Sg) (a1 : Int32) (P : Int32 → Sg → Prop) : Prop := ∃ f4, bv_X6_violates_4 P f4 σ a1 0 0
set_option maxHeartbeats 4000000 in
theorem vr_X6_violates {m : Nat} {ad : Nat → Nat} {S : MS} {σ : Sg} {a1 : Int32} {P : Int32 → Sg → Prop} {post : Int32 → MS → Prop} (hR : RM m ad S σ) (h : v_X6_violates σ a1 P) (hpost : ∀ (r : Int32) (σ2 : Sg) (S2 : MS), P r σ2 → RM m ad S2 σ2 → Fm m ad S S2 → post r S2) : w_X6_violates S m a1 post := by
  have hpost := fun r σ2 S2 h1 h2 h3 => hpost r σ2 S2 h1 h2 h3
  have hF := Fm.rf m ad S
  obtain ⟨S0, hS0⟩ : ∃ z : MS, z = S := ⟨_, rfl⟩
  rw [← hS0] at hpost
  have hF : Fm m ad S0 S := by rw [hS0]; exact hF
  have g30 : ∀ (KV4 : Sg → Int32 → Int32 → Int32 → Prop) (KH4 : MS → Nat → Int32 → Int32 → Int32 → Prop) (hKV4 : ∀ (S : MS) (σ : Sg) (l1 : Int32) (l2 : Int32) (l3 : Int32), RM m ad S σ → Fm m ad S0 S → KV4 σ l1 l2 l3 → KH4 S m l1 l2 l3 ) (S : MS) (σ : Sg) (l1 : Int32) (l2 : Int32) (l3 : Int32) (s0 : Int32), RM m ad S σ → Fm m ad S0 S → bv_X6_violates_30 KV4 P σ l1 l2 l3 s0 → b_X6_violates_30 KH4 post S m l1 l2 l3 s0 := by
    intro KV4 KH4 hKV4 S σ l1 l2 l3 s0 hR hF h
    unfold bv_X6_violates_30 at h
    unfold b_X6_violates_30
    try simp only [hR.1, hR.2.1, hR.2.2.1]
    intro v1 hv1
    have h := h v1 hv1
    exact hKV4 _ _ _ _ _ hR hF h
  have g25 : ∀ (KV4 : Sg → Int32 → Int32 → Int32 → Prop) (KH4 : MS → Nat → Int32 → Int32 → Int32 → Prop) (hKV4 : ∀ (S : MS) (σ : Sg) (l1 : Int32) (l2 : Int32) (l3 : Int32), RM m ad S σ → Fm m ad S0 S → KV4 σ l1 l2 l3 → KH4 S m l1 l2 l3 ) (S : MS) (σ : Sg) (l1 : Int32) (l2 : Int32) (l3 : Int32), RM m ad S σ → Fm m ad S0 S → bv_X6_violates_25 KV4 P σ l1 l2 l3 → b_X6_violates_25 KH4 post S m l1 l2 l3  := by
    intro KV4 KH4 hKV4 S σ l1 l2 l3 hR hF h
    unfold bv_X6_violates_25 at h
    unfold b_X6_violates_25
    try simp only [hR.1, hR.2.1, hR.2.2.1]
    exact g30 _ _ hKV4 _ _ _ _ _ _ hR hF h
  have g4 : ∀ (f : Nat) (S : MS) (σ : Sg) (l1 : Int32) (l2 : Int32) (l3 : Int32), RM m ad S σ → Fm m ad S0 S → bv_X6_violates_4 P f σ l1 l2 l3 → b_X6_violates_4 post f S m l1 l2 l3  := by
    intro f
    induction f with
    | zero => intro S σ l1 l2 l3 hR hF h; exact h.elim
    | succ f ih =>
      intro S σ l1 l2 l3 hR hF h
      simp only [bv_X6_violates_4] at h
      simp only [b_X6_violates_4]
      try simp only [hR.1, hR.2.1, hR.2.2.1]
      refine ⟨hR.2.2.2.1, ?_⟩
      refine ⟨fun hc4 => ?_, fun hc4 => ?_⟩
      · have h := h.1 hc4
        obtain ⟨hz, h⟩ := h
        exact ⟨hz, hpost _ _ _ h hR hF⟩
      · have h := h.2 hc4
        refine ⟨fun hc3 => ?_, fun hc3 => ?_⟩
        · have h := h.1 hc3
          exact g25 _ _ ih _ _ _ _ _ hR hF h
        · have h := h.2 hc3
          refine vr_X6_isViolated hR h (fun r1 σ1 S1 h hR1 hF1 => ?_)
          have hF1 := Fm.tr hF hF1
          try simp only [hR1.1, hR1.2.1, hR1.2.2.1]
          refine ⟨fun hc2 => ?_, fun hc2 => ?_⟩
          · have h := h.1 hc2
            exact g30 _ _ ih _ _ _ _ _ _ hR1 hF1 h
          · have h := h.2 hc2
            exact g25 _ _ ih _ _ _ _ _ hR1 hF1 h
  unfold v_X6_violates at h
  unfold w_X6_violates
  try simp only [hR.1, hR.2.1, hR.2.2.1]
  obtain ⟨f4, h⟩ := h
  exact ⟨f4, g4 f4 _ _ _ _ _ hR hF h⟩
def bv_X6_doCommit_268 (P : Int32 → Sg → Prop) (σ : Sg) (l1 : Int32) (l2 : Int32) (l3 : Int32) (l4 : Int32) (l5 : Int32) (s0 : Int32) : Prop := ∀ σ1 : Sg, σ1 = sF σ 13 s0 → P (σ1.1 14) σ1
def bv_X6_doCommit_177 (P : Int32 → Sg → Prop) : Nat → Sg → Int32 → Int32 → Int32 → Int32 → Int32 → Prop
  | 0 => fun _ _ _ _ _ _ => False
  | f + 1 => fun σ l1 l2 l3 l4 l5 => ((32 ≤ l5 → ∀ σ1 : Sg, σ1 = sF σ 14 ((σ.1 14) + 1) → vp_in (σ1.1 14) 61 ∧ ∀ σ3 : Sg, σ3 = sA σ1 16 (ix (σ1.1 14)) l1 → vp_in l1 80 ∧ ∀ σ5 : Sg, σ5 = sA σ3 5 (ix l1) (σ3.1 14) → vp_in l1 80 ∧ ∀ σ7 : Sg, σ7 = sA σ5 2 (ix l1) 1 → ((¬ (σ7.1 13) = l1 → bv_X6_doCommit_268 P σ7 l1 l2 l3 l4 l5 (σ7.1 13)) ∧ ((σ7.1 13) = l1 → bv_X6_doCommit_268 P σ7 l1 l2 l3 l4 l5 ((-1))))) ∧ (¬ 32 ≤ l5 → v_X6_viewed σ l1 l5 (fun r9 σ9 => vp_in ((32 * ((σ.1 14) + 1)) + l5) 1952 ∧ ∀ σ11 : Sg, σ11 = sA σ9 15 (ix ((32 * ((σ.1 14) + 1)) + l5)) r9 → ∀ v12 : Int32, v12 = l5 + 1 → bv_X6_doCommit_177 P f σ11 l1 l2 l3 l4 v12)))
def bv_X6_doCommit_174 (P : Int32 → Sg → Prop) (σ : Sg) (l1 : Int32) (l2 : Int32) (l3 : Int32) (l4 : Int32) (l5 : Int32) : Prop := ∃ f177, bv_X6_doCommit_177 P f177 σ l1 l2 l3 l4 0
def bv_X6_doCommit_168 (KV134 : Sg → Int32 → Int32 → Int32 → Int32 → Int32 → Prop) (P : Int32 → Sg → Prop) (σ : Sg) (l1 : Int32) (l2 : Int32) (l3 : Int32) (l4 : Int32) (l5 : Int32) : Prop := ∀ v1 : Int32, v1 = l5 + 1 → KV134 σ l1 l2 l3 l4 v1
def bv_X6_doCommit_134 (P : Int32 → Sg → Prop) : Nat → Sg → Int32 → Int32 → Int32 → Int32 → Int32 → Prop
  | 0 => fun _ _ _ _ _ _ => False
  | f + 1 => fun σ l1 l2 l3 l4 l5 => (((σ.1 1) ≤ l5 → bv_X6_doCommit_174 P σ l1 l2 l3 l4 l5) ∧ (¬ (σ.1 1) ≤ l5 → ((¬ (σ.1 17) = 1 → bv_X6_doCommit_174 P σ l1 l2 l3 l4 l5) ∧ ((σ.1 17) = 1 → v_X6_isRival σ l1 l5 (fun r1 σ1 => ((r1 = 0 → bv_X6_doCommit_168 (bv_X6_doCommit_134 P f) P σ1 l1 l2 l3 l4 l5) ∧ (¬ r1 = 0 → v_X6_endWith σ1 l5 3 (fun σ2 => bv_X6_doCommit_168 (bv_X6_doCommit_134 P f) P σ2 l1 l2 l3 l4 l5))))))))
def bv_X6_doCommit_114 (P : Int32 → Sg → Prop) (σ : Sg) (l1 : Int32) (l2 : Int32) (l3 : Int32) (s0 : Int32) : Prop := ((s0 ≤ 0 → ∃ f134, bv_X6_doCommit_134 P f134 σ l1 l2 l3 s0 0) ∧ (¬ s0 ≤ 0 → v_X6_endWith σ l1 s0 (fun σ1 => P ((-2)) σ1)))
def bv_X6_doCommit_84 (P : Int32 → Sg → Prop) (σ : Sg) (l1 : Int32) (l2 : Int32) (s0 : Int32) : Prop := ((l2 ≤ 0 → ((s0 = 0 → v_X6_violates σ l1 (fun r1 σ1 => ((r1 = 0 → bv_X6_doCommit_114 P σ1 l1 l2 s0 0) ∧ (¬ r1 = 0 → bv_X6_doCommit_114 P σ1 l1 l2 s0 4)))) ∧ (¬ s0 = 0 → bv_X6_doCommit_114 P σ l1 l2 s0 3))) ∧ (¬ l2 ≤ 0 → bv_X6_doCommit_114 P σ l1 l2 s0 l2))
def bv_X6_doCommit_83 (P : Int32 → Sg → Prop) (σ : Sg) (l1 : Int32) (l2 : Int32) : Prop := bv_X6_doCommit_84 P σ l1 l2 0
def bv_X6_doCommit_46 (P : Int32 → Sg → Prop) (σ : Sg) (l1 : Int32) (s0 : Int32) : Prop := ((¬ (σ.1 17) = 1 → bv_X6_doCommit_83 P σ l1 s0) ∧ ((σ.1 17) = 1 → (((σ.1 13) = l1 → bv_X6_doCommit_83 P σ l1 s0) ∧ (¬ (σ.1 13) = l1 → v_X6_countRivals σ l1 (fun r1 σ1 => ((r1 ≤ 0 → bv_X6_doCommit_83 P σ1 l1 s0) ∧ (¬ r1 ≤ 0 → v_X6_loses σ1 l1 (fun r2 σ2 => ((r2 = 0 → bv_X6_doCommit_83 P σ2 l1 s0) ∧ (¬ r2 = 0 → bv_X6_doCommit_84 P σ2 l1 s0 1))))))))))
def bv_X6_doCommit_30 (P : Int32 → Sg → Prop) (σ : Sg) (l1 : Int32) : Prop := ((¬ (σ.1 17) = 0 → bv_X6_doCommit_46 P σ l1 0) ∧ ((σ.1 17) = 0 → v_X6_staleness σ l1 (fun r1 σ1 => bv_X6_doCommit_46 P σ1 l1 r1)))
def v_X6_doCommit (σ : Sg) (a1 : Int32) (P : Int32 → Sg → Prop) : Prop := (((σ.1 13) = ((-1)) → bv_X6_doCommit_30 P σ a1) ∧ (¬ (σ.1 13) = ((-1)) → (((σ.1 13) = a1 → bv_X6_doCommit_30 P σ a1) ∧ (¬ (σ.1 13) = a1 → v_X6_conflicts σ a1 (σ.1 13) (fun r1 σ1 => ((r1 = 0 → bv_X6_doCommit_30 P σ1 a1) ∧ (¬ r1 = 0 → P ((-1)) σ1)))))))
set_option maxHeartbeats 4000000 in
theorem vr_X6_doCommit {m : Nat} {ad : Nat → Nat} {S : MS} {σ : Sg} {a1 : Int32} {P : Int32 → Sg → Prop} {post : Int32 → MS → Prop} (hR : RM m ad S σ) (h : v_X6_doCommit σ a1 P) (hpost : ∀ (r : Int32) (σ2 : Sg) (S2 : MS), P r σ2 → RM m ad S2 σ2 → Fm m ad S S2 → post r S2) : w_X6_doCommit S m a1 post := by
  have hpost := fun r σ2 S2 h1 h2 h3 => hpost r σ2 S2 h1 h2 h3
  have hF := Fm.rf m ad S
  obtain ⟨S0, hS0⟩ : ∃ z : MS, z = S := ⟨_, rfl⟩
  rw [← hS0] at hpost
  have hF : Fm m ad S0 S := by rw [hS0]; exact hF
  have g268 : ∀ (S : MS) (σ : Sg) (l1 : Int32) (l2 : Int32) (l3 : Int32) (l4 : Int32) (l5 : Int32) (s0 : Int32), RM m ad S σ → Fm m ad S0 S → bv_X6_doCommit_268 P σ l1 l2 l3 l4 l5 s0 → b_X6_doCommit_268 post S m l1 l2 l3 l4 l5 s0 m := by
    intro  S σ l1 l2 l3 l4 l5 s0 hR hF h
    unfold bv_X6_doCommit_268 at h
    unfold b_X6_doCommit_268
    try simp only [hR.1, hR.2.1, hR.2.2.1]
    refine ⟨hR.2.2.2.1, ?_⟩
    intro S1 hS1
    obtain ⟨σ1, hσ1⟩ : ∃ z : Sg, z = sF σ 13 s0 := ⟨_, rfl⟩
    have h := h σ1 hσ1
    obtain ⟨hR1, hF1⟩ := rm_putF hR hS1 hσ1
    have hF1 := Fm.tr hF hF1
    try simp only [hR1.1, hR1.2.1, hR1.2.2.1]
    refine ⟨hR1.2.2.2.1, ?_⟩
    exact hpost _ _ _ h hR1 hF1
  have g177 : ∀ (f : Nat) (S : MS) (σ : Sg) (l1 : Int32) (l2 : Int32) (l3 : Int32) (l4 : Int32) (l5 : Int32), RM m ad S σ → Fm m ad S0 S → bv_X6_doCommit_177 P f σ l1 l2 l3 l4 l5 → b_X6_doCommit_177 post f S m l1 l2 l3 l4 l5  := by
    intro f
    induction f with
    | zero => intro S σ l1 l2 l3 l4 l5 hR hF h; exact h.elim
    | succ f ih =>
      intro S σ l1 l2 l3 l4 l5 hR hF h
      simp only [bv_X6_doCommit_177] at h
      simp only [b_X6_doCommit_177]
      try simp only [hR.1, hR.2.1, hR.2.2.1]
      refine ⟨fun hc13 => ?_, fun hc13 => ?_⟩
      · have h := h.1 hc13
        refine ⟨hR.2.2.2.1, ?_⟩
        intro S1 hS1
        obtain ⟨σ1, hσ1⟩ : ∃ z : Sg, z = sF σ 14 ((σ.1 14) + 1) := ⟨_, rfl⟩
        have h := h σ1 hσ1
        obtain ⟨hR1, hF1⟩ := rm_putF hR hS1 hσ1
        have hF1 := Fm.tr hF hF1
        try simp only [hR1.1, hR1.2.1, hR1.2.2.1]
        refine ⟨rm_kT hR1 (by decide) rfl, ?_⟩
        obtain ⟨hi2, h⟩ := h
        refine ⟨(rm_kL hR1 (k := 16) rfl (by decide)) ▸ hi2, ?_⟩
        intro S3 hS3
        obtain ⟨σ3, hσ3⟩ : ∃ z : Sg, z = sA σ1 16 (ix (σ1.1 14)) l1 := ⟨_, rfl⟩
        have h := h σ3 hσ3
        obtain ⟨hR3, hF3⟩ := rm_putA hR1 (k := 16) (by decide) hS3 hσ3
        have hF3 := Fm.tr hF1 hF3
        try simp only [hR3.1, hR3.2.1, hR3.2.2.1]
        refine ⟨rm_kT hR3 (by decide) rfl, ?_⟩
        obtain ⟨hi4, h⟩ := h
        refine ⟨(rm_kL hR3 (k := 5) rfl (by decide)) ▸ hi4, ?_⟩
        intro S5 hS5
        obtain ⟨σ5, hσ5⟩ : ∃ z : Sg, z = sA σ3 5 (ix l1) (σ3.1 14) := ⟨_, rfl⟩
        have h := h σ5 hσ5
        obtain ⟨hR5, hF5⟩ := rm_putA hR3 (k := 5) (by decide) hS5 hσ5
        have hF5 := Fm.tr hF3 hF5
        try simp only [hR5.1, hR5.2.1, hR5.2.2.1]
        refine ⟨rm_kT hR5 (by decide) rfl, ?_⟩
        obtain ⟨hi6, h⟩ := h
        refine ⟨(rm_kL hR5 (k := 2) rfl (by decide)) ▸ hi6, ?_⟩
        intro S7 hS7
        obtain ⟨σ7, hσ7⟩ : ∃ z : Sg, z = sA σ5 2 (ix l1) 1 := ⟨_, rfl⟩
        have h := h σ7 hσ7
        obtain ⟨hR7, hF7⟩ := rm_putA hR5 (k := 2) (by decide) hS7 hσ7
        have hF7 := Fm.tr hF5 hF7
        try simp only [hR7.1, hR7.2.1, hR7.2.2.1]
        refine ⟨fun hc8 => ?_, fun hc8 => ?_⟩
        · have h := h.1 hc8
          exact g268 _ _ _ _ _ _ _ _ hR7 hF7 h
        · have h := h.2 hc8
          exact g268 _ _ _ _ _ _ _ _ hR7 hF7 h
      · have h := h.2 hc13
        refine ⟨hR.2.2.2.1, ?_⟩
        refine vr_X6_viewed hR h (fun r9 σ9 S9 h hR9 hF9 => ?_)
        have hF9 := Fm.tr hF hF9
        try simp only [hR9.1, hR9.2.1, hR9.2.2.1]
        refine ⟨rm_kT hR9 (by decide) rfl, ?_⟩
        obtain ⟨hi10, h⟩ := h
        refine ⟨(rm_kL hR9 (k := 15) rfl (by decide)) ▸ hi10, ?_⟩
        intro S11 hS11
        obtain ⟨σ11, hσ11⟩ : ∃ z : Sg, z = sA σ9 15 (ix ((32 * ((σ.1 14) + 1)) + l5)) r9 := ⟨_, rfl⟩
        have h := h σ11 hσ11
        obtain ⟨hR11, hF11⟩ := rm_putA hR9 (k := 15) (by decide) hS11 hσ11
        have hF11 := Fm.tr hF9 hF11
        try simp only [hR11.1, hR11.2.1, hR11.2.2.1]
        intro v12 hv12
        have h := h v12 hv12
        exact ih _ _ _ _ _ _ _ hR11 hF11 h
  have g174 : ∀ (S : MS) (σ : Sg) (l1 : Int32) (l2 : Int32) (l3 : Int32) (l4 : Int32) (l5 : Int32), RM m ad S σ → Fm m ad S0 S → bv_X6_doCommit_174 P σ l1 l2 l3 l4 l5 → b_X6_doCommit_174 post S m l1 l2 l3 l4 l5  := by
    intro  S σ l1 l2 l3 l4 l5 hR hF h
    unfold bv_X6_doCommit_174 at h
    unfold b_X6_doCommit_174
    try simp only [hR.1, hR.2.1, hR.2.2.1]
    obtain ⟨f177, h⟩ := h
    exact ⟨f177, g177 f177 _ _ _ _ _ _ _ hR hF h⟩
  have g168 : ∀ (KV134 : Sg → Int32 → Int32 → Int32 → Int32 → Int32 → Prop) (KH134 : MS → Nat → Int32 → Int32 → Int32 → Int32 → Int32 → Prop) (hKV134 : ∀ (S : MS) (σ : Sg) (l1 : Int32) (l2 : Int32) (l3 : Int32) (l4 : Int32) (l5 : Int32), RM m ad S σ → Fm m ad S0 S → KV134 σ l1 l2 l3 l4 l5 → KH134 S m l1 l2 l3 l4 l5 ) (S : MS) (σ : Sg) (l1 : Int32) (l2 : Int32) (l3 : Int32) (l4 : Int32) (l5 : Int32), RM m ad S σ → Fm m ad S0 S → bv_X6_doCommit_168 KV134 P σ l1 l2 l3 l4 l5 → b_X6_doCommit_168 KH134 post S m l1 l2 l3 l4 l5  := by
    intro KV134 KH134 hKV134 S σ l1 l2 l3 l4 l5 hR hF h
    unfold bv_X6_doCommit_168 at h
    unfold b_X6_doCommit_168
    try simp only [hR.1, hR.2.1, hR.2.2.1]
    intro v1 hv1
    have h := h v1 hv1
    exact hKV134 _ _ _ _ _ _ _ hR hF h
  have g134 : ∀ (f : Nat) (S : MS) (σ : Sg) (l1 : Int32) (l2 : Int32) (l3 : Int32) (l4 : Int32) (l5 : Int32), RM m ad S σ → Fm m ad S0 S → bv_X6_doCommit_134 P f σ l1 l2 l3 l4 l5 → b_X6_doCommit_134 post f S m l1 l2 l3 l4 l5  := by
    intro f
    induction f with
    | zero => intro S σ l1 l2 l3 l4 l5 hR hF h; exact h.elim
    | succ f ih =>
      intro S σ l1 l2 l3 l4 l5 hR hF h
      simp only [bv_X6_doCommit_134] at h
      simp only [b_X6_doCommit_134]
      try simp only [hR.1, hR.2.1, hR.2.2.1]
      refine ⟨hR.2.2.2.1, ?_⟩
      refine ⟨fun hc5 => ?_, fun hc5 => ?_⟩
      · have h := h.1 hc5
        exact g174 _ _ _ _ _ _ _ hR hF h
      · have h := h.2 hc5
        refine ⟨fun hc4 => ?_, fun hc4 => ?_⟩
        · have h := h.1 hc4
          exact g174 _ _ _ _ _ _ _ hR hF h
        · have h := h.2 hc4
          refine vr_X6_isRival hR h (fun r1 σ1 S1 h hR1 hF1 => ?_)
          have hF1 := Fm.tr hF hF1
          try simp only [hR1.1, hR1.2.1, hR1.2.2.1]
          refine ⟨fun hc3 => ?_, fun hc3 => ?_⟩
          · have h := h.1 hc3
            exact g168 _ _ ih _ _ _ _ _ _ _ hR1 hF1 h
          · have h := h.2 hc3
            refine ⟨hR1.2.2.2.1, ?_⟩
            refine vr_X6_endWith hR1 h (fun σ2 S2 h hR2 hF2 => ?_)
            have hF2 := Fm.tr hF1 hF2
            try simp only [hR2.1, hR2.2.1, hR2.2.2.1]
            exact g168 _ _ ih _ _ _ _ _ _ _ hR2 hF2 h
  have g114 : ∀ (S : MS) (σ : Sg) (l1 : Int32) (l2 : Int32) (l3 : Int32) (s0 : Int32), RM m ad S σ → Fm m ad S0 S → bv_X6_doCommit_114 P σ l1 l2 l3 s0 → b_X6_doCommit_114 post S m l1 l2 l3 s0 := by
    intro  S σ l1 l2 l3 s0 hR hF h
    unfold bv_X6_doCommit_114 at h
    unfold b_X6_doCommit_114
    try simp only [hR.1, hR.2.1, hR.2.2.1]
    refine ⟨fun hc2 => ?_, fun hc2 => ?_⟩
    · have h := h.1 hc2
      obtain ⟨f134, h⟩ := h
      exact ⟨f134, g134 f134 _ _ _ _ _ _ _ hR hF h⟩
    · have h := h.2 hc2
      refine ⟨hR.2.2.2.1, ?_⟩
      refine vr_X6_endWith hR h (fun σ1 S1 h hR1 hF1 => ?_)
      have hF1 := Fm.tr hF hF1
      try simp only [hR1.1, hR1.2.1, hR1.2.2.1]
      exact hpost _ _ _ h hR1 hF1
  have g84 : ∀ (S : MS) (σ : Sg) (l1 : Int32) (l2 : Int32) (s0 : Int32), RM m ad S σ → Fm m ad S0 S → bv_X6_doCommit_84 P σ l1 l2 s0 → b_X6_doCommit_84 post S m l1 l2 s0 := by
    intro  S σ l1 l2 s0 hR hF h
    unfold bv_X6_doCommit_84 at h
    unfold b_X6_doCommit_84
    try simp only [hR.1, hR.2.1, hR.2.2.1]
    refine ⟨fun hc4 => ?_, fun hc4 => ?_⟩
    · have h := h.1 hc4
      refine ⟨fun hc3 => ?_, fun hc3 => ?_⟩
      · have h := h.1 hc3
        refine ⟨hR.2.2.2.1, ?_⟩
        refine vr_X6_violates hR h (fun r1 σ1 S1 h hR1 hF1 => ?_)
        have hF1 := Fm.tr hF hF1
        try simp only [hR1.1, hR1.2.1, hR1.2.2.1]
        refine ⟨fun hc2 => ?_, fun hc2 => ?_⟩
        · have h := h.1 hc2
          exact g114 _ _ _ _ _ _ hR1 hF1 h
        · have h := h.2 hc2
          exact g114 _ _ _ _ _ _ hR1 hF1 h
      · have h := h.2 hc3
        exact g114 _ _ _ _ _ _ hR hF h
    · have h := h.2 hc4
      exact g114 _ _ _ _ _ _ hR hF h
  have g83 : ∀ (S : MS) (σ : Sg) (l1 : Int32) (l2 : Int32), RM m ad S σ → Fm m ad S0 S → bv_X6_doCommit_83 P σ l1 l2 → b_X6_doCommit_83 post S m l1 l2  := by
    intro  S σ l1 l2 hR hF h
    unfold bv_X6_doCommit_83 at h
    unfold b_X6_doCommit_83
    try simp only [hR.1, hR.2.1, hR.2.2.1]
    exact g84 _ _ _ _ _ hR hF h
  have g46 : ∀ (S : MS) (σ : Sg) (l1 : Int32) (s0 : Int32), RM m ad S σ → Fm m ad S0 S → bv_X6_doCommit_46 P σ l1 s0 → b_X6_doCommit_46 post S m l1 s0 := by
    intro  S σ l1 s0 hR hF h
    unfold bv_X6_doCommit_46 at h
    unfold b_X6_doCommit_46
    try simp only [hR.1, hR.2.1, hR.2.2.1]
    refine ⟨hR.2.2.2.1, ?_⟩
    refine ⟨fun hc6 => ?_, fun hc6 => ?_⟩
    · have h := h.1 hc6
      exact g83 _ _ _ _ hR hF h
    · have h := h.2 hc6
      refine ⟨fun hc5 => ?_, fun hc5 => ?_⟩
      · have h := h.1 hc5
        exact g83 _ _ _ _ hR hF h
      · have h := h.2 hc5
        refine vr_X6_countRivals hR h (fun r1 σ1 S1 h hR1 hF1 => ?_)
        have hF1 := Fm.tr hF hF1
        try simp only [hR1.1, hR1.2.1, hR1.2.2.1]
        refine ⟨fun hc4 => ?_, fun hc4 => ?_⟩
        · have h := h.1 hc4
          exact g83 _ _ _ _ hR1 hF1 h
        · have h := h.2 hc4
          refine ⟨hR1.2.2.2.1, ?_⟩
          refine vr_X6_loses hR1 h (fun r2 σ2 S2 h hR2 hF2 => ?_)
          have hF2 := Fm.tr hF1 hF2
          try simp only [hR2.1, hR2.2.1, hR2.2.2.1]
          refine ⟨fun hc3 => ?_, fun hc3 => ?_⟩
          · have h := h.1 hc3
            exact g83 _ _ _ _ hR2 hF2 h
          · have h := h.2 hc3
            exact g84 _ _ _ _ _ hR2 hF2 h
  have g30 : ∀ (S : MS) (σ : Sg) (l1 : Int32), RM m ad S σ → Fm m ad S0 S → bv_X6_doCommit_30 P σ l1 → b_X6_doCommit_30 post S m l1  := by
    intro  S σ l1 hR hF h
    unfold bv_X6_doCommit_30 at h
    unfold b_X6_doCommit_30
    try simp only [hR.1, hR.2.1, hR.2.2.1]
    refine ⟨hR.2.2.2.1, ?_⟩
    refine ⟨fun hc2 => ?_, fun hc2 => ?_⟩
    · have h := h.1 hc2
      exact g46 _ _ _ _ hR hF h
    · have h := h.2 hc2
      refine vr_X6_staleness hR h (fun r1 σ1 S1 h hR1 hF1 => ?_)
      have hF1 := Fm.tr hF hF1
      try simp only [hR1.1, hR1.2.1, hR1.2.2.1]
      exact g46 _ _ _ _ hR1 hF1 h
  unfold v_X6_doCommit at h
  unfold w_X6_doCommit
  try simp only [hR.1, hR.2.1, hR.2.2.1]
  refine ⟨hR.2.2.2.1, ?_⟩
  refine ⟨fun hc4 => ?_, fun hc4 => ?_⟩
  · have h := h.1 hc4
    exact g30 _ _ _ hR hF h
  · have h := h.2 hc4
    refine ⟨fun hc3 => ?_, fun hc3 => ?_⟩
    · have h := h.1 hc3
      exact g30 _ _ _ hR hF h
    · have h := h.2 hc3
      refine vr_X6_conflicts hR h (fun r1 σ1 S1 h hR1 hF1 => ?_)
      have hF1 := Fm.tr hF hF1
      try simp only [hR1.1, hR1.2.1, hR1.2.2.1]
      refine ⟨fun hc2 => ?_, fun hc2 => ?_⟩
      · have h := h.1 hc2
        exact g30 _ _ _ hR1 hF1 h
      · have h := h.2 hc2
        exact hpost _ _ _ h hR1 hF1
def bv_X6_commit_55 (P : Int32 → Sg → Prop) (σ : Sg) (l1 : Int32) (s0 : Int32) : Prop := P s0 σ
def bv_X6_commit_36 (P : Int32 → Sg → Prop) (σ : Sg) (l1 : Int32) (s0 : Int32) : Prop := ∀ σ1 : Sg, σ1 = sF σ 0 s0 → ((¬ (σ1.1 0) = 0 → bv_X6_commit_55 P σ1 l1 0) ∧ ((σ1.1 0) = 0 → v_X6_doCommit σ1 l1 (fun r2 σ2 => bv_X6_commit_55 P σ2 l1 r2)))
def bv_X6_commit_31 (P : Int32 → Sg → Prop) (σ : Sg) (l1 : Int32) : Prop := bv_X6_commit_36 P σ l1 2
def v_X6_commit (σ : Sg) (a1 : Int32) (P : Int32 → Sg → Prop) : Prop := v_X6_isTransaction σ a1 (fun r1 σ1 => ((¬ r1 = 0 → vp_in a1 80 ∧ ((¬ (σ1.2 2 (ix a1)) = 0 → bv_X6_commit_31 P σ1 a1) ∧ ((σ1.2 2 (ix a1)) = 0 → ((¬ (σ1.1 14) = 60 → bv_X6_commit_36 P σ1 a1 0) ∧ ((σ1.1 14) = 60 → bv_X6_commit_31 P σ1 a1))))) ∧ (r1 = 0 → bv_X6_commit_36 P σ1 a1 1)))
set_option maxHeartbeats 4000000 in
theorem vr_X6_commit {m : Nat} {ad : Nat → Nat} {S : MS} {σ : Sg} {a1 : Int32} {P : Int32 → Sg → Prop} {post : Int32 → MS → Prop} (hR : RM m ad S σ) (h : v_X6_commit σ a1 P) (hpost : ∀ (r : Int32) (σ2 : Sg) (S2 : MS), P r σ2 → RM m ad S2 σ2 → Fm m ad S S2 → post r S2) : w_X6_commit S m a1 post := by
  have hpost := fun r σ2 S2 h1 h2 h3 => hpost r σ2 S2 h1 h2 h3
  have hF := Fm.rf m ad S
  obtain ⟨S0, hS0⟩ : ∃ z : MS, z = S := ⟨_, rfl⟩
  rw [← hS0] at hpost
  have hF : Fm m ad S0 S := by rw [hS0]; exact hF
  have g55 : ∀ (S : MS) (σ : Sg) (l1 : Int32) (s0 : Int32), RM m ad S σ → Fm m ad S0 S → bv_X6_commit_55 P σ l1 s0 → b_X6_commit_55 post S m l1 s0 := by
    intro  S σ l1 s0 hR hF h
    unfold bv_X6_commit_55 at h
    unfold b_X6_commit_55
    try simp only [hR.1, hR.2.1, hR.2.2.1]
    exact hpost _ _ _ h hR hF
  have g36 : ∀ (S : MS) (σ : Sg) (l1 : Int32) (s0 : Int32), RM m ad S σ → Fm m ad S0 S → bv_X6_commit_36 P σ l1 s0 → b_X6_commit_36 post S m l1 s0 m := by
    intro  S σ l1 s0 hR hF h
    unfold bv_X6_commit_36 at h
    unfold b_X6_commit_36
    try simp only [hR.1, hR.2.1, hR.2.2.1]
    refine ⟨hR.2.2.2.1, ?_⟩
    intro S1 hS1
    obtain ⟨σ1, hσ1⟩ : ∃ z : Sg, z = sF σ 0 s0 := ⟨_, rfl⟩
    have h := h σ1 hσ1
    obtain ⟨hR1, hF1⟩ := rm_putF hR hS1 hσ1
    have hF1 := Fm.tr hF hF1
    try simp only [hR1.1, hR1.2.1, hR1.2.2.1]
    refine ⟨hR1.2.2.2.1, ?_⟩
    refine ⟨fun hc3 => ?_, fun hc3 => ?_⟩
    · have h := h.1 hc3
      exact g55 _ _ _ _ hR1 hF1 h
    · have h := h.2 hc3
      refine vr_X6_doCommit hR1 h (fun r2 σ2 S2 h hR2 hF2 => ?_)
      have hF2 := Fm.tr hF1 hF2
      try simp only [hR2.1, hR2.2.1, hR2.2.2.1]
      exact g55 _ _ _ _ hR2 hF2 h
  have g31 : ∀ (S : MS) (σ : Sg) (l1 : Int32), RM m ad S σ → Fm m ad S0 S → bv_X6_commit_31 P σ l1 → b_X6_commit_31 post S m l1 m := by
    intro  S σ l1 hR hF h
    unfold bv_X6_commit_31 at h
    unfold b_X6_commit_31
    try simp only [hR.1, hR.2.1, hR.2.2.1]
    exact g36 _ _ _ _ hR hF h
  unfold v_X6_commit at h
  unfold w_X6_commit
  try simp only [hR.1, hR.2.1, hR.2.2.1]
  refine ⟨hR.2.2.2.1, ?_⟩
  refine vr_X6_isTransaction hR h (fun r1 σ1 S1 h hR1 hF1 => ?_)
  have hF1 := Fm.tr hF hF1
  try simp only [hR1.1, hR1.2.1, hR1.2.2.1]
  refine ⟨fun hc5 => ?_, fun hc5 => ?_⟩
  · have h := h.1 hc5
    refine ⟨hR1.2.2.2.1, ?_⟩
    refine ⟨rm_kT hR1 (by decide) rfl, ?_⟩
    obtain ⟨hi2, h⟩ := h
    refine ⟨(rm_kL hR1 (k := 2) rfl (by decide)) ▸ hi2, ?_⟩
    refine ⟨fun hc4 => ?_, fun hc4 => ?_⟩
    · have h := h.1 hc4
      exact g31 _ _ _ hR1 hF1 h
    · have h := h.2 hc4
      refine ⟨fun hc3 => ?_, fun hc3 => ?_⟩
      · have h := h.1 hc3
        exact g36 _ _ _ _ hR1 hF1 h
      · have h := h.2 hc3
        exact g31 _ _ _ hR1 hF1 h
  · have h := h.2 hc5
    exact g36 _ _ _ _ hR1 hF1 h
def bv_X6_abort_22 (P : Sg → Prop) (σ : Sg) (l1 : Int32) : Prop := P σ
def v_X6_abort (σ : Sg) (a1 : Int32) (P : Sg → Prop) : Prop := v_X6_activeProblem σ a1 (fun r1 σ1 => ∀ σ2 : Sg, σ2 = sF σ1 0 r1 → ((¬ (σ2.1 0) = 0 → bv_X6_abort_22 P σ2 a1) ∧ ((σ2.1 0) = 0 → v_X6_endWith σ2 a1 5 (fun σ3 => bv_X6_abort_22 P σ3 a1))))
set_option maxHeartbeats 4000000 in
theorem vr_X6_abort {m : Nat} {ad : Nat → Nat} {S : MS} {σ : Sg} {a1 : Int32} {P : Sg → Prop} {post : MS → Prop} (hR : RM m ad S σ) (h : v_X6_abort σ a1 P) (hpost : ∀ (σ2 : Sg) (S2 : MS), P σ2 → RM m ad S2 σ2 → Fm m ad S S2 → post S2) : w_X6_abort S m a1 post := by
  have hpost := fun σ2 S2 h1 h2 h3 => hpost σ2 S2 h1 h2 h3
  have hF := Fm.rf m ad S
  obtain ⟨S0, hS0⟩ : ∃ z : MS, z = S := ⟨_, rfl⟩
  rw [← hS0] at hpost
  have hF : Fm m ad S0 S := by rw [hS0]; exact hF
  have g22 : ∀ (S : MS) (σ : Sg) (l1 : Int32), RM m ad S σ → Fm m ad S0 S → bv_X6_abort_22 P σ l1 → b_X6_abort_22 post S m l1  := by
    intro  S σ l1 hR hF h
    unfold bv_X6_abort_22 at h
    unfold b_X6_abort_22
    try simp only [hR.1, hR.2.1, hR.2.2.1]
    exact hpost _ _ h hR hF
  unfold v_X6_abort at h
  unfold w_X6_abort
  try simp only [hR.1, hR.2.1, hR.2.2.1]
  refine ⟨hR.2.2.2.1, ?_⟩
  refine vr_X6_activeProblem hR h (fun r1 σ1 S1 h hR1 hF1 => ?_)
  have hF1 := Fm.tr hF hF1
  try simp only [hR1.1, hR1.2.1, hR1.2.2.1]
  refine ⟨hR1.2.2.2.1, ?_⟩
  intro S2 hS2
  obtain ⟨σ2, hσ2⟩ : ∃ z : Sg, z = sF σ1 0 r1 := ⟨_, rfl⟩
  have h := h σ2 hσ2
  obtain ⟨hR2, hF2⟩ := rm_putF hR1 hS2 hσ2
  have hF2 := Fm.tr hF1 hF2
  try simp only [hR2.1, hR2.2.1, hR2.2.2.1]
  refine ⟨fun hc4 => ?_, fun hc4 => ?_⟩
  · have h := h.1 hc4
    exact g22 _ _ _ hR2 hF2 h
  · have h := h.2 hc4
    refine vr_X6_endWith hR2 h (fun σ3 S3 h hR3 hF3 => ?_)
    have hF3 := Fm.tr hF2 hF3
    try simp only [hR3.1, hR3.2.1, hR3.2.2.1]
    exact g22 _ _ _ hR3 hF3 h
def v_X6_clock (σ : Sg)  (P : Int32 → Sg → Prop) : Prop := ∀ σ1 : Sg, σ1 = sF σ 0 0 → P (σ1.1 14) σ1
set_option maxHeartbeats 4000000 in
theorem vr_X6_clock {m : Nat} {ad : Nat → Nat} {S : MS} {σ : Sg}  {P : Int32 → Sg → Prop} {post : Int32 → MS → Prop} (hR : RM m ad S σ) (h : v_X6_clock σ  P) (hpost : ∀ (r : Int32) (σ2 : Sg) (S2 : MS), P r σ2 → RM m ad S2 σ2 → Fm m ad S S2 → post r S2) : w_X6_clock S m  post := by
  have hpost := fun r σ2 S2 h1 h2 h3 => hpost r σ2 S2 h1 h2 h3
  have hF := Fm.rf m ad S
  obtain ⟨S0, hS0⟩ : ∃ z : MS, z = S := ⟨_, rfl⟩
  rw [← hS0] at hpost
  have hF : Fm m ad S0 S := by rw [hS0]; exact hF
  unfold v_X6_clock at h
  unfold w_X6_clock
  try simp only [hR.1, hR.2.1, hR.2.2.1]
  refine ⟨hR.2.2.2.1, ?_⟩
  intro S1 hS1
  obtain ⟨σ1, hσ1⟩ : ∃ z : Sg, z = sF σ 0 0 := ⟨_, rfl⟩
  have h := h σ1 hσ1
  obtain ⟨hR1, hF1⟩ := rm_putF hR hS1 hσ1
  have hF1 := Fm.tr hF hF1
  try simp only [hR1.1, hR1.2.1, hR1.2.2.1]
  exact hpost _ _ _ h hR1 hF1
def v_X6_transactionCount (σ : Sg)  (P : Int32 → Sg → Prop) : Prop := ∀ σ1 : Sg, σ1 = sF σ 0 0 → P (σ1.1 1) σ1
set_option maxHeartbeats 4000000 in
theorem vr_X6_transactionCount {m : Nat} {ad : Nat → Nat} {S : MS} {σ : Sg}  {P : Int32 → Sg → Prop} {post : Int32 → MS → Prop} (hR : RM m ad S σ) (h : v_X6_transactionCount σ  P) (hpost : ∀ (r : Int32) (σ2 : Sg) (S2 : MS), P r σ2 → RM m ad S2 σ2 → Fm m ad S S2 → post r S2) : w_X6_transactionCount S m  post := by
  have hpost := fun r σ2 S2 h1 h2 h3 => hpost r σ2 S2 h1 h2 h3
  have hF := Fm.rf m ad S
  obtain ⟨S0, hS0⟩ : ∃ z : MS, z = S := ⟨_, rfl⟩
  rw [← hS0] at hpost
  have hF : Fm m ad S0 S := by rw [hS0]; exact hF
  unfold v_X6_transactionCount at h
  unfold w_X6_transactionCount
  try simp only [hR.1, hR.2.1, hR.2.2.1]
  refine ⟨hR.2.2.2.1, ?_⟩
  intro S1 hS1
  obtain ⟨σ1, hσ1⟩ : ∃ z : Sg, z = sF σ 0 0 := ⟨_, rfl⟩
  have h := h σ1 hσ1
  obtain ⟨hR1, hF1⟩ := rm_putF hR hS1 hσ1
  have hF1 := Fm.tr hF hF1
  try simp only [hR1.1, hR1.2.1, hR1.2.2.1]
  exact hpost _ _ _ h hR1 hF1
def v_X6_activeCount (σ : Sg)  (P : Int32 → Sg → Prop) : Prop := ∀ σ1 : Sg, σ1 = sF σ 0 0 → v_X6_activeNow σ1 (fun r2 σ2 => P r2 σ2)
set_option maxHeartbeats 4000000 in
theorem vr_X6_activeCount {m : Nat} {ad : Nat → Nat} {S : MS} {σ : Sg}  {P : Int32 → Sg → Prop} {post : Int32 → MS → Prop} (hR : RM m ad S σ) (h : v_X6_activeCount σ  P) (hpost : ∀ (r : Int32) (σ2 : Sg) (S2 : MS), P r σ2 → RM m ad S2 σ2 → Fm m ad S S2 → post r S2) : w_X6_activeCount S m  post := by
  have hpost := fun r σ2 S2 h1 h2 h3 => hpost r σ2 S2 h1 h2 h3
  have hF := Fm.rf m ad S
  obtain ⟨S0, hS0⟩ : ∃ z : MS, z = S := ⟨_, rfl⟩
  rw [← hS0] at hpost
  have hF : Fm m ad S0 S := by rw [hS0]; exact hF
  unfold v_X6_activeCount at h
  unfold w_X6_activeCount
  try simp only [hR.1, hR.2.1, hR.2.2.1]
  refine ⟨hR.2.2.2.1, ?_⟩
  intro S1 hS1
  obtain ⟨σ1, hσ1⟩ : ∃ z : Sg, z = sF σ 0 0 := ⟨_, rfl⟩
  have h := h σ1 hσ1
  obtain ⟨hR1, hF1⟩ := rm_putF hR hS1 hσ1
  have hF1 := Fm.tr hF hF1
  try simp only [hR1.1, hR1.2.1, hR1.2.2.1]
  refine vr_X6_activeNow hR1 h (fun r2 σ2 S2 h hR2 hF2 => ?_)
  have hF2 := Fm.tr hF1 hF2
  try simp only [hR2.1, hR2.2.1, hR2.2.2.1]
  exact hpost _ _ _ h hR2 hF2
def bv_X6_ticketHolder_25 (P : Int32 → Sg → Prop) (σ : Sg) (s0 : Int32) : Prop := P s0 σ
def v_X6_ticketHolder (σ : Sg)  (P : Int32 → Sg → Prop) : Prop := ∀ σ1 : Sg, σ1 = sF σ 0 0 → ((¬ (σ1.1 13) = ((-1)) → bv_X6_ticketHolder_25 P σ1 (σ1.1 13)) ∧ ((σ1.1 13) = ((-1)) → v_X6_fail σ1 1 (fun r2 σ2 => bv_X6_ticketHolder_25 P σ2 r2)))
set_option maxHeartbeats 4000000 in
theorem vr_X6_ticketHolder {m : Nat} {ad : Nat → Nat} {S : MS} {σ : Sg}  {P : Int32 → Sg → Prop} {post : Int32 → MS → Prop} (hR : RM m ad S σ) (h : v_X6_ticketHolder σ  P) (hpost : ∀ (r : Int32) (σ2 : Sg) (S2 : MS), P r σ2 → RM m ad S2 σ2 → Fm m ad S S2 → post r S2) : w_X6_ticketHolder S m  post := by
  have hpost := fun r σ2 S2 h1 h2 h3 => hpost r σ2 S2 h1 h2 h3
  have hF := Fm.rf m ad S
  obtain ⟨S0, hS0⟩ : ∃ z : MS, z = S := ⟨_, rfl⟩
  rw [← hS0] at hpost
  have hF : Fm m ad S0 S := by rw [hS0]; exact hF
  have g25 : ∀ (S : MS) (σ : Sg) (s0 : Int32), RM m ad S σ → Fm m ad S0 S → bv_X6_ticketHolder_25 P σ s0 → b_X6_ticketHolder_25 post S m s0 := by
    intro  S σ s0 hR hF h
    unfold bv_X6_ticketHolder_25 at h
    unfold b_X6_ticketHolder_25
    try simp only [hR.1, hR.2.1, hR.2.2.1]
    exact hpost _ _ _ h hR hF
  unfold v_X6_ticketHolder at h
  unfold w_X6_ticketHolder
  try simp only [hR.1, hR.2.1, hR.2.2.1]
  refine ⟨hR.2.2.2.1, ?_⟩
  intro S1 hS1
  obtain ⟨σ1, hσ1⟩ : ∃ z : Sg, z = sF σ 0 0 := ⟨_, rfl⟩
  have h := h σ1 hσ1
  obtain ⟨hR1, hF1⟩ := rm_putF hR hS1 hσ1
  have hF1 := Fm.tr hF hF1
  try simp only [hR1.1, hR1.2.1, hR1.2.2.1]
  refine ⟨fun hc3 => ?_, fun hc3 => ?_⟩
  · have h := h.1 hc3
    exact g25 _ _ _ hR1 hF1 h
  · have h := h.2 hc3
    refine vr_X6_fail hR1 h (fun r2 σ2 S2 h hR2 hF2 => ?_)
    have hF2 := Fm.tr hF1 hF2
    try simp only [hR2.1, hR2.2.1, hR2.2.2.1]
    exact g25 _ _ _ hR2 hF2 h
def bv_X6_state_27 (P : Int32 → Sg → Prop) (σ : Sg) (l1 : Int32) (s0 : Int32) : Prop := P s0 σ
def v_X6_state (σ : Sg) (a1 : Int32) (P : Int32 → Sg → Prop) : Prop := ∀ σ1 : Sg, σ1 = sF σ 0 0 → v_X6_isTransaction σ1 a1 (fun r2 σ2 => ((r2 = 0 → v_X6_fail σ2 1 (fun r3 σ3 => bv_X6_state_27 P σ3 a1 r3)) ∧ (¬ r2 = 0 → vp_in a1 80 ∧ bv_X6_state_27 P σ2 a1 (σ2.2 2 (ix a1)))))
set_option maxHeartbeats 4000000 in
theorem vr_X6_state {m : Nat} {ad : Nat → Nat} {S : MS} {σ : Sg} {a1 : Int32} {P : Int32 → Sg → Prop} {post : Int32 → MS → Prop} (hR : RM m ad S σ) (h : v_X6_state σ a1 P) (hpost : ∀ (r : Int32) (σ2 : Sg) (S2 : MS), P r σ2 → RM m ad S2 σ2 → Fm m ad S S2 → post r S2) : w_X6_state S m a1 post := by
  have hpost := fun r σ2 S2 h1 h2 h3 => hpost r σ2 S2 h1 h2 h3
  have hF := Fm.rf m ad S
  obtain ⟨S0, hS0⟩ : ∃ z : MS, z = S := ⟨_, rfl⟩
  rw [← hS0] at hpost
  have hF : Fm m ad S0 S := by rw [hS0]; exact hF
  have g27 : ∀ (S : MS) (σ : Sg) (l1 : Int32) (s0 : Int32), RM m ad S σ → Fm m ad S0 S → bv_X6_state_27 P σ l1 s0 → b_X6_state_27 post S m l1 s0 := by
    intro  S σ l1 s0 hR hF h
    unfold bv_X6_state_27 at h
    unfold b_X6_state_27
    try simp only [hR.1, hR.2.1, hR.2.2.1]
    exact hpost _ _ _ h hR hF
  unfold v_X6_state at h
  unfold w_X6_state
  try simp only [hR.1, hR.2.1, hR.2.2.1]
  refine ⟨hR.2.2.2.1, ?_⟩
  intro S1 hS1
  obtain ⟨σ1, hσ1⟩ : ∃ z : Sg, z = sF σ 0 0 := ⟨_, rfl⟩
  have h := h σ1 hσ1
  obtain ⟨hR1, hF1⟩ := rm_putF hR hS1 hσ1
  have hF1 := Fm.tr hF hF1
  try simp only [hR1.1, hR1.2.1, hR1.2.2.1]
  refine vr_X6_isTransaction hR1 h (fun r2 σ2 S2 h hR2 hF2 => ?_)
  have hF2 := Fm.tr hF1 hF2
  try simp only [hR2.1, hR2.2.1, hR2.2.2.1]
  refine ⟨fun hc5 => ?_, fun hc5 => ?_⟩
  · have h := h.1 hc5
    refine ⟨hR2.2.2.2.1, ?_⟩
    refine vr_X6_fail hR2 h (fun r3 σ3 S3 h hR3 hF3 => ?_)
    have hF3 := Fm.tr hF2 hF3
    try simp only [hR3.1, hR3.2.1, hR3.2.2.1]
    exact g27 _ _ _ _ hR3 hF3 h
  · have h := h.2 hc5
    refine ⟨hR2.2.2.2.1, ?_⟩
    refine ⟨rm_kT hR2 (by decide) rfl, ?_⟩
    obtain ⟨hi4, h⟩ := h
    refine ⟨(rm_kL hR2 (k := 2) rfl (by decide)) ▸ hi4, ?_⟩
    exact g27 _ _ _ _ hR2 hF2 h
def bv_X6_attempt_27 (P : Int32 → Sg → Prop) (σ : Sg) (l1 : Int32) (s0 : Int32) : Prop := P s0 σ
def v_X6_attempt (σ : Sg) (a1 : Int32) (P : Int32 → Sg → Prop) : Prop := ∀ σ1 : Sg, σ1 = sF σ 0 0 → v_X6_isTransaction σ1 a1 (fun r2 σ2 => ((r2 = 0 → v_X6_fail σ2 1 (fun r3 σ3 => bv_X6_attempt_27 P σ3 a1 r3)) ∧ (¬ r2 = 0 → vp_in a1 80 ∧ bv_X6_attempt_27 P σ2 a1 (σ2.2 3 (ix a1)))))
set_option maxHeartbeats 4000000 in
theorem vr_X6_attempt {m : Nat} {ad : Nat → Nat} {S : MS} {σ : Sg} {a1 : Int32} {P : Int32 → Sg → Prop} {post : Int32 → MS → Prop} (hR : RM m ad S σ) (h : v_X6_attempt σ a1 P) (hpost : ∀ (r : Int32) (σ2 : Sg) (S2 : MS), P r σ2 → RM m ad S2 σ2 → Fm m ad S S2 → post r S2) : w_X6_attempt S m a1 post := by
  have hpost := fun r σ2 S2 h1 h2 h3 => hpost r σ2 S2 h1 h2 h3
  have hF := Fm.rf m ad S
  obtain ⟨S0, hS0⟩ : ∃ z : MS, z = S := ⟨_, rfl⟩
  rw [← hS0] at hpost
  have hF : Fm m ad S0 S := by rw [hS0]; exact hF
  have g27 : ∀ (S : MS) (σ : Sg) (l1 : Int32) (s0 : Int32), RM m ad S σ → Fm m ad S0 S → bv_X6_attempt_27 P σ l1 s0 → b_X6_attempt_27 post S m l1 s0 := by
    intro  S σ l1 s0 hR hF h
    unfold bv_X6_attempt_27 at h
    unfold b_X6_attempt_27
    try simp only [hR.1, hR.2.1, hR.2.2.1]
    exact hpost _ _ _ h hR hF
  unfold v_X6_attempt at h
  unfold w_X6_attempt
  try simp only [hR.1, hR.2.1, hR.2.2.1]
  refine ⟨hR.2.2.2.1, ?_⟩
  intro S1 hS1
  obtain ⟨σ1, hσ1⟩ : ∃ z : Sg, z = sF σ 0 0 := ⟨_, rfl⟩
  have h := h σ1 hσ1
  obtain ⟨hR1, hF1⟩ := rm_putF hR hS1 hσ1
  have hF1 := Fm.tr hF hF1
  try simp only [hR1.1, hR1.2.1, hR1.2.2.1]
  refine vr_X6_isTransaction hR1 h (fun r2 σ2 S2 h hR2 hF2 => ?_)
  have hF2 := Fm.tr hF1 hF2
  try simp only [hR2.1, hR2.2.1, hR2.2.2.1]
  refine ⟨fun hc5 => ?_, fun hc5 => ?_⟩
  · have h := h.1 hc5
    refine ⟨hR2.2.2.2.1, ?_⟩
    refine vr_X6_fail hR2 h (fun r3 σ3 S3 h hR3 hF3 => ?_)
    have hF3 := Fm.tr hF2 hF3
    try simp only [hR3.1, hR3.2.1, hR3.2.2.1]
    exact g27 _ _ _ _ hR3 hF3 h
  · have h := h.2 hc5
    refine ⟨hR2.2.2.2.1, ?_⟩
    refine ⟨rm_kT hR2 (by decide) rfl, ?_⟩
    obtain ⟨hi4, h⟩ := h
    refine ⟨(rm_kL hR2 (k := 3) rfl (by decide)) ▸ hi4, ?_⟩
    exact g27 _ _ _ _ hR2 hF2 h
def bv_X6_reason_45 (P : Int32 → Sg → Prop) (σ : Sg) (l1 : Int32) (s0 : Int32) : Prop := P s0 σ
def v_X6_reason (σ : Sg) (a1 : Int32) (P : Int32 → Sg → Prop) : Prop := ∀ σ1 : Sg, σ1 = sF σ 0 0 → v_X6_isTransaction σ1 a1 (fun r2 σ2 => ((¬ r2 = 0 → vp_in a1 80 ∧ (((σ2.2 2 (ix a1)) = 2 → vp_in a1 80 ∧ bv_X6_reason_45 P σ2 a1 (σ2.2 4 (ix a1))) ∧ (¬ (σ2.2 2 (ix a1)) = 2 → v_X6_fail σ2 2 (fun r5 σ5 => bv_X6_reason_45 P σ5 a1 r5)))) ∧ (r2 = 0 → v_X6_fail σ2 1 (fun r7 σ7 => bv_X6_reason_45 P σ7 a1 r7))))
set_option maxHeartbeats 4000000 in
theorem vr_X6_reason {m : Nat} {ad : Nat → Nat} {S : MS} {σ : Sg} {a1 : Int32} {P : Int32 → Sg → Prop} {post : Int32 → MS → Prop} (hR : RM m ad S σ) (h : v_X6_reason σ a1 P) (hpost : ∀ (r : Int32) (σ2 : Sg) (S2 : MS), P r σ2 → RM m ad S2 σ2 → Fm m ad S S2 → post r S2) : w_X6_reason S m a1 post := by
  have hpost := fun r σ2 S2 h1 h2 h3 => hpost r σ2 S2 h1 h2 h3
  have hF := Fm.rf m ad S
  obtain ⟨S0, hS0⟩ : ∃ z : MS, z = S := ⟨_, rfl⟩
  rw [← hS0] at hpost
  have hF : Fm m ad S0 S := by rw [hS0]; exact hF
  have g45 : ∀ (S : MS) (σ : Sg) (l1 : Int32) (s0 : Int32), RM m ad S σ → Fm m ad S0 S → bv_X6_reason_45 P σ l1 s0 → b_X6_reason_45 post S m l1 s0 := by
    intro  S σ l1 s0 hR hF h
    unfold bv_X6_reason_45 at h
    unfold b_X6_reason_45
    try simp only [hR.1, hR.2.1, hR.2.2.1]
    exact hpost _ _ _ h hR hF
  unfold v_X6_reason at h
  unfold w_X6_reason
  try simp only [hR.1, hR.2.1, hR.2.2.1]
  refine ⟨hR.2.2.2.1, ?_⟩
  intro S1 hS1
  obtain ⟨σ1, hσ1⟩ : ∃ z : Sg, z = sF σ 0 0 := ⟨_, rfl⟩
  have h := h σ1 hσ1
  obtain ⟨hR1, hF1⟩ := rm_putF hR hS1 hσ1
  have hF1 := Fm.tr hF hF1
  try simp only [hR1.1, hR1.2.1, hR1.2.2.1]
  refine vr_X6_isTransaction hR1 h (fun r2 σ2 S2 h hR2 hF2 => ?_)
  have hF2 := Fm.tr hF1 hF2
  try simp only [hR2.1, hR2.2.1, hR2.2.2.1]
  refine ⟨fun hc8 => ?_, fun hc8 => ?_⟩
  · have h := h.1 hc8
    refine ⟨hR2.2.2.2.1, ?_⟩
    refine ⟨rm_kT hR2 (by decide) rfl, ?_⟩
    obtain ⟨hi3, h⟩ := h
    refine ⟨(rm_kL hR2 (k := 2) rfl (by decide)) ▸ hi3, ?_⟩
    refine ⟨fun hc6 => ?_, fun hc6 => ?_⟩
    · have h := h.1 hc6
      refine ⟨rm_kT hR2 (by decide) rfl, ?_⟩
      obtain ⟨hi4, h⟩ := h
      refine ⟨(rm_kL hR2 (k := 4) rfl (by decide)) ▸ hi4, ?_⟩
      exact g45 _ _ _ _ hR2 hF2 h
    · have h := h.2 hc6
      refine vr_X6_fail hR2 h (fun r5 σ5 S5 h hR5 hF5 => ?_)
      have hF5 := Fm.tr hF2 hF5
      try simp only [hR5.1, hR5.2.1, hR5.2.2.1]
      exact g45 _ _ _ _ hR5 hF5 h
  · have h := h.2 hc8
    refine ⟨hR2.2.2.2.1, ?_⟩
    refine vr_X6_fail hR2 h (fun r7 σ7 S7 h hR7 hF7 => ?_)
    have hF7 := Fm.tr hF2 hF7
    try simp only [hR7.1, hR7.2.1, hR7.2.2.1]
    exact g45 _ _ _ _ hR7 hF7 h
def bv_X6_commitOf_45 (P : Int32 → Sg → Prop) (σ : Sg) (l1 : Int32) (s0 : Int32) : Prop := P s0 σ
def v_X6_commitOf (σ : Sg) (a1 : Int32) (P : Int32 → Sg → Prop) : Prop := ∀ σ1 : Sg, σ1 = sF σ 0 0 → v_X6_isTransaction σ1 a1 (fun r2 σ2 => ((¬ r2 = 0 → vp_in a1 80 ∧ (((σ2.2 2 (ix a1)) = 1 → vp_in a1 80 ∧ bv_X6_commitOf_45 P σ2 a1 (σ2.2 5 (ix a1))) ∧ (¬ (σ2.2 2 (ix a1)) = 1 → v_X6_fail σ2 2 (fun r5 σ5 => bv_X6_commitOf_45 P σ5 a1 r5)))) ∧ (r2 = 0 → v_X6_fail σ2 1 (fun r7 σ7 => bv_X6_commitOf_45 P σ7 a1 r7))))
set_option maxHeartbeats 4000000 in
theorem vr_X6_commitOf {m : Nat} {ad : Nat → Nat} {S : MS} {σ : Sg} {a1 : Int32} {P : Int32 → Sg → Prop} {post : Int32 → MS → Prop} (hR : RM m ad S σ) (h : v_X6_commitOf σ a1 P) (hpost : ∀ (r : Int32) (σ2 : Sg) (S2 : MS), P r σ2 → RM m ad S2 σ2 → Fm m ad S S2 → post r S2) : w_X6_commitOf S m a1 post := by
  have hpost := fun r σ2 S2 h1 h2 h3 => hpost r σ2 S2 h1 h2 h3
  have hF := Fm.rf m ad S
  obtain ⟨S0, hS0⟩ : ∃ z : MS, z = S := ⟨_, rfl⟩
  rw [← hS0] at hpost
  have hF : Fm m ad S0 S := by rw [hS0]; exact hF
  have g45 : ∀ (S : MS) (σ : Sg) (l1 : Int32) (s0 : Int32), RM m ad S σ → Fm m ad S0 S → bv_X6_commitOf_45 P σ l1 s0 → b_X6_commitOf_45 post S m l1 s0 := by
    intro  S σ l1 s0 hR hF h
    unfold bv_X6_commitOf_45 at h
    unfold b_X6_commitOf_45
    try simp only [hR.1, hR.2.1, hR.2.2.1]
    exact hpost _ _ _ h hR hF
  unfold v_X6_commitOf at h
  unfold w_X6_commitOf
  try simp only [hR.1, hR.2.1, hR.2.2.1]
  refine ⟨hR.2.2.2.1, ?_⟩
  intro S1 hS1
  obtain ⟨σ1, hσ1⟩ : ∃ z : Sg, z = sF σ 0 0 := ⟨_, rfl⟩
  have h := h σ1 hσ1
  obtain ⟨hR1, hF1⟩ := rm_putF hR hS1 hσ1
  have hF1 := Fm.tr hF hF1
  try simp only [hR1.1, hR1.2.1, hR1.2.2.1]
  refine vr_X6_isTransaction hR1 h (fun r2 σ2 S2 h hR2 hF2 => ?_)
  have hF2 := Fm.tr hF1 hF2
  try simp only [hR2.1, hR2.2.1, hR2.2.2.1]
  refine ⟨fun hc8 => ?_, fun hc8 => ?_⟩
  · have h := h.1 hc8
    refine ⟨hR2.2.2.2.1, ?_⟩
    refine ⟨rm_kT hR2 (by decide) rfl, ?_⟩
    obtain ⟨hi3, h⟩ := h
    refine ⟨(rm_kL hR2 (k := 2) rfl (by decide)) ▸ hi3, ?_⟩
    refine ⟨fun hc6 => ?_, fun hc6 => ?_⟩
    · have h := h.1 hc6
      refine ⟨rm_kT hR2 (by decide) rfl, ?_⟩
      obtain ⟨hi4, h⟩ := h
      refine ⟨(rm_kL hR2 (k := 5) rfl (by decide)) ▸ hi4, ?_⟩
      exact g45 _ _ _ _ hR2 hF2 h
    · have h := h.2 hc6
      refine vr_X6_fail hR2 h (fun r5 σ5 S5 h hR5 hF5 => ?_)
      have hF5 := Fm.tr hF2 hF5
      try simp only [hR5.1, hR5.2.1, hR5.2.2.1]
      exact g45 _ _ _ _ hR5 hF5 h
  · have h := h.2 hc8
    refine ⟨hR2.2.2.2.1, ?_⟩
    refine vr_X6_fail hR2 h (fun r7 σ7 S7 h hR7 hF7 => ?_)
    have hF7 := Fm.tr hF2 hF7
    try simp only [hR7.1, hR7.2.1, hR7.2.2.1]
    exact g45 _ _ _ _ hR7 hF7 h
def bv_X6_operationCount_27 (P : Int32 → Sg → Prop) (σ : Sg) (l1 : Int32) (s0 : Int32) : Prop := P s0 σ
def v_X6_operationCount (σ : Sg) (a1 : Int32) (P : Int32 → Sg → Prop) : Prop := ∀ σ1 : Sg, σ1 = sF σ 0 0 → v_X6_isTransaction σ1 a1 (fun r2 σ2 => ((r2 = 0 → v_X6_fail σ2 1 (fun r3 σ3 => bv_X6_operationCount_27 P σ3 a1 r3)) ∧ (¬ r2 = 0 → vp_in a1 80 ∧ bv_X6_operationCount_27 P σ2 a1 (σ2.2 7 (ix a1)))))
set_option maxHeartbeats 4000000 in
theorem vr_X6_operationCount {m : Nat} {ad : Nat → Nat} {S : MS} {σ : Sg} {a1 : Int32} {P : Int32 → Sg → Prop} {post : Int32 → MS → Prop} (hR : RM m ad S σ) (h : v_X6_operationCount σ a1 P) (hpost : ∀ (r : Int32) (σ2 : Sg) (S2 : MS), P r σ2 → RM m ad S2 σ2 → Fm m ad S S2 → post r S2) : w_X6_operationCount S m a1 post := by
  have hpost := fun r σ2 S2 h1 h2 h3 => hpost r σ2 S2 h1 h2 h3
  have hF := Fm.rf m ad S
  obtain ⟨S0, hS0⟩ : ∃ z : MS, z = S := ⟨_, rfl⟩
  rw [← hS0] at hpost
  have hF : Fm m ad S0 S := by rw [hS0]; exact hF
  have g27 : ∀ (S : MS) (σ : Sg) (l1 : Int32) (s0 : Int32), RM m ad S σ → Fm m ad S0 S → bv_X6_operationCount_27 P σ l1 s0 → b_X6_operationCount_27 post S m l1 s0 := by
    intro  S σ l1 s0 hR hF h
    unfold bv_X6_operationCount_27 at h
    unfold b_X6_operationCount_27
    try simp only [hR.1, hR.2.1, hR.2.2.1]
    exact hpost _ _ _ h hR hF
  unfold v_X6_operationCount at h
  unfold w_X6_operationCount
  try simp only [hR.1, hR.2.1, hR.2.2.1]
  refine ⟨hR.2.2.2.1, ?_⟩
  intro S1 hS1
  obtain ⟨σ1, hσ1⟩ : ∃ z : Sg, z = sF σ 0 0 := ⟨_, rfl⟩
  have h := h σ1 hσ1
  obtain ⟨hR1, hF1⟩ := rm_putF hR hS1 hσ1
  have hF1 := Fm.tr hF hF1
  try simp only [hR1.1, hR1.2.1, hR1.2.2.1]
  refine vr_X6_isTransaction hR1 h (fun r2 σ2 S2 h hR2 hF2 => ?_)
  have hF2 := Fm.tr hF1 hF2
  try simp only [hR2.1, hR2.2.1, hR2.2.2.1]
  refine ⟨fun hc5 => ?_, fun hc5 => ?_⟩
  · have h := h.1 hc5
    refine ⟨hR2.2.2.2.1, ?_⟩
    refine vr_X6_fail hR2 h (fun r3 σ3 S3 h hR3 hF3 => ?_)
    have hF3 := Fm.tr hF2 hF3
    try simp only [hR3.1, hR3.2.1, hR3.2.2.1]
    exact g27 _ _ _ _ hR3 hF3 h
  · have h := h.2 hc5
    refine ⟨hR2.2.2.2.1, ?_⟩
    refine ⟨rm_kT hR2 (by decide) rfl, ?_⟩
    obtain ⟨hi4, h⟩ := h
    refine ⟨(rm_kL hR2 (k := 7) rfl (by decide)) ▸ hi4, ?_⟩
    exact g27 _ _ _ _ hR2 hF2 h
def bv_X6_recordedKeys_52 (KV23 : Sg → Int32 → Int32 → Int32 → Prop) (P : Int32 → Sg → Prop) (σ : Sg) (l1 : Int32) (l2 : Int32) (l3 : Int32) (s0 : Int32) (s1 : Int32) : Prop := ∀ v1 : Int32, v1 = s1 ||| s0 → ∀ v2 : Int32, v2 = l3 + 1 → KV23 σ l1 v1 v2
def bv_X6_recordedKeys_23 (P : Int32 → Sg → Prop) : Nat → Sg → Int32 → Int32 → Int32 → Prop
  | 0 => fun _ _ _ _ => False
  | f + 1 => fun σ l1 l2 l3 => ((32 ≤ l3 → P l2 σ) ∧ (¬ 32 ≤ l3 → vp_in ((32 * l1) + l3) 2560 ∧ ((¬ (σ.2 9 (ix ((32 * l1) + l3))) = ((-1)) → bv_X6_recordedKeys_52 (bv_X6_recordedKeys_23 P f) P σ l1 l2 l3 (1 <<< (l3 &&& 31)) l2) ∧ ((σ.2 9 (ix ((32 * l1) + l3))) = ((-1)) → bv_X6_recordedKeys_52 (bv_X6_recordedKeys_23 P f) P σ l1 l2 l3 0 l2))))
def v_X6_recordedKeys (σ : Sg) (a1 : Int32) (P : Int32 → Sg → Prop) : Prop := ∀ σ1 : Sg, σ1 = sF σ 0 0 → v_X6_isTransaction σ1 a1 (fun r2 σ2 => ((¬ r2 = 0 → ∃ f23, bv_X6_recordedKeys_23 P f23 σ2 a1 0 0) ∧ (r2 = 0 → v_X6_fail σ2 1 (fun r3 σ3 => P r3 σ3))))
set_option maxHeartbeats 4000000 in
theorem vr_X6_recordedKeys {m : Nat} {ad : Nat → Nat} {S : MS} {σ : Sg} {a1 : Int32} {P : Int32 → Sg → Prop} {post : Int32 → MS → Prop} (hR : RM m ad S σ) (h : v_X6_recordedKeys σ a1 P) (hpost : ∀ (r : Int32) (σ2 : Sg) (S2 : MS), P r σ2 → RM m ad S2 σ2 → Fm m ad S S2 → post r S2) : w_X6_recordedKeys S m a1 post := by
  have hpost := fun r σ2 S2 h1 h2 h3 => hpost r σ2 S2 h1 h2 h3
  have hF := Fm.rf m ad S
  obtain ⟨S0, hS0⟩ : ∃ z : MS, z = S := ⟨_, rfl⟩
  rw [← hS0] at hpost
  have hF : Fm m ad S0 S := by rw [hS0]; exact hF
  have g52 : ∀ (KV23 : Sg → Int32 → Int32 → Int32 → Prop) (KH23 : MS → Nat → Int32 → Int32 → Int32 → Prop) (hKV23 : ∀ (S : MS) (σ : Sg) (l1 : Int32) (l2 : Int32) (l3 : Int32), RM m ad S σ → Fm m ad S0 S → KV23 σ l1 l2 l3 → KH23 S m l1 l2 l3 ) (S : MS) (σ : Sg) (l1 : Int32) (l2 : Int32) (l3 : Int32) (s0 : Int32) (s1 : Int32), RM m ad S σ → Fm m ad S0 S → bv_X6_recordedKeys_52 KV23 P σ l1 l2 l3 s0 s1 → b_X6_recordedKeys_52 KH23 post S m l1 l2 l3 s0 s1 := by
    intro KV23 KH23 hKV23 S σ l1 l2 l3 s0 s1 hR hF h
    unfold bv_X6_recordedKeys_52 at h
    unfold b_X6_recordedKeys_52
    try simp only [hR.1, hR.2.1, hR.2.2.1]
    intro v1 hv1
    have h := h v1 hv1
    intro v2 hv2
    have h := h v2 hv2
    exact hKV23 _ _ _ _ _ hR hF h
  have g23 : ∀ (f : Nat) (S : MS) (σ : Sg) (l1 : Int32) (l2 : Int32) (l3 : Int32), RM m ad S σ → Fm m ad S0 S → bv_X6_recordedKeys_23 P f σ l1 l2 l3 → b_X6_recordedKeys_23 post f S m l1 l2 l3  := by
    intro f
    induction f with
    | zero => intro S σ l1 l2 l3 hR hF h; exact h.elim
    | succ f ih =>
      intro S σ l1 l2 l3 hR hF h
      simp only [bv_X6_recordedKeys_23] at h
      simp only [b_X6_recordedKeys_23]
      try simp only [hR.1, hR.2.1, hR.2.2.1]
      refine ⟨fun hc3 => ?_, fun hc3 => ?_⟩
      · have h := h.1 hc3
        exact hpost _ _ _ h hR hF
      · have h := h.2 hc3
        refine ⟨hR.2.2.2.1, ?_⟩
        refine ⟨rm_kT hR (by decide) rfl, ?_⟩
        obtain ⟨hi1, h⟩ := h
        refine ⟨(rm_kL hR (k := 9) rfl (by decide)) ▸ hi1, ?_⟩
        refine ⟨fun hc2 => ?_, fun hc2 => ?_⟩
        · have h := h.1 hc2
          exact g52 _ _ ih _ _ _ _ _ _ _ hR hF h
        · have h := h.2 hc2
          exact g52 _ _ ih _ _ _ _ _ _ _ hR hF h
  unfold v_X6_recordedKeys at h
  unfold w_X6_recordedKeys
  try simp only [hR.1, hR.2.1, hR.2.2.1]
  refine ⟨hR.2.2.2.1, ?_⟩
  intro S1 hS1
  obtain ⟨σ1, hσ1⟩ : ∃ z : Sg, z = sF σ 0 0 := ⟨_, rfl⟩
  have h := h σ1 hσ1
  obtain ⟨hR1, hF1⟩ := rm_putF hR hS1 hσ1
  have hF1 := Fm.tr hF hF1
  try simp only [hR1.1, hR1.2.1, hR1.2.2.1]
  refine vr_X6_isTransaction hR1 h (fun r2 σ2 S2 h hR2 hF2 => ?_)
  have hF2 := Fm.tr hF1 hF2
  try simp only [hR2.1, hR2.2.1, hR2.2.2.1]
  refine ⟨fun hc4 => ?_, fun hc4 => ?_⟩
  · have h := h.1 hc4
    obtain ⟨f23, h⟩ := h
    exact ⟨f23, g23 f23 _ _ _ _ _ hR2 hF2 h⟩
  · have h := h.2 hc4
    refine ⟨hR2.2.2.2.1, ?_⟩
    refine vr_X6_fail hR2 h (fun r3 σ3 S3 h hR3 hF3 => ?_)
    have hF3 := Fm.tr hF2 hF3
    try simp only [hR3.1, hR3.2.1, hR3.2.2.1]
    exact hpost _ _ _ h hR3 hF3
def bv_X6_predicateCount_27 (P : Int32 → Sg → Prop) (σ : Sg) (l1 : Int32) (s0 : Int32) : Prop := P s0 σ
def v_X6_predicateCount (σ : Sg) (a1 : Int32) (P : Int32 → Sg → Prop) : Prop := ∀ σ1 : Sg, σ1 = sF σ 0 0 → v_X6_isTransaction σ1 a1 (fun r2 σ2 => ((r2 = 0 → v_X6_fail σ2 1 (fun r3 σ3 => bv_X6_predicateCount_27 P σ3 a1 r3)) ∧ (¬ r2 = 0 → vp_in a1 80 ∧ bv_X6_predicateCount_27 P σ2 a1 (σ2.2 12 (ix a1)))))
set_option maxHeartbeats 4000000 in
theorem vr_X6_predicateCount {m : Nat} {ad : Nat → Nat} {S : MS} {σ : Sg} {a1 : Int32} {P : Int32 → Sg → Prop} {post : Int32 → MS → Prop} (hR : RM m ad S σ) (h : v_X6_predicateCount σ a1 P) (hpost : ∀ (r : Int32) (σ2 : Sg) (S2 : MS), P r σ2 → RM m ad S2 σ2 → Fm m ad S S2 → post r S2) : w_X6_predicateCount S m a1 post := by
  have hpost := fun r σ2 S2 h1 h2 h3 => hpost r σ2 S2 h1 h2 h3
  have hF := Fm.rf m ad S
  obtain ⟨S0, hS0⟩ : ∃ z : MS, z = S := ⟨_, rfl⟩
  rw [← hS0] at hpost
  have hF : Fm m ad S0 S := by rw [hS0]; exact hF
  have g27 : ∀ (S : MS) (σ : Sg) (l1 : Int32) (s0 : Int32), RM m ad S σ → Fm m ad S0 S → bv_X6_predicateCount_27 P σ l1 s0 → b_X6_predicateCount_27 post S m l1 s0 := by
    intro  S σ l1 s0 hR hF h
    unfold bv_X6_predicateCount_27 at h
    unfold b_X6_predicateCount_27
    try simp only [hR.1, hR.2.1, hR.2.2.1]
    exact hpost _ _ _ h hR hF
  unfold v_X6_predicateCount at h
  unfold w_X6_predicateCount
  try simp only [hR.1, hR.2.1, hR.2.2.1]
  refine ⟨hR.2.2.2.1, ?_⟩
  intro S1 hS1
  obtain ⟨σ1, hσ1⟩ : ∃ z : Sg, z = sF σ 0 0 := ⟨_, rfl⟩
  have h := h σ1 hσ1
  obtain ⟨hR1, hF1⟩ := rm_putF hR hS1 hσ1
  have hF1 := Fm.tr hF hF1
  try simp only [hR1.1, hR1.2.1, hR1.2.2.1]
  refine vr_X6_isTransaction hR1 h (fun r2 σ2 S2 h hR2 hF2 => ?_)
  have hF2 := Fm.tr hF1 hF2
  try simp only [hR2.1, hR2.2.1, hR2.2.2.1]
  refine ⟨fun hc5 => ?_, fun hc5 => ?_⟩
  · have h := h.1 hc5
    refine ⟨hR2.2.2.2.1, ?_⟩
    refine vr_X6_fail hR2 h (fun r3 σ3 S3 h hR3 hF3 => ?_)
    have hF3 := Fm.tr hF2 hF3
    try simp only [hR3.1, hR3.2.1, hR3.2.2.1]
    exact g27 _ _ _ _ hR3 hF3 h
  · have h := h.2 hc5
    refine ⟨hR2.2.2.2.1, ?_⟩
    refine ⟨rm_kT hR2 (by decide) rfl, ?_⟩
    obtain ⟨hi4, h⟩ := h
    refine ⟨(rm_kL hR2 (k := 12) rfl (by decide)) ▸ hi4, ?_⟩
    exact g27 _ _ _ _ hR2 hF2 h
def bv_X6_writtenKeys_54 (KV23 : Sg → Int32 → Int32 → Int32 → Prop) (P : Int32 → Sg → Prop) (σ : Sg) (l1 : Int32) (l2 : Int32) (l3 : Int32) (s0 : Int32) (s1 : Int32) : Prop := ∀ v1 : Int32, v1 = s1 ||| s0 → ∀ v2 : Int32, v2 = l3 + 1 → KV23 σ l1 v1 v2
def bv_X6_writtenKeys_23 (P : Int32 → Sg → Prop) : Nat → Sg → Int32 → Int32 → Int32 → Prop
  | 0 => fun _ _ _ _ => False
  | f + 1 => fun σ l1 l2 l3 => ((32 ≤ l3 → P l2 σ) ∧ (¬ 32 ≤ l3 → vp_in ((32 * l1) + l3) 2560 ∧ ((¬ (σ.2 10 (ix ((32 * l1) + l3))) = ((-5000)) → bv_X6_writtenKeys_54 (bv_X6_writtenKeys_23 P f) P σ l1 l2 l3 (1 <<< (l3 &&& 31)) l2) ∧ ((σ.2 10 (ix ((32 * l1) + l3))) = ((-5000)) → bv_X6_writtenKeys_54 (bv_X6_writtenKeys_23 P f) P σ l1 l2 l3 0 l2))))
def v_X6_writtenKeys (σ : Sg) (a1 : Int32) (P : Int32 → Sg → Prop) : Prop := ∀ σ1 : Sg, σ1 = sF σ 0 0 → v_X6_isTransaction σ1 a1 (fun r2 σ2 => ((¬ r2 = 0 → ∃ f23, bv_X6_writtenKeys_23 P f23 σ2 a1 0 0) ∧ (r2 = 0 → v_X6_fail σ2 1 (fun r3 σ3 => P r3 σ3))))
set_option maxHeartbeats 4000000 in
theorem vr_X6_writtenKeys {m : Nat} {ad : Nat → Nat} {S : MS} {σ : Sg} {a1 : Int32} {P : Int32 → Sg → Prop} {post : Int32 → MS → Prop} (hR : RM m ad S σ) (h : v_X6_writtenKeys σ a1 P) (hpost : ∀ (r : Int32) (σ2 : Sg) (S2 : MS), P r σ2 → RM m ad S2 σ2 → Fm m ad S S2 → post r S2) : w_X6_writtenKeys S m a1 post := by
  have hpost := fun r σ2 S2 h1 h2 h3 => hpost r σ2 S2 h1 h2 h3
  have hF := Fm.rf m ad S
  obtain ⟨S0, hS0⟩ : ∃ z : MS, z = S := ⟨_, rfl⟩
  rw [← hS0] at hpost
  have hF : Fm m ad S0 S := by rw [hS0]; exact hF
  have g54 : ∀ (KV23 : Sg → Int32 → Int32 → Int32 → Prop) (KH23 : MS → Nat → Int32 → Int32 → Int32 → Prop) (hKV23 : ∀ (S : MS) (σ : Sg) (l1 : Int32) (l2 : Int32) (l3 : Int32), RM m ad S σ → Fm m ad S0 S → KV23 σ l1 l2 l3 → KH23 S m l1 l2 l3 ) (S : MS) (σ : Sg) (l1 : Int32) (l2 : Int32) (l3 : Int32) (s0 : Int32) (s1 : Int32), RM m ad S σ → Fm m ad S0 S → bv_X6_writtenKeys_54 KV23 P σ l1 l2 l3 s0 s1 → b_X6_writtenKeys_54 KH23 post S m l1 l2 l3 s0 s1 := by
    intro KV23 KH23 hKV23 S σ l1 l2 l3 s0 s1 hR hF h
    unfold bv_X6_writtenKeys_54 at h
    unfold b_X6_writtenKeys_54
    try simp only [hR.1, hR.2.1, hR.2.2.1]
    intro v1 hv1
    have h := h v1 hv1
    intro v2 hv2
    have h := h v2 hv2
    exact hKV23 _ _ _ _ _ hR hF h
  have g23 : ∀ (f : Nat) (S : MS) (σ : Sg) (l1 : Int32) (l2 : Int32) (l3 : Int32), RM m ad S σ → Fm m ad S0 S → bv_X6_writtenKeys_23 P f σ l1 l2 l3 → b_X6_writtenKeys_23 post f S m l1 l2 l3  := by
    intro f
    induction f with
    | zero => intro S σ l1 l2 l3 hR hF h; exact h.elim
    | succ f ih =>
      intro S σ l1 l2 l3 hR hF h
      simp only [bv_X6_writtenKeys_23] at h
      simp only [b_X6_writtenKeys_23]
      try simp only [hR.1, hR.2.1, hR.2.2.1]
      refine ⟨fun hc3 => ?_, fun hc3 => ?_⟩
      · have h := h.1 hc3
        exact hpost _ _ _ h hR hF
      · have h := h.2 hc3
        refine ⟨hR.2.2.2.1, ?_⟩
        refine ⟨rm_kT hR (by decide) rfl, ?_⟩
        obtain ⟨hi1, h⟩ := h
        refine ⟨(rm_kL hR (k := 10) rfl (by decide)) ▸ hi1, ?_⟩
        refine ⟨fun hc2 => ?_, fun hc2 => ?_⟩
        · have h := h.1 hc2
          exact g54 _ _ ih _ _ _ _ _ _ _ hR hF h
        · have h := h.2 hc2
          exact g54 _ _ ih _ _ _ _ _ _ _ hR hF h
  unfold v_X6_writtenKeys at h
  unfold w_X6_writtenKeys
  try simp only [hR.1, hR.2.1, hR.2.2.1]
  refine ⟨hR.2.2.2.1, ?_⟩
  intro S1 hS1
  obtain ⟨σ1, hσ1⟩ : ∃ z : Sg, z = sF σ 0 0 := ⟨_, rfl⟩
  have h := h σ1 hσ1
  obtain ⟨hR1, hF1⟩ := rm_putF hR hS1 hσ1
  have hF1 := Fm.tr hF hF1
  try simp only [hR1.1, hR1.2.1, hR1.2.2.1]
  refine vr_X6_isTransaction hR1 h (fun r2 σ2 S2 h hR2 hF2 => ?_)
  have hF2 := Fm.tr hF1 hF2
  try simp only [hR2.1, hR2.2.1, hR2.2.2.1]
  refine ⟨fun hc4 => ?_, fun hc4 => ?_⟩
  · have h := h.1 hc4
    obtain ⟨f23, h⟩ := h
    exact ⟨f23, g23 f23 _ _ _ _ _ hR2 hF2 h⟩
  · have h := h.2 hc4
    refine ⟨hR2.2.2.2.1, ?_⟩
    refine vr_X6_fail hR2 h (fun r3 σ3 S3 h hR3 hF3 => ?_)
    have hF3 := Fm.tr hF2 hF3
    try simp only [hR3.1, hR3.2.1, hR3.2.2.1]
    exact hpost _ _ _ h hR3 hF3
def bv_X6_value_29 (P : Int32 → Sg → Prop) (σ : Sg) (l1 : Int32) (s0 : Int32) : Prop := P s0 σ
def v_X6_value (σ : Sg) (a1 : Int32) (P : Int32 → Sg → Prop) : Prop := ∀ σ1 : Sg, σ1 = sF σ 0 0 → v_X6_isKey σ1 a1 (fun r2 σ2 => ((r2 = 0 → v_X6_fail σ2 1 (fun r3 σ3 => bv_X6_value_29 P σ3 a1 r3)) ∧ (¬ r2 = 0 → v_X6_stored σ2 (σ2.1 14) a1 (fun r4 σ4 => bv_X6_value_29 P σ4 a1 r4))))
set_option maxHeartbeats 4000000 in
theorem vr_X6_value {m : Nat} {ad : Nat → Nat} {S : MS} {σ : Sg} {a1 : Int32} {P : Int32 → Sg → Prop} {post : Int32 → MS → Prop} (hR : RM m ad S σ) (h : v_X6_value σ a1 P) (hpost : ∀ (r : Int32) (σ2 : Sg) (S2 : MS), P r σ2 → RM m ad S2 σ2 → Fm m ad S S2 → post r S2) : w_X6_value S m a1 post := by
  have hpost := fun r σ2 S2 h1 h2 h3 => hpost r σ2 S2 h1 h2 h3
  have hF := Fm.rf m ad S
  obtain ⟨S0, hS0⟩ : ∃ z : MS, z = S := ⟨_, rfl⟩
  rw [← hS0] at hpost
  have hF : Fm m ad S0 S := by rw [hS0]; exact hF
  have g29 : ∀ (S : MS) (σ : Sg) (l1 : Int32) (s0 : Int32), RM m ad S σ → Fm m ad S0 S → bv_X6_value_29 P σ l1 s0 → b_X6_value_29 post S m l1 s0 := by
    intro  S σ l1 s0 hR hF h
    unfold bv_X6_value_29 at h
    unfold b_X6_value_29
    try simp only [hR.1, hR.2.1, hR.2.2.1]
    exact hpost _ _ _ h hR hF
  unfold v_X6_value at h
  unfold w_X6_value
  try simp only [hR.1, hR.2.1, hR.2.2.1]
  refine ⟨hR.2.2.2.1, ?_⟩
  intro S1 hS1
  obtain ⟨σ1, hσ1⟩ : ∃ z : Sg, z = sF σ 0 0 := ⟨_, rfl⟩
  have h := h σ1 hσ1
  obtain ⟨hR1, hF1⟩ := rm_putF hR hS1 hσ1
  have hF1 := Fm.tr hF hF1
  try simp only [hR1.1, hR1.2.1, hR1.2.2.1]
  refine vr_X6_isKey hR1 h (fun r2 σ2 S2 h hR2 hF2 => ?_)
  have hF2 := Fm.tr hF1 hF2
  try simp only [hR2.1, hR2.2.1, hR2.2.2.1]
  refine ⟨fun hc5 => ?_, fun hc5 => ?_⟩
  · have h := h.1 hc5
    refine ⟨hR2.2.2.2.1, ?_⟩
    refine vr_X6_fail hR2 h (fun r3 σ3 S3 h hR3 hF3 => ?_)
    have hF3 := Fm.tr hF2 hF3
    try simp only [hR3.1, hR3.2.1, hR3.2.2.1]
    exact g29 _ _ _ _ hR3 hF3 h
  · have h := h.2 hc5
    refine ⟨hR2.2.2.2.1, ?_⟩
    refine vr_X6_stored hR2 h (fun r4 σ4 S4 h hR4 hF4 => ?_)
    have hF4 := Fm.tr hF2 hF4
    try simp only [hR4.1, hR4.2.1, hR4.2.2.1]
    exact g29 _ _ _ _ hR4 hF4 h
def bv_X6_valueAt_46 (P : Int32 → Sg → Prop) (σ : Sg) (l1 : Int32) (l2 : Int32) (s0 : Int32) : Prop := P s0 σ
def v_X6_valueAt (σ : Sg) (a1 : Int32) (a2 : Int32) (P : Int32 → Sg → Prop) : Prop := ∀ σ1 : Sg, σ1 = sF σ 0 0 → v_X6_isKey σ1 a1 (fun r2 σ2 => ((¬ r2 = 0 → v_X6_isIn σ2 a2 0 (σ2.1 14) (fun r3 σ3 => ((¬ r3 = 0 → v_X6_stored σ3 a2 a1 (fun r4 σ4 => bv_X6_valueAt_46 P σ4 a1 a2 r4)) ∧ (r3 = 0 → v_X6_fail σ3 2 (fun r5 σ5 => bv_X6_valueAt_46 P σ5 a1 a2 r5))))) ∧ (r2 = 0 → v_X6_fail σ2 1 (fun r7 σ7 => bv_X6_valueAt_46 P σ7 a1 a2 r7))))
set_option maxHeartbeats 4000000 in
theorem vr_X6_valueAt {m : Nat} {ad : Nat → Nat} {S : MS} {σ : Sg} {a1 : Int32} {a2 : Int32} {P : Int32 → Sg → Prop} {post : Int32 → MS → Prop} (hR : RM m ad S σ) (h : v_X6_valueAt σ a1 a2 P) (hpost : ∀ (r : Int32) (σ2 : Sg) (S2 : MS), P r σ2 → RM m ad S2 σ2 → Fm m ad S S2 → post r S2) : w_X6_valueAt S m a1 a2 post := by
  have hpost := fun r σ2 S2 h1 h2 h3 => hpost r σ2 S2 h1 h2 h3
  have hF := Fm.rf m ad S
  obtain ⟨S0, hS0⟩ : ∃ z : MS, z = S := ⟨_, rfl⟩
  rw [← hS0] at hpost
  have hF : Fm m ad S0 S := by rw [hS0]; exact hF
  have g46 : ∀ (S : MS) (σ : Sg) (l1 : Int32) (l2 : Int32) (s0 : Int32), RM m ad S σ → Fm m ad S0 S → bv_X6_valueAt_46 P σ l1 l2 s0 → b_X6_valueAt_46 post S m l1 l2 s0 := by
    intro  S σ l1 l2 s0 hR hF h
    unfold bv_X6_valueAt_46 at h
    unfold b_X6_valueAt_46
    try simp only [hR.1, hR.2.1, hR.2.2.1]
    exact hpost _ _ _ h hR hF
  unfold v_X6_valueAt at h
  unfold w_X6_valueAt
  try simp only [hR.1, hR.2.1, hR.2.2.1]
  refine ⟨hR.2.2.2.1, ?_⟩
  intro S1 hS1
  obtain ⟨σ1, hσ1⟩ : ∃ z : Sg, z = sF σ 0 0 := ⟨_, rfl⟩
  have h := h σ1 hσ1
  obtain ⟨hR1, hF1⟩ := rm_putF hR hS1 hσ1
  have hF1 := Fm.tr hF hF1
  try simp only [hR1.1, hR1.2.1, hR1.2.2.1]
  refine vr_X6_isKey hR1 h (fun r2 σ2 S2 h hR2 hF2 => ?_)
  have hF2 := Fm.tr hF1 hF2
  try simp only [hR2.1, hR2.2.1, hR2.2.2.1]
  refine ⟨fun hc8 => ?_, fun hc8 => ?_⟩
  · have h := h.1 hc8
    refine ⟨hR2.2.2.2.1, ?_⟩
    refine vr_X6_isIn hR2 h (fun r3 σ3 S3 h hR3 hF3 => ?_)
    have hF3 := Fm.tr hF2 hF3
    try simp only [hR3.1, hR3.2.1, hR3.2.2.1]
    refine ⟨fun hc6 => ?_, fun hc6 => ?_⟩
    · have h := h.1 hc6
      refine ⟨hR3.2.2.2.1, ?_⟩
      refine vr_X6_stored hR3 h (fun r4 σ4 S4 h hR4 hF4 => ?_)
      have hF4 := Fm.tr hF3 hF4
      try simp only [hR4.1, hR4.2.1, hR4.2.2.1]
      exact g46 _ _ _ _ _ hR4 hF4 h
    · have h := h.2 hc6
      refine ⟨hR3.2.2.2.1, ?_⟩
      refine vr_X6_fail hR3 h (fun r5 σ5 S5 h hR5 hF5 => ?_)
      have hF5 := Fm.tr hF3 hF5
      try simp only [hR5.1, hR5.2.1, hR5.2.2.1]
      exact g46 _ _ _ _ _ hR5 hF5 h
  · have h := h.2 hc8
    refine ⟨hR2.2.2.2.1, ?_⟩
    refine vr_X6_fail hR2 h (fun r7 σ7 S7 h hR7 hF7 => ?_)
    have hF7 := Fm.tr hF2 hF7
    try simp only [hR7.1, hR7.2.1, hR7.2.2.1]
    exact g46 _ _ _ _ _ hR7 hF7 h
def bv_X6_lastWriter_27 (KV5 : Sg → Int32 → Int32 → Int32 → Int32 → Prop) (P : Int32 → Sg → Prop) (σ : Sg) (l1 : Int32) (l2 : Int32) (l3 : Int32) (l4 : Int32) (s0 : Int32) : Prop := ∀ v1 : Int32, v1 = l4 + 1 → KV5 σ l1 l2 s0 v1
def bv_X6_lastWriter_5 (P : Int32 → Sg → Prop) : Nat → Sg → Int32 → Int32 → Int32 → Int32 → Prop
  | 0 => fun _ _ _ _ _ => False
  | f + 1 => fun σ l1 l2 l3 l4 => ((l2 ≤ l4 → P l3 σ) ∧ (¬ l2 ≤ l4 → v_X6_hasWritten σ l4 l1 (fun r1 σ1 => ((r1 = 0 → bv_X6_lastWriter_27 (bv_X6_lastWriter_5 P f) P σ1 l1 l2 l3 l4 l3) ∧ (¬ r1 = 0 → bv_X6_lastWriter_27 (bv_X6_lastWriter_5 P f) P σ1 l1 l2 l3 l4 l4)))))
def v_X6_lastWriter (σ : Sg) (a1 : Int32) (a2 : Int32) (P : Int32 → Sg → Prop) : Prop := ∃ f5, bv_X6_lastWriter_5 P f5 σ a1 a2 0 1
set_option maxHeartbeats 4000000 in
theorem vr_X6_lastWriter {m : Nat} {ad : Nat → Nat} {S : MS} {σ : Sg} {a1 : Int32} {a2 : Int32} {P : Int32 → Sg → Prop} {post : Int32 → MS → Prop} (hR : RM m ad S σ) (h : v_X6_lastWriter σ a1 a2 P) (hpost : ∀ (r : Int32) (σ2 : Sg) (S2 : MS), P r σ2 → RM m ad S2 σ2 → Fm m ad S S2 → post r S2) : w_X6_lastWriter S m a1 a2 post := by
  have hpost := fun r σ2 S2 h1 h2 h3 => hpost r σ2 S2 h1 h2 h3
  have hF := Fm.rf m ad S
  obtain ⟨S0, hS0⟩ : ∃ z : MS, z = S := ⟨_, rfl⟩
  rw [← hS0] at hpost
  have hF : Fm m ad S0 S := by rw [hS0]; exact hF
  have g27 : ∀ (KV5 : Sg → Int32 → Int32 → Int32 → Int32 → Prop) (KH5 : MS → Nat → Int32 → Int32 → Int32 → Int32 → Prop) (hKV5 : ∀ (S : MS) (σ : Sg) (l1 : Int32) (l2 : Int32) (l3 : Int32) (l4 : Int32), RM m ad S σ → Fm m ad S0 S → KV5 σ l1 l2 l3 l4 → KH5 S m l1 l2 l3 l4 ) (S : MS) (σ : Sg) (l1 : Int32) (l2 : Int32) (l3 : Int32) (l4 : Int32) (s0 : Int32), RM m ad S σ → Fm m ad S0 S → bv_X6_lastWriter_27 KV5 P σ l1 l2 l3 l4 s0 → b_X6_lastWriter_27 KH5 post S m l1 l2 l3 l4 s0 := by
    intro KV5 KH5 hKV5 S σ l1 l2 l3 l4 s0 hR hF h
    unfold bv_X6_lastWriter_27 at h
    unfold b_X6_lastWriter_27
    try simp only [hR.1, hR.2.1, hR.2.2.1]
    intro v1 hv1
    have h := h v1 hv1
    exact hKV5 _ _ _ _ _ _ hR hF h
  have g5 : ∀ (f : Nat) (S : MS) (σ : Sg) (l1 : Int32) (l2 : Int32) (l3 : Int32) (l4 : Int32), RM m ad S σ → Fm m ad S0 S → bv_X6_lastWriter_5 P f σ l1 l2 l3 l4 → b_X6_lastWriter_5 post f S m l1 l2 l3 l4  := by
    intro f
    induction f with
    | zero => intro S σ l1 l2 l3 l4 hR hF h; exact h.elim
    | succ f ih =>
      intro S σ l1 l2 l3 l4 hR hF h
      simp only [bv_X6_lastWriter_5] at h
      simp only [b_X6_lastWriter_5]
      try simp only [hR.1, hR.2.1, hR.2.2.1]
      refine ⟨fun hc3 => ?_, fun hc3 => ?_⟩
      · have h := h.1 hc3
        exact hpost _ _ _ h hR hF
      · have h := h.2 hc3
        refine ⟨hR.2.2.2.1, ?_⟩
        refine vr_X6_hasWritten hR h (fun r1 σ1 S1 h hR1 hF1 => ?_)
        have hF1 := Fm.tr hF hF1
        try simp only [hR1.1, hR1.2.1, hR1.2.2.1]
        refine ⟨fun hc2 => ?_, fun hc2 => ?_⟩
        · have h := h.1 hc2
          exact g27 _ _ ih _ _ _ _ _ _ _ hR1 hF1 h
        · have h := h.2 hc2
          exact g27 _ _ ih _ _ _ _ _ _ _ hR1 hF1 h
  unfold v_X6_lastWriter at h
  unfold w_X6_lastWriter
  try simp only [hR.1, hR.2.1, hR.2.2.1]
  obtain ⟨f5, h⟩ := h
  exact ⟨f5, g5 f5 _ _ _ _ _ _ hR hF h⟩
def bv_X6_writerOf_31 (P : Int32 → Sg → Prop) (σ : Sg) (l1 : Int32) (s0 : Int32) : Prop := P s0 σ
def v_X6_writerOf (σ : Sg) (a1 : Int32) (P : Int32 → Sg → Prop) : Prop := ∀ σ1 : Sg, σ1 = sF σ 0 0 → v_X6_isKey σ1 a1 (fun r2 σ2 => ((r2 = 0 → v_X6_fail σ2 1 (fun r3 σ3 => bv_X6_writerOf_31 P σ3 a1 r3)) ∧ (¬ r2 = 0 → v_X6_lastWriter σ2 a1 ((σ2.1 14) + 1) (fun r4 σ4 => bv_X6_writerOf_31 P σ4 a1 r4))))
set_option maxHeartbeats 4000000 in
theorem vr_X6_writerOf {m : Nat} {ad : Nat → Nat} {S : MS} {σ : Sg} {a1 : Int32} {P : Int32 → Sg → Prop} {post : Int32 → MS → Prop} (hR : RM m ad S σ) (h : v_X6_writerOf σ a1 P) (hpost : ∀ (r : Int32) (σ2 : Sg) (S2 : MS), P r σ2 → RM m ad S2 σ2 → Fm m ad S S2 → post r S2) : w_X6_writerOf S m a1 post := by
  have hpost := fun r σ2 S2 h1 h2 h3 => hpost r σ2 S2 h1 h2 h3
  have hF := Fm.rf m ad S
  obtain ⟨S0, hS0⟩ : ∃ z : MS, z = S := ⟨_, rfl⟩
  rw [← hS0] at hpost
  have hF : Fm m ad S0 S := by rw [hS0]; exact hF
  have g31 : ∀ (S : MS) (σ : Sg) (l1 : Int32) (s0 : Int32), RM m ad S σ → Fm m ad S0 S → bv_X6_writerOf_31 P σ l1 s0 → b_X6_writerOf_31 post S m l1 s0 := by
    intro  S σ l1 s0 hR hF h
    unfold bv_X6_writerOf_31 at h
    unfold b_X6_writerOf_31
    try simp only [hR.1, hR.2.1, hR.2.2.1]
    exact hpost _ _ _ h hR hF
  unfold v_X6_writerOf at h
  unfold w_X6_writerOf
  try simp only [hR.1, hR.2.1, hR.2.2.1]
  refine ⟨hR.2.2.2.1, ?_⟩
  intro S1 hS1
  obtain ⟨σ1, hσ1⟩ : ∃ z : Sg, z = sF σ 0 0 := ⟨_, rfl⟩
  have h := h σ1 hσ1
  obtain ⟨hR1, hF1⟩ := rm_putF hR hS1 hσ1
  have hF1 := Fm.tr hF hF1
  try simp only [hR1.1, hR1.2.1, hR1.2.2.1]
  refine vr_X6_isKey hR1 h (fun r2 σ2 S2 h hR2 hF2 => ?_)
  have hF2 := Fm.tr hF1 hF2
  try simp only [hR2.1, hR2.2.1, hR2.2.2.1]
  refine ⟨fun hc5 => ?_, fun hc5 => ?_⟩
  · have h := h.1 hc5
    refine ⟨hR2.2.2.2.1, ?_⟩
    refine vr_X6_fail hR2 h (fun r3 σ3 S3 h hR3 hF3 => ?_)
    have hF3 := Fm.tr hF2 hF3
    try simp only [hR3.1, hR3.2.1, hR3.2.2.1]
    exact g31 _ _ _ _ hR3 hF3 h
  · have h := h.2 hc5
    refine ⟨hR2.2.2.2.1, ?_⟩
    refine vr_X6_lastWriter hR2 h (fun r4 σ4 S4 h hR4 hF4 => ?_)
    have hF4 := Fm.tr hF2 hF4
    try simp only [hR4.1, hR4.2.1, hR4.2.2.1]
    exact g31 _ _ _ _ hR4 hF4 h
def v_X6_isCommit (σ : Sg) (a1 : Int32) (P : Int32 → Sg → Prop) : Prop := v_X6_isIn σ a1 1 (σ.1 14) (fun r1 σ1 => narrow .boolean (.int r1) = .int r1 ∧ P r1 σ1)
set_option maxHeartbeats 4000000 in
theorem vr_X6_isCommit {m : Nat} {ad : Nat → Nat} {S : MS} {σ : Sg} {a1 : Int32} {P : Int32 → Sg → Prop} {post : Int32 → MS → Prop} (hR : RM m ad S σ) (h : v_X6_isCommit σ a1 P) (hpost : ∀ (r : Int32) (σ2 : Sg) (S2 : MS), P r σ2 → RM m ad S2 σ2 → Fm m ad S S2 → post r S2) : w_X6_isCommit S m a1 post := by
  have hpost := fun r σ2 S2 h1 h2 h3 => hpost r σ2 S2 h1 h2 h3
  have hF := Fm.rf m ad S
  obtain ⟨S0, hS0⟩ : ∃ z : MS, z = S := ⟨_, rfl⟩
  rw [← hS0] at hpost
  have hF : Fm m ad S0 S := by rw [hS0]; exact hF
  unfold v_X6_isCommit at h
  unfold w_X6_isCommit
  try simp only [hR.1, hR.2.1, hR.2.2.1]
  refine ⟨hR.2.2.2.1, ?_⟩
  refine vr_X6_isIn hR h (fun r1 σ1 S1 h hR1 hF1 => ?_)
  have hF1 := Fm.tr hF hF1
  try simp only [hR1.1, hR1.2.1, hR1.2.2.1]
  obtain ⟨hz, h⟩ := h
  exact ⟨hz, hpost _ _ _ h hR1 hF1⟩
def bv_X6_transactionOf_27 (P : Int32 → Sg → Prop) (σ : Sg) (l1 : Int32) (s0 : Int32) : Prop := P s0 σ
def v_X6_transactionOf (σ : Sg) (a1 : Int32) (P : Int32 → Sg → Prop) : Prop := ∀ σ1 : Sg, σ1 = sF σ 0 0 → v_X6_isCommit σ1 a1 (fun r2 σ2 => ((r2 = 0 → v_X6_fail σ2 1 (fun r3 σ3 => bv_X6_transactionOf_27 P σ3 a1 r3)) ∧ (¬ r2 = 0 → vp_in a1 61 ∧ bv_X6_transactionOf_27 P σ2 a1 (σ2.2 16 (ix a1)))))
set_option maxHeartbeats 4000000 in
theorem vr_X6_transactionOf {m : Nat} {ad : Nat → Nat} {S : MS} {σ : Sg} {a1 : Int32} {P : Int32 → Sg → Prop} {post : Int32 → MS → Prop} (hR : RM m ad S σ) (h : v_X6_transactionOf σ a1 P) (hpost : ∀ (r : Int32) (σ2 : Sg) (S2 : MS), P r σ2 → RM m ad S2 σ2 → Fm m ad S S2 → post r S2) : w_X6_transactionOf S m a1 post := by
  have hpost := fun r σ2 S2 h1 h2 h3 => hpost r σ2 S2 h1 h2 h3
  have hF := Fm.rf m ad S
  obtain ⟨S0, hS0⟩ : ∃ z : MS, z = S := ⟨_, rfl⟩
  rw [← hS0] at hpost
  have hF : Fm m ad S0 S := by rw [hS0]; exact hF
  have g27 : ∀ (S : MS) (σ : Sg) (l1 : Int32) (s0 : Int32), RM m ad S σ → Fm m ad S0 S → bv_X6_transactionOf_27 P σ l1 s0 → b_X6_transactionOf_27 post S m l1 s0 := by
    intro  S σ l1 s0 hR hF h
    unfold bv_X6_transactionOf_27 at h
    unfold b_X6_transactionOf_27
    try simp only [hR.1, hR.2.1, hR.2.2.1]
    exact hpost _ _ _ h hR hF
  unfold v_X6_transactionOf at h
  unfold w_X6_transactionOf
  try simp only [hR.1, hR.2.1, hR.2.2.1]
  refine ⟨hR.2.2.2.1, ?_⟩
  intro S1 hS1
  obtain ⟨σ1, hσ1⟩ : ∃ z : Sg, z = sF σ 0 0 := ⟨_, rfl⟩
  have h := h σ1 hσ1
  obtain ⟨hR1, hF1⟩ := rm_putF hR hS1 hσ1
  have hF1 := Fm.tr hF hF1
  try simp only [hR1.1, hR1.2.1, hR1.2.2.1]
  refine vr_X6_isCommit hR1 h (fun r2 σ2 S2 h hR2 hF2 => ?_)
  have hF2 := Fm.tr hF1 hF2
  try simp only [hR2.1, hR2.2.1, hR2.2.2.1]
  refine ⟨fun hc5 => ?_, fun hc5 => ?_⟩
  · have h := h.1 hc5
    refine ⟨hR2.2.2.2.1, ?_⟩
    refine vr_X6_fail hR2 h (fun r3 σ3 S3 h hR3 hF3 => ?_)
    have hF3 := Fm.tr hF2 hF3
    try simp only [hR3.1, hR3.2.1, hR3.2.2.1]
    exact g27 _ _ _ _ hR3 hF3 h
  · have h := h.2 hc5
    refine ⟨hR2.2.2.2.1, ?_⟩
    refine ⟨rm_kT hR2 (by decide) rfl, ?_⟩
    obtain ⟨hi4, h⟩ := h
    refine ⟨(rm_kL hR2 (k := 16) rfl (by decide)) ▸ hi4, ?_⟩
    exact g27 _ _ _ _ hR2 hF2 h
