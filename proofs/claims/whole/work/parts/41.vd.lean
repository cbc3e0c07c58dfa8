def bv_X6_readStep_233 (P : Sg → Prop) (σ : Sg) (l1 : Int32) (l2 : Int32) : Prop := ∀ σ1 : Sg, σ1 = sF σ 30 ((σ.1 30) + 1) → P σ1
def bv_X6_readStep_189 (P : Sg → Prop) (σ : Sg) (l1 : Int32) (l2 : Int32) (l3 : Int32) : Prop := v_X6_digits σ 3 999 (fun r1 σ1 => vp_in (l1 + 2) 120 ∧ ∀ σ3 : Sg, σ3 = sA σ1 29 (ix (l1 + 2)) (l3 * r1) → bv_X6_readStep_233 P σ3 l1 l2)
def bv_X6_readStep_178 (P : Sg → Prop) (σ : Sg) (l1 : Int32) (l2 : Int32) (s0 : Int32) : Prop := ((0 ≤ s0 → bv_X6_readStep_189 P σ l1 l2 s0) ∧ (¬ 0 ≤ s0 → v_X6_expect σ 45 (fun σ1 => bv_X6_readStep_189 P σ1 l1 l2 s0)))
def bv_X6_readStep_137 (P : Sg → Prop) (σ : Sg) (l1 : Int32) (l2 : Int32) (s0 : Int32) : Prop := v_X6_digits σ 3 999 (fun r1 σ1 => vp_in (l1 + 2) 120 ∧ ∀ σ3 : Sg, σ3 = sA σ1 29 (ix (l1 + 2)) (s0 * r1) → bv_X6_readStep_233 P σ3 l1 l2)
def bv_X6_readStep_73 (P : Sg → Prop) (σ : Sg) (l1 : Int32) (s0 : Int32) : Prop := ((¬ s0 = ((-1)) → vp_in l1 120 ∧ ∀ σ2 : Sg, σ2 = sA σ 29 (ix l1) s0 → v_X6_readKey σ2 (fun r3 σ3 => vp_in (l1 + 1) 120 ∧ ∀ σ5 : Sg, σ5 = sA σ3 29 (ix (l1 + 1)) r3 → vp_in (l1 + 2) 120 ∧ ∀ σ7 : Sg, σ7 = sA σ5 29 (ix (l1 + 2)) 0 → ((¬ s0 = 3 → ((¬ s0 = 5 → ((¬ s0 = 2 → bv_X6_readStep_233 P σ7 l1 s0) ∧ (s0 = 2 → v_X6_expect σ7 45 (fun σ8 => v_X6_readKey σ8 (fun r9 σ9 => vp_in (l1 + 2) 120 ∧ ∀ σ11 : Sg, σ11 = sA σ9 29 (ix (l1 + 2)) r9 → bv_X6_readStep_233 P σ11 l1 s0))))) ∧ (s0 = 5 → v_X6_goes σ7 43 (fun r13 σ13 => ((r13 = 0 → bv_X6_readStep_178 P σ13 l1 s0 ((-1))) ∧ (¬ r13 = 0 → bv_X6_readStep_178 P σ13 l1 s0 1)))))) ∧ (s0 = 3 → v_X6_expect σ7 61 (fun σ16 => v_X6_goes σ16 45 (fun r17 σ17 => ((r17 = 0 → bv_X6_readStep_137 P σ17 l1 s0 1) ∧ (¬ r17 = 0 → bv_X6_readStep_137 P σ17 l1 s0 ((-1)))))))))) ∧ (s0 = ((-1)) → v_X6_fault σ (fun σ20 => P σ20)))
def v_X6_readStep (σ : Sg)  (P : Sg → Prop) : Prop := ∀ v1 : Int32, v1 = 3 * (σ.1 30) → v_X6_goes σ 114 (fun r2 σ2 => ((r2 = 0 → v_X6_goes σ2 119 (fun r3 σ3 => ((r3 = 0 → v_X6_goes σ3 100 (fun r4 σ4 => ((r4 = 0 → v_X6_goes σ4 97 (fun r5 σ5 => ((r5 = 0 → v_X6_goes σ5 115 (fun r6 σ6 => ((r6 = 0 → bv_X6_readStep_73 P σ6 v1 ((-1))) ∧ (¬ r6 = 0 → bv_X6_readStep_73 P σ6 v1 2)))) ∧ (¬ r5 = 0 → bv_X6_readStep_73 P σ5 v1 5)))) ∧ (¬ r4 = 0 → bv_X6_readStep_73 P σ4 v1 4)))) ∧ (¬ r3 = 0 → bv_X6_readStep_73 P σ3 v1 3)))) ∧ (¬ r2 = 0 → bv_X6_readStep_73 P σ2 v1 0)))
set_option maxHeartbeats 4000000 in
theorem vr_X6_readStep {m : Nat} {ad : Nat → Nat} {S : MS} {σ : Sg}  {P : Sg → Prop} {post : MS → Prop} (hR : RM m ad S σ) (h : v_X6_readStep σ  P) (hpost : ∀ (σ2 : Sg) (S2 : MS), P σ2 → RM m ad S2 σ2 → Fm m ad S S2 → post S2) : w_X6_readStep S m  post := by
  have hpost := fun σ2 S2 h1 h2 h3 => hpost σ2 S2 h1 h2 h3
  have hF := Fm.rf m ad S
  obtain ⟨S0, hS0⟩ : ∃ z : MS, z = S := ⟨_, rfl⟩
  rw [← hS0] at hpost
  have hF : Fm m ad S0 S := by rw [hS0]; exact hF
  have g233 : ∀ (S : MS) (σ : Sg) (l1 : Int32) (l2 : Int32), RM m ad S σ → Fm m ad S0 S → bv_X6_readStep_233 P σ l1 l2 → b_X6_readStep_233 post S m l1 l2  := by
    intro  S σ l1 l2 hR hF h
    unfold bv_X6_readStep_233 at h
    unfold b_X6_readStep_233
    try simp only [hR.1, hR.2.1, hR.2.2.1]
    refine ⟨hR.2.2.2.1, ?_⟩
    intro S1 hS1
    obtain ⟨σ1, hσ1⟩ : ∃ z : Sg, z = sF σ 30 ((σ.1 30) + 1) := ⟨_, rfl⟩
    have h := h σ1 hσ1
    obtain ⟨hR1, hF1⟩ := rm_putF hR hS1 hσ1
    have hF1 := Fm.tr hF hF1
    try simp only [hR1.1, hR1.2.1, hR1.2.2.1]
    exact hpost _ _ h hR1 hF1
  have g189 : ∀ (S : MS) (σ : Sg) (l1 : Int32) (l2 : Int32) (l3 : Int32), RM m ad S σ → Fm m ad S0 S → bv_X6_readStep_189 P σ l1 l2 l3 → b_X6_readStep_189 post S m l1 l2 l3  := by
    intro  S σ l1 l2 l3 hR hF h
    unfold bv_X6_readStep_189 at h
    unfold b_X6_readStep_189
    try simp only [hR.1, hR.2.1, hR.2.2.1]
    refine ⟨hR.2.2.2.1, ?_⟩
    refine vr_X6_digits hR h (fun r1 σ1 S1 h hR1 hF1 => ?_)
    have hF1 := Fm.tr hF hF1
    try simp only [hR1.1, hR1.2.1, hR1.2.2.1]
    refine ⟨rm_kT hR1 (by decide) rfl, ?_⟩
    obtain ⟨hi2, h⟩ := h
    refine ⟨(rm_kL hR1 (k := 29) rfl (by decide)) ▸ hi2, ?_⟩
    intro S3 hS3
    obtain ⟨σ3, hσ3⟩ : ∃ z : Sg, z = sA σ1 29 (ix (l1 + 2)) (l3 * r1) := ⟨_, rfl⟩
    have h := h σ3 hσ3
    obtain ⟨hR3, hF3⟩ := rm_putA hR1 (k := 29) (by decide) hS3 hσ3
    have hF3 := Fm.tr hF1 hF3
    try simp only [hR3.1, hR3.2.1, hR3.2.2.1]
    exact g233 _ _ _ _ hR3 hF3 h
  have g178 : ∀ (S : MS) (σ : Sg) (l1 : Int32) (l2 : Int32) (s0 : Int32), RM m ad S σ → Fm m ad S0 S → bv_X6_readStep_178 P σ l1 l2 s0 → b_X6_readStep_178 post S m l1 l2 s0 := by
    intro  S σ l1 l2 s0 hR hF h
    unfold bv_X6_readStep_178 at h
    unfold b_X6_readStep_178
    try simp only [hR.1, hR.2.1, hR.2.2.1]
    refine ⟨fun hc2 => ?_, fun hc2 => ?_⟩
    · have h := h.1 hc2
      exact g189 _ _ _ _ _ hR hF h
    · have h := h.2 hc2
      refine ⟨hR.2.2.2.1, ?_⟩
      refine vr_X6_expect hR h (fun σ1 S1 h hR1 hF1 => ?_)
      have hF1 := Fm.tr hF hF1
      try simp only [hR1.1, hR1.2.1, hR1.2.2.1]
      exact g189 _ _ _ _ _ hR1 hF1 h
  have g137 : ∀ (S : MS) (σ : Sg) (l1 : Int32) (l2 : Int32) (s0 : Int32), RM m ad S σ → Fm m ad S0 S → bv_X6_readStep_137 P σ l1 l2 s0 → b_X6_readStep_137 post S m l1 l2 s0 := by
    intro  S σ l1 l2 s0 hR hF h
    unfold bv_X6_readStep_137 at h
    unfold b_X6_readStep_137
    try simp only [hR.1, hR.2.1, hR.2.2.1]
    refine ⟨hR.2.2.2.1, ?_⟩
    refine vr_X6_digits hR h (fun r1 σ1 S1 h hR1 hF1 => ?_)
    have hF1 := Fm.tr hF hF1
    try simp only [hR1.1, hR1.2.1, hR1.2.2.1]
    refine ⟨rm_kT hR1 (by decide) rfl, ?_⟩
    obtain ⟨hi2, h⟩ := h
    refine ⟨(rm_kL hR1 (k := 29) rfl (by decide)) ▸ hi2, ?_⟩
    intro S3 hS3
    obtain ⟨σ3, hσ3⟩ : ∃ z : Sg, z = sA σ1 29 (ix (l1 + 2)) (s0 * r1) := ⟨_, rfl⟩
    have h := h σ3 hσ3
    obtain ⟨hR3, hF3⟩ := rm_putA hR1 (k := 29) (by decide) hS3 hσ3
    have hF3 := Fm.tr hF1 hF3
    try simp only [hR3.1, hR3.2.1, hR3.2.2.1]
    exact g233 _ _ _ _ hR3 hF3 h
  have g73 : ∀ (S : MS) (σ : Sg) (l1 : Int32) (s0 : Int32), RM m ad S σ → Fm m ad S0 S → bv_X6_readStep_73 P σ l1 s0 → b_X6_readStep_73 post S m l1 s0 := by
    intro  S σ l1 s0 hR hF h
    unfold bv_X6_readStep_73 at h
    unfold b_X6_readStep_73
    try simp only [hR.1, hR.2.1, hR.2.2.1]
    refine ⟨fun hc21 => ?_, fun hc21 => ?_⟩
    · have h := h.1 hc21
      refine ⟨hR.2.2.2.1, ?_⟩
      refine ⟨rm_kT hR (by decide) rfl, ?_⟩
      obtain ⟨hi1, h⟩ := h
      refine ⟨(rm_kL hR (k := 29) rfl (by decide)) ▸ hi1, ?_⟩
      intro S2 hS2
      obtain ⟨σ2, hσ2⟩ : ∃ z : Sg, z = sA σ 29 (ix l1) s0 := ⟨_, rfl⟩
      have h := h σ2 hσ2
      obtain ⟨hR2, hF2⟩ := rm_putA hR (k := 29) (by decide) hS2 hσ2
      have hF2 := Fm.tr hF hF2
      try simp only [hR2.1, hR2.2.1, hR2.2.2.1]
      refine vr_X6_readKey hR2 h (fun r3 σ3 S3 h hR3 hF3 => ?_)
      have hF3 := Fm.tr hF2 hF3
      try simp only [hR3.1, hR3.2.1, hR3.2.2.1]
      refine ⟨rm_kT hR3 (by decide) rfl, ?_⟩
      obtain ⟨hi4, h⟩ := h
      refine ⟨(rm_kL hR3 (k := 29) rfl (by decide)) ▸ hi4, ?_⟩
      intro S5 hS5
      obtain ⟨σ5, hσ5⟩ : ∃ z : Sg, z = sA σ3 29 (ix (l1 + 1)) r3 := ⟨_, rfl⟩
      have h := h σ5 hσ5
      obtain ⟨hR5, hF5⟩ := rm_putA hR3 (k := 29) (by decide) hS5 hσ5
      have hF5 := Fm.tr hF3 hF5
      try simp only [hR5.1, hR5.2.1, hR5.2.2.1]
      refine ⟨hR5.2.2.2.1, ?_⟩
      refine ⟨rm_kT hR5 (by decide) rfl, ?_⟩
      obtain ⟨hi6, h⟩ := h
      refine ⟨(rm_kL hR5 (k := 29) rfl (by decide)) ▸ hi6, ?_⟩
      intro S7 hS7
      obtain ⟨σ7, hσ7⟩ : ∃ z : Sg, z = sA σ5 29 (ix (l1 + 2)) 0 := ⟨_, rfl⟩
      have h := h σ7 hσ7
      obtain ⟨hR7, hF7⟩ := rm_putA hR5 (k := 29) (by decide) hS7 hσ7
      have hF7 := Fm.tr hF5 hF7
      try simp only [hR7.1, hR7.2.1, hR7.2.2.1]
      refine ⟨fun hc19 => ?_, fun hc19 => ?_⟩
      · have h := h.1 hc19
        refine ⟨fun hc15 => ?_, fun hc15 => ?_⟩
        · have h := h.1 hc15
          refine ⟨fun hc12 => ?_, fun hc12 => ?_⟩
          · have h := h.1 hc12
            exact g233 _ _ _ _ hR7 hF7 h
          · have h := h.2 hc12
            refine vr_X6_expect hR7 h (fun σ8 S8 h hR8 hF8 => ?_)
            have hF8 := Fm.tr hF7 hF8
            try simp only [hR8.1, hR8.2.1, hR8.2.2.1]
            refine ⟨hR8.2.2.2.1, ?_⟩
            refine vr_X6_readKey hR8 h (fun r9 σ9 S9 h hR9 hF9 => ?_)
            have hF9 := Fm.tr hF8 hF9
            try simp only [hR9.1, hR9.2.1, hR9.2.2.1]
            refine ⟨rm_kT hR9 (by decide) rfl, ?_⟩
            obtain ⟨hi10, h⟩ := h
            refine ⟨(rm_kL hR9 (k := 29) rfl (by decide)) ▸ hi10, ?_⟩
            intro S11 hS11
            obtain ⟨σ11, hσ11⟩ : ∃ z : Sg, z = sA σ9 29 (ix (l1 + 2)) r9 := ⟨_, rfl⟩
            have h := h σ11 hσ11
            obtain ⟨hR11, hF11⟩ := rm_putA hR9 (k := 29) (by decide) hS11 hσ11
            have hF11 := Fm.tr hF9 hF11
            try simp only [hR11.1, hR11.2.1, hR11.2.2.1]
            exact g233 _ _ _ _ hR11 hF11 h
        · have h := h.2 hc15
          refine vr_X6_goes hR7 h (fun r13 σ13 S13 h hR13 hF13 => ?_)
          have hF13 := Fm.tr hF7 hF13
          try simp only [hR13.1, hR13.2.1, hR13.2.2.1]
          refine ⟨fun hc14 => ?_, fun hc14 => ?_⟩
          · have h := h.1 hc14
            exact g178 _ _ _ _ _ hR13 hF13 h
          · have h := h.2 hc14
            exact g178 _ _ _ _ _ hR13 hF13 h
      · have h := h.2 hc19
        refine vr_X6_expect hR7 h (fun σ16 S16 h hR16 hF16 => ?_)
        have hF16 := Fm.tr hF7 hF16
        try simp only [hR16.1, hR16.2.1, hR16.2.2.1]
        refine ⟨hR16.2.2.2.1, ?_⟩
        refine vr_X6_goes hR16 h (fun r17 σ17 S17 h hR17 hF17 => ?_)
        have hF17 := Fm.tr hF16 hF17
        try simp only [hR17.1, hR17.2.1, hR17.2.2.1]
        refine ⟨fun hc18 => ?_, fun hc18 => ?_⟩
        · have h := h.1 hc18
          exact g137 _ _ _ _ _ hR17 hF17 h
        · have h := h.2 hc18
          exact g137 _ _ _ _ _ hR17 hF17 h
    · have h := h.2 hc21
      refine ⟨hR.2.2.2.1, ?_⟩
      refine vr_X6_fault hR h (fun σ20 S20 h hR20 hF20 => ?_)
      have hF20 := Fm.tr hF hF20
      try simp only [hR20.1, hR20.2.1, hR20.2.2.1]
      exact hpost _ _ h hR20 hF20
  unfold v_X6_readStep at h
  unfold w_X6_readStep
  try simp only [hR.1, hR.2.1, hR.2.2.1]
  refine ⟨hR.2.2.2.1, ?_⟩
  intro v1 hv1
  have h := h v1 hv1
  refine vr_X6_goes hR h (fun r2 σ2 S2 h hR2 hF2 => ?_)
  have hF2 := Fm.tr hF hF2
  try simp only [hR2.1, hR2.2.1, hR2.2.2.1]
  refine ⟨fun hc11 => ?_, fun hc11 => ?_⟩
  · have h := h.1 hc11
    refine ⟨hR2.2.2.2.1, ?_⟩
    refine vr_X6_goes hR2 h (fun r3 σ3 S3 h hR3 hF3 => ?_)
    have hF3 := Fm.tr hF2 hF3
    try simp only [hR3.1, hR3.2.1, hR3.2.2.1]
    refine ⟨fun hc10 => ?_, fun hc10 => ?_⟩
    · have h := h.1 hc10
      refine ⟨hR3.2.2.2.1, ?_⟩
      refine vr_X6_goes hR3 h (fun r4 σ4 S4 h hR4 hF4 => ?_)
      have hF4 := Fm.tr hF3 hF4
      try simp only [hR4.1, hR4.2.1, hR4.2.2.1]
      refine ⟨fun hc9 => ?_, fun hc9 => ?_⟩
      · have h := h.1 hc9
        refine ⟨hR4.2.2.2.1, ?_⟩
        refine vr_X6_goes hR4 h (fun r5 σ5 S5 h hR5 hF5 => ?_)
        have hF5 := Fm.tr hF4 hF5
        try simp only [hR5.1, hR5.2.1, hR5.2.2.1]
        refine ⟨fun hc8 => ?_, fun hc8 => ?_⟩
        · have h := h.1 hc8
          refine ⟨hR5.2.2.2.1, ?_⟩
          refine vr_X6_goes hR5 h (fun r6 σ6 S6 h hR6 hF6 => ?_)
          have hF6 := Fm.tr hF5 hF6
          try simp only [hR6.1, hR6.2.1, hR6.2.2.1]
          refine ⟨fun hc7 => ?_, fun hc7 => ?_⟩
          · have h := h.1 hc7
            exact g73 _ _ _ _ hR6 hF6 h
          · have h := h.2 hc7
            exact g73 _ _ _ _ hR6 hF6 h
        · have h := h.2 hc8
          exact g73 _ _ _ _ hR5 hF5 h
      · have h := h.2 hc9
        exact g73 _ _ _ _ hR4 hF4 h
    · have h := h.2 hc10
      exact g73 _ _ _ _ hR3 hF3 h
  · have h := h.2 hc11
    exact g73 _ _ _ _ hR2 hF2 h
def bv_X6_readScript_63 (P : Sg → Prop) (σ : Sg)  : Prop := P σ
def bv_X6_readScript_32 (P : Sg → Prop) : Nat → Sg → Prop
  | 0 => fun _ => False
  | f + 1 => fun σ  => v_X6_goes σ 59 (fun r1 σ1 => ((r1 = 0 → (((σ1.1 26) ≤ (σ1.1 27) → bv_X6_readScript_63 P σ1) ∧ (¬ (σ1.1 26) ≤ (σ1.1 27) → v_X6_fault σ1 (fun σ2 => bv_X6_readScript_63 P σ2)))) ∧ (¬ r1 = 0 → v_X6_readStep σ1 (fun σ4 => bv_X6_readScript_32 P f σ4))))
def v_X6_readScript (σ : Sg)  (P : Sg → Prop) : Prop := ∀ σ1 : Sg, σ1 = sF σ 26 (σ.1 25) → ∀ σ2 : Sg, σ2 = sF σ1 25 0 → ∀ σ3 : Sg, σ3 = sF σ2 27 0 → ∀ σ4 : Sg, σ4 = sF σ3 28 ((-1)) → ∀ σ5 : Sg, σ5 = sF σ4 30 0 → v_X6_readStep σ5 (fun σ6 => ∃ f32, bv_X6_readScript_32 P f32 σ6)
set_option maxHeartbeats 4000000 in
theorem vr_X6_readScript {m : Nat} {ad : Nat → Nat} {S : MS} {σ : Sg}  {P : Sg → Prop} {post : MS → Prop} (hR : RM m ad S σ) (h : v_X6_readScript σ  P) (hpost : ∀ (σ2 : Sg) (S2 : MS), P σ2 → RM m ad S2 σ2 → Fm m ad S S2 → post S2) : w_X6_readScript S m  post := by
  have hpost := fun σ2 S2 h1 h2 h3 => hpost σ2 S2 h1 h2 h3
  have hF := Fm.rf m ad S
  obtain ⟨S0, hS0⟩ : ∃ z : MS, z = S := ⟨_, rfl⟩
  rw [← hS0] at hpost
  have hF : Fm m ad S0 S := by rw [hS0]; exact hF
  have g63 : ∀ (S : MS) (σ : Sg) , RM m ad S σ → Fm m ad S0 S → bv_X6_readScript_63 P σ  → b_X6_readScript_63 post S m  := by
    intro  S σ  hR hF h
    unfold bv_X6_readScript_63 at h
    unfold b_X6_readScript_63
    try simp only [hR.1, hR.2.1, hR.2.2.1]
    exact hpost _ _ h hR hF
  have g32 : ∀ (f : Nat) (S : MS) (σ : Sg) , RM m ad S σ → Fm m ad S0 S → bv_X6_readScript_32 P f σ  → b_X6_readScript_32 post f S m  := by
    intro f
    induction f with
    | zero => intro S σ  hR hF h; exact h.elim
    | succ f ih =>
      intro S σ  hR hF h
      simp only [bv_X6_readScript_32] at h
      simp only [b_X6_readScript_32]
      try simp only [hR.1, hR.2.1, hR.2.2.1]
      refine ⟨hR.2.2.2.1, ?_⟩
      refine vr_X6_goes hR h (fun r1 σ1 S1 h hR1 hF1 => ?_)
      have hF1 := Fm.tr hF hF1
      try simp only [hR1.1, hR1.2.1, hR1.2.2.1]
      refine ⟨fun hc5 => ?_, fun hc5 => ?_⟩
      · have h := h.1 hc5
        refine ⟨hR1.2.2.2.1, ?_⟩
        refine ⟨fun hc3 => ?_, fun hc3 => ?_⟩
        · have h := h.1 hc3
          exact g63 _ _  hR1 hF1 h
        · have h := h.2 hc3
          refine vr_X6_fault hR1 h (fun σ2 S2 h hR2 hF2 => ?_)
          have hF2 := Fm.tr hF1 hF2
          try simp only [hR2.1, hR2.2.1, hR2.2.2.1]
          exact g63 _ _  hR2 hF2 h
      · have h := h.2 hc5
        refine ⟨hR1.2.2.2.1, ?_⟩
        refine vr_X6_readStep hR1 h (fun σ4 S4 h hR4 hF4 => ?_)
        have hF4 := Fm.tr hF1 hF4
        try simp only [hR4.1, hR4.2.1, hR4.2.2.1]
        exact ih _ _  hR4 hF4 h
  unfold v_X6_readScript at h
  unfold w_X6_readScript
  try simp only [hR.1, hR.2.1, hR.2.2.1]
  refine ⟨hR.2.2.2.1, ?_⟩
  intro S1 hS1
  obtain ⟨σ1, hσ1⟩ : ∃ z : Sg, z = sF σ 26 (σ.1 25) := ⟨_, rfl⟩
  have h := h σ1 hσ1
  obtain ⟨hR1, hF1⟩ := rm_putF hR hS1 hσ1
  have hF1 := Fm.tr hF hF1
  try simp only [hR1.1, hR1.2.1, hR1.2.2.1]
  intro S2 hS2
  obtain ⟨σ2, hσ2⟩ : ∃ z : Sg, z = sF σ1 25 0 := ⟨_, rfl⟩
  have h := h σ2 hσ2
  obtain ⟨hR2, hF2⟩ := rm_putF hR1 hS2 hσ2
  have hF2 := Fm.tr hF1 hF2
  try simp only [hR2.1, hR2.2.1, hR2.2.2.1]
  intro S3 hS3
  obtain ⟨σ3, hσ3⟩ : ∃ z : Sg, z = sF σ2 27 0 := ⟨_, rfl⟩
  have h := h σ3 hσ3
  obtain ⟨hR3, hF3⟩ := rm_putF hR2 hS3 hσ3
  have hF3 := Fm.tr hF2 hF3
  try simp only [hR3.1, hR3.2.1, hR3.2.2.1]
  intro S4 hS4
  obtain ⟨σ4, hσ4⟩ : ∃ z : Sg, z = sF σ3 28 ((-1)) := ⟨_, rfl⟩
  have h := h σ4 hσ4
  obtain ⟨hR4, hF4⟩ := rm_putF hR3 hS4 hσ4
  have hF4 := Fm.tr hF3 hF4
  try simp only [hR4.1, hR4.2.1, hR4.2.2.1]
  intro S5 hS5
  obtain ⟨σ5, hσ5⟩ : ∃ z : Sg, z = sF σ4 30 0 := ⟨_, rfl⟩
  have h := h σ5 hσ5
  obtain ⟨hR5, hF5⟩ := rm_putF hR4 hS5 hσ5
  have hF5 := Fm.tr hF4 hF5
  try simp only [hR5.1, hR5.2.1, hR5.2.2.1]
  refine vr_X6_readStep hR5 h (fun σ6 S6 h hR6 hF6 => ?_)
  have hF6 := Fm.tr hF5 hF6
  try simp only [hR6.1, hR6.2.1, hR6.2.2.1]
  obtain ⟨f32, h⟩ := h
  exact ⟨f32, g32 f32 _ _  hR6 hF6 h⟩
def bv_X6_doStep_115 (P : Sg → Prop) (σ : Sg) (l1 : Int32) (l2 : Int32) (l3 : Int32) (l4 : Int32) : Prop := P σ
def bv_X6_doStep_106 (P : Sg → Prop) (σ : Sg) (l1 : Int32) (l2 : Int32) (l3 : Int32) (l4 : Int32) : Prop := v_X6_sum σ l1 l3 l4 (fun r1 σ1 => bv_X6_doStep_115 P σ1 l1 l2 l3 l4)
def v_X6_doStep (σ : Sg) (a1 : Int32) (a2 : Int32) (P : Sg → Prop) : Prop := vp_in (a2 + 1) 120 ∧ ∀ v2 : Int32, v2 = σ.2 29 (ix (a2 + 1)) → vp_in (a2 + 2) 120 ∧ ∀ v4 : Int32, v4 = σ.2 29 (ix (a2 + 2)) → vp_in a2 120 ∧ (((σ.2 29 (ix a2)).toInt = 0 → v_X6_read σ a1 v2 (fun r6 σ6 => bv_X6_doStep_115 P σ6 a1 a2 v2 v4)) ∧ ((σ.2 29 (ix a2)).toInt = 1 → bv_X6_doStep_106 P σ a1 a2 v2 v4) ∧ ((σ.2 29 (ix a2)).toInt = 2 → bv_X6_doStep_106 P σ a1 a2 v2 v4) ∧ ((σ.2 29 (ix a2)).toInt = 3 → v_X6_write σ a1 v2 v4 (fun σ7 => bv_X6_doStep_115 P σ7 a1 a2 v2 v4)) ∧ ((σ.2 29 (ix a2)).toInt = 4 → v_X6_remove σ a1 v2 (fun σ8 => bv_X6_doStep_115 P σ8 a1 a2 v2 v4)) ∧ ((σ.2 29 (ix a2)).toInt = 5 → v_X6_add σ a1 v2 v4 (fun r9 σ9 => bv_X6_doStep_115 P σ9 a1 a2 v2 v4)) ∧ ((σ.2 29 (ix a2)).toInt < 0 ∨ 5 < (σ.2 29 (ix a2)).toInt → bv_X6_doStep_106 P σ a1 a2 v2 v4))
set_option maxHeartbeats 4000000 in
theorem vr_X6_doStep {m : Nat} {ad : Nat → Nat} {S : MS} {σ : Sg} {a1 : Int32} {a2 : Int32} {P : Sg → Prop} {post : MS → Prop} (hR : RM m ad S σ) (h : v_X6_doStep σ a1 a2 P) (hpost : ∀ (σ2 : Sg) (S2 : MS), P σ2 → RM m ad S2 σ2 → Fm m ad S S2 → post S2) : w_X6_doStep S m a1 a2 post := by
  have hpost := fun σ2 S2 h1 h2 h3 => hpost σ2 S2 h1 h2 h3
  have hF := Fm.rf m ad S
  obtain ⟨S0, hS0⟩ : ∃ z : MS, z = S := ⟨_, rfl⟩
  rw [← hS0] at hpost
  have hF : Fm m ad S0 S := by rw [hS0]; exact hF
  have g115 : ∀ (S : MS) (σ : Sg) (l1 : Int32) (l2 : Int32) (l3 : Int32) (l4 : Int32), RM m ad S σ → Fm m ad S0 S → bv_X6_doStep_115 P σ l1 l2 l3 l4 → b_X6_doStep_115 post S m l1 l2 l3 l4  := by
    intro  S σ l1 l2 l3 l4 hR hF h
    unfold bv_X6_doStep_115 at h
    unfold b_X6_doStep_115
    try simp only [hR.1, hR.2.1, hR.2.2.1]
    exact hpost _ _ h hR hF
  have g106 : ∀ (S : MS) (σ : Sg) (l1 : Int32) (l2 : Int32) (l3 : Int32) (l4 : Int32), RM m ad S σ → Fm m ad S0 S → bv_X6_doStep_106 P σ l1 l2 l3 l4 → b_X6_doStep_106 post S m l1 l2 l3 l4  := by
    intro  S σ l1 l2 l3 l4 hR hF h
    unfold bv_X6_doStep_106 at h
    unfold b_X6_doStep_106
    try simp only [hR.1, hR.2.1, hR.2.2.1]
    refine ⟨hR.2.2.2.1, ?_⟩
    refine vr_X6_sum hR h (fun r1 σ1 S1 h hR1 hF1 => ?_)
    have hF1 := Fm.tr hF hF1
    try simp only [hR1.1, hR1.2.1, hR1.2.2.1]
    exact g115 _ _ _ _ _ _ hR1 hF1 h
  unfold v_X6_doStep at h
  unfold w_X6_doStep
  try simp only [hR.1, hR.2.1, hR.2.2.1]
  refine ⟨hR.2.2.2.1, ?_⟩
  refine ⟨rm_kT hR (by decide) rfl, ?_⟩
  obtain ⟨hi1, h⟩ := h
  refine ⟨(rm_kL hR (k := 29) rfl (by decide)) ▸ hi1, ?_⟩
  intro v2 hv2
  have h := h v2 hv2
  obtain ⟨hi3, h⟩ := h
  refine ⟨(rm_kL hR (k := 29) rfl (by decide)) ▸ hi3, ?_⟩
  intro v4 hv4
  have h := h v4 hv4
  obtain ⟨hi5, h⟩ := h
  refine ⟨(rm_kL hR (k := 29) rfl (by decide)) ▸ hi5, ?_⟩
  refine ⟨fun hx => ?_, fun hx => ?_, fun hx => ?_, fun hx => ?_, fun hx => ?_, fun hx => ?_, fun hx => ?_⟩
  · have h := h.1 hx
    refine vr_X6_read hR h (fun r6 σ6 S6 h hR6 hF6 => ?_)
    have hF6 := Fm.tr hF hF6
    try simp only [hR6.1, hR6.2.1, hR6.2.2.1]
    exact g115 _ _ _ _ _ _ hR6 hF6 h
  · have h := h.2.1 hx
    exact g106 _ _ _ _ _ _ hR hF h
  · have h := h.2.2.1 hx
    exact g106 _ _ _ _ _ _ hR hF h
  · have h := h.2.2.2.1 hx
    refine vr_X6_write hR h (fun σ7 S7 h hR7 hF7 => ?_)
    have hF7 := Fm.tr hF hF7
    try simp only [hR7.1, hR7.2.1, hR7.2.2.1]
    exact g115 _ _ _ _ _ _ hR7 hF7 h
  · have h := h.2.2.2.2.1 hx
    refine vr_X6_remove hR h (fun σ8 S8 h hR8 hF8 => ?_)
    have hF8 := Fm.tr hF hF8
    try simp only [hR8.1, hR8.2.1, hR8.2.2.1]
    exact g115 _ _ _ _ _ _ hR8 hF8 h
  · have h := h.2.2.2.2.2.1 hx
    refine vr_X6_add hR h (fun r9 σ9 S9 h hR9 hF9 => ?_)
    have hF9 := Fm.tr hF hF9
    try simp only [hR9.1, hR9.2.1, hR9.2.2.1]
    exact g115 _ _ _ _ _ _ hR9 hF9 h
  · have h := h.2.2.2.2.2.2 hx
    exact g106 _ _ _ _ _ _ hR hF h
def bv_X6_runScript_53 (P : Int32 → Sg → Prop) : Nat → Sg → Int32 → Int32 → Prop
  | 0 => fun _ _ _ => False
  | f + 1 => fun σ l1 l2 => (((σ.1 30) ≤ l2 → v_X6_doCommit σ l1 (fun r1 σ1 => P r1 σ1)) ∧ (¬ (σ.1 30) ≤ l2 → v_X6_doStep σ l1 (3 * l2) (fun σ2 => (((σ2.1 0) = 0 → ∀ v3 : Int32, v3 = l2 + 1 → bv_X6_runScript_53 P f σ2 l1 v3) ∧ (¬ (σ2.1 0) = 0 → ∀ σ4 : Sg, σ4 = sF σ2 0 0 → v_X6_endWith σ4 l1 5 (fun σ5 => P ((-2)) σ5))))))
def bv_X6_runScript_39 (P : Int32 → Sg → Prop) (σ : Sg)  : Prop := v_X6_fail σ 2 (fun r1 σ1 => P r1 σ1)
def v_X6_runScript (σ : Sg)  (P : Int32 → Sg → Prop) : Prop := v_X6_readScript σ (fun σ1 => ∀ σ2 : Sg, σ2 = sF σ1 0 0 → (((σ2.1 28) = ((-1)) → v_X6_hasRoom σ2 (fun r3 σ3 => ((r3 = 0 → bv_X6_runScript_39 P σ3) ∧ (¬ r3 = 0 → ((¬ (σ3.1 14) = 60 → v_X6_beginWith σ3 1 (fun r4 σ4 => ∃ f53, bv_X6_runScript_53 P f53 σ4 r4 0)) ∧ ((σ3.1 14) = 60 → bv_X6_runScript_39 P σ3)))))) ∧ (¬ (σ2.1 28) = ((-1)) → v_X6_fail σ2 1 (fun r7 σ7 => P r7 σ7))))
set_option maxHeartbeats 4000000 in
theorem vr_X6_runScript {m : Nat} {ad : Nat → Nat} {S : MS} {σ : Sg}  {P : Int32 → Sg → Prop} {post : Int32 → MS → Prop} (hR : RM m ad S σ) (h : v_X6_runScript σ  P) (hpost : ∀ (r : Int32) (σ2 : Sg) (S2 : MS), P r σ2 → RM m ad S2 σ2 → Fm m ad S S2 → post r S2) : w_X6_runScript S m  post := by
  have hpost := fun r σ2 S2 h1 h2 h3 => hpost r σ2 S2 h1 h2 h3
  have hF := Fm.rf m ad S
  obtain ⟨S0, hS0⟩ : ∃ z : MS, z = S := ⟨_, rfl⟩
  rw [← hS0] at hpost
  have hF : Fm m ad S0 S := by rw [hS0]; exact hF
  have g53 : ∀ (f : Nat) (S : MS) (σ : Sg) (l1 : Int32) (l2 : Int32), RM m ad S σ → Fm m ad S0 S → bv_X6_runScript_53 P f σ l1 l2 → b_X6_runScript_53 post f S m l1 l2  := by
    intro f
    induction f with
    | zero => intro S σ l1 l2 hR hF h; exact h.elim
    | succ f ih =>
      intro S σ l1 l2 hR hF h
      simp only [bv_X6_runScript_53] at h
      simp only [b_X6_runScript_53]
      try simp only [hR.1, hR.2.1, hR.2.2.1]
      refine ⟨hR.2.2.2.1, ?_⟩
      refine ⟨fun hc7 => ?_, fun hc7 => ?_⟩
      · have h := h.1 hc7
        refine vr_X6_doCommit hR h (fun r1 σ1 S1 h hR1 hF1 => ?_)
        have hF1 := Fm.tr hF hF1
        try simp only [hR1.1, hR1.2.1, hR1.2.2.1]
        exact hpost _ _ _ h hR1 hF1
      · have h := h.2 hc7
        refine vr_X6_doStep hR h (fun σ2 S2 h hR2 hF2 => ?_)
        have hF2 := Fm.tr hF hF2
        try simp only [hR2.1, hR2.2.1, hR2.2.2.1]
        refine ⟨hR2.2.2.2.1, ?_⟩
        refine ⟨fun hc6 => ?_, fun hc6 => ?_⟩
        · have h := h.1 hc6
          intro v3 hv3
          have h := h v3 hv3
          exact ih _ _ _ _ hR2 hF2 h
        · have h := h.2 hc6
          intro S4 hS4
          obtain ⟨σ4, hσ4⟩ : ∃ z : Sg, z = sF σ2 0 0 := ⟨_, rfl⟩
          have h := h σ4 hσ4
          obtain ⟨hR4, hF4⟩ := rm_putF hR2 hS4 hσ4
          have hF4 := Fm.tr hF2 hF4
          try simp only [hR4.1, hR4.2.1, hR4.2.2.1]
          refine vr_X6_endWith hR4 h (fun σ5 S5 h hR5 hF5 => ?_)
          have hF5 := Fm.tr hF4 hF5
          try simp only [hR5.1, hR5.2.1, hR5.2.2.1]
          exact hpost _ _ _ h hR5 hF5
  have g39 : ∀ (S : MS) (σ : Sg) , RM m ad S σ → Fm m ad S0 S → bv_X6_runScript_39 P σ  → b_X6_runScript_39 post S m  := by
    intro  S σ  hR hF h
    unfold bv_X6_runScript_39 at h
    unfold b_X6_runScript_39
    try simp only [hR.1, hR.2.1, hR.2.2.1]
    refine ⟨hR.2.2.2.1, ?_⟩
    refine vr_X6_fail hR h (fun r1 σ1 S1 h hR1 hF1 => ?_)
    have hF1 := Fm.tr hF hF1
    try simp only [hR1.1, hR1.2.1, hR1.2.2.1]
    exact hpost _ _ _ h hR1 hF1
  unfold v_X6_runScript at h
  unfold w_X6_runScript
  try simp only [hR.1, hR.2.1, hR.2.2.1]
  refine ⟨hR.2.2.2.1, ?_⟩
  refine vr_X6_readScript hR h (fun σ1 S1 h hR1 hF1 => ?_)
  have hF1 := Fm.tr hF hF1
  try simp only [hR1.1, hR1.2.1, hR1.2.2.1]
  refine ⟨hR1.2.2.2.1, ?_⟩
  intro S2 hS2
  obtain ⟨σ2, hσ2⟩ : ∃ z : Sg, z = sF σ1 0 0 := ⟨_, rfl⟩
  have h := h σ2 hσ2
  obtain ⟨hR2, hF2⟩ := rm_putF hR1 hS2 hσ2
  have hF2 := Fm.tr hF1 hF2
  try simp only [hR2.1, hR2.2.1, hR2.2.2.1]
  refine ⟨fun hc8 => ?_, fun hc8 => ?_⟩
  · have h := h.1 hc8
    refine vr_X6_hasRoom hR2 h (fun r3 σ3 S3 h hR3 hF3 => ?_)
    have hF3 := Fm.tr hF2 hF3
    try simp only [hR3.1, hR3.2.1, hR3.2.2.1]
    refine ⟨fun hc6 => ?_, fun hc6 => ?_⟩
    · have h := h.1 hc6
      exact g39 _ _  hR3 hF3 h
    · have h := h.2 hc6
      refine ⟨hR3.2.2.2.1, ?_⟩
      refine ⟨fun hc5 => ?_, fun hc5 => ?_⟩
      · have h := h.1 hc5
        refine vr_X6_beginWith hR3 h (fun r4 σ4 S4 h hR4 hF4 => ?_)
        have hF4 := Fm.tr hF3 hF4
        try simp only [hR4.1, hR4.2.1, hR4.2.2.1]
        obtain ⟨f53, h⟩ := h
        exact ⟨f53, g53 f53 _ _ _ _ hR4 hF4 h⟩
      · have h := h.2 hc5
        exact g39 _ _  hR3 hF3 h
  · have h := h.2 hc8
    refine vr_X6_fail hR2 h (fun r7 σ7 S7 h hR7 hF7 => ?_)
    have hF7 := Fm.tr hF2 hF7
    try simp only [hR7.1, hR7.2.1, hR7.2.2.1]
    exact hpost _ _ _ h hR7 hF7
def v_X6_faultPosition (σ : Sg)  (P : Int32 → Sg → Prop) : Prop := ∀ σ1 : Sg, σ1 = sF σ 0 0 → P (σ1.1 28) σ1
set_option maxHeartbeats 4000000 in
theorem vr_X6_faultPosition {m : Nat} {ad : Nat → Nat} {S : MS} {σ : Sg}  {P : Int32 → Sg → Prop} {post : Int32 → MS → Prop} (hR : RM m ad S σ) (h : v_X6_faultPosition σ  P) (hpost : ∀ (r : Int32) (σ2 : Sg) (S2 : MS), P r σ2 → RM m ad S2 σ2 → Fm m ad S S2 → post r S2) : w_X6_faultPosition S m  post := by
  have hpost := fun r σ2 S2 h1 h2 h3 => hpost r σ2 S2 h1 h2 h3
  have hF := Fm.rf m ad S
  obtain ⟨S0, hS0⟩ : ∃ z : MS, z = S := ⟨_, rfl⟩
  rw [← hS0] at hpost
  have hF : Fm m ad S0 S := by rw [hS0]; exact hF
  unfold v_X6_faultPosition at h
  unfold w_X6_faultPosition
  try simp only [hR.1, hR.2.1, hR.2.2.1]
  refine ⟨hR.2.2.2.1, ?_⟩
  intro S1 hS1
  obtain ⟨σ1, hσ1⟩ : ∃ z : Sg, z = sF σ 0 0 := ⟨_, rfl⟩
  have h := h σ1 hσ1
  obtain ⟨hR1, hF1⟩ := rm_putF hR hS1 hσ1
  have hF1 := Fm.tr hF hF1
  try simp only [hR1.1, hR1.2.1, hR1.2.2.1]
  exact hpost _ _ _ h hR1 hF1
