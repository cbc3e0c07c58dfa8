def bv_X6_dependencyOf_218 (P : Int32 → Sg → Prop) (σ : Sg) (l1 : Int32) (l2 : Int32) (l3 : Int32) (l4 : Int32) (l5 : Int32) (l6 : Int32) (l7 : Int32) (l8 : Int32) (s0 : Int32) (s1 : Int32) : Prop := P (s1 + s0) σ
def bv_X6_dependencyOf_207 (P : Int32 → Sg → Prop) (σ : Sg) (l1 : Int32) (l2 : Int32) (l3 : Int32) (l4 : Int32) (l5 : Int32) (l6 : Int32) (l7 : Int32) (l8 : Int32) (s0 : Int32) (s1 : Int32) : Prop := ((l7 = 0 → bv_X6_dependencyOf_218 P σ l1 l2 l3 l4 l5 l6 l7 l8 0 (s1 + s0)) ∧ (¬ l7 = 0 → bv_X6_dependencyOf_218 P σ l1 l2 l3 l4 l5 l6 l7 l8 4 (s1 + s0)))
def bv_X6_dependencyOf_197 (P : Int32 → Sg → Prop) (σ : Sg) (l1 : Int32) (l2 : Int32) (l3 : Int32) (l4 : Int32) (l5 : Int32) (l6 : Int32) (l7 : Int32) (l8 : Int32) (s0 : Int32) : Prop := ((l6 = 0 → bv_X6_dependencyOf_207 P σ l1 l2 l3 l4 l5 l6 l7 l8 0 s0) ∧ (¬ l6 = 0 → bv_X6_dependencyOf_207 P σ l1 l2 l3 l4 l5 l6 l7 l8 2 s0))
def bv_X6_dependencyOf_179 (KV27 : Sg → Int32 → Int32 → Int32 → Int32 → Int32 → Int32 → Int32 → Int32 → Prop) (P : Int32 → Sg → Prop) (σ : Sg) (l1 : Int32) (l2 : Int32) (l3 : Int32) (l4 : Int32) (l5 : Int32) (l6 : Int32) (l7 : Int32) (l8 : Int32) (l9 : Int32) (s0 : Int32) : Prop := ∀ v1 : Int32, v1 = l8 + 1 → KV27 σ l1 l2 l3 l4 l5 l6 s0 v1
def bv_X6_dependencyOf_178 (KV27 : Sg → Int32 → Int32 → Int32 → Int32 → Int32 → Int32 → Int32 → Int32 → Prop) (P : Int32 → Sg → Prop) (σ : Sg) (l1 : Int32) (l2 : Int32) (l3 : Int32) (l4 : Int32) (l5 : Int32) (l6 : Int32) (l7 : Int32) (l8 : Int32) (l9 : Int32) : Prop := bv_X6_dependencyOf_179 KV27 P σ l1 l2 l3 l4 l5 l6 l7 l8 l9 0
def bv_X6_dependencyOf_174 (KV27 : Sg → Int32 → Int32 → Int32 → Int32 → Int32 → Int32 → Int32 → Int32 → Prop) (P : Int32 → Sg → Prop) (σ : Sg) (l1 : Int32) (l2 : Int32) (l3 : Int32) (l4 : Int32) (l5 : Int32) (l6 : Int32) (l7 : Int32) (l8 : Int32) (l9 : Int32) : Prop := bv_X6_dependencyOf_179 KV27 P σ l1 l2 l3 l4 l5 l6 l7 l8 l9 1
def bv_X6_dependencyOf_118 (KV27 : Sg → Int32 → Int32 → Int32 → Int32 → Int32 → Int32 → Int32 → Int32 → Prop) (P : Int32 → Sg → Prop) (σ : Sg) (l1 : Int32) (l2 : Int32) (l3 : Int32) (l4 : Int32) (l5 : Int32) (l6 : Int32) (l7 : Int32) (l8 : Int32) (l9 : Int32) (s0 : Int32) : Prop := ((¬ l7 = 0 → bv_X6_dependencyOf_174 KV27 P σ l1 l2 l3 l4 l5 s0 l7 l8 l9) ∧ (l7 = 0 → ((l9 = 0 → bv_X6_dependencyOf_178 KV27 P σ l1 l2 l3 l4 l5 s0 l7 l8 l9) ∧ (¬ l9 = 0 → vp_in ((32 * l3) + l8) 2560 ∧ ((¬ (σ.2 9 (ix ((32 * l3) + l8))) = ((-1)) → bv_X6_dependencyOf_174 KV27 P σ l1 l2 l3 l4 l5 s0 l7 l8 l9) ∧ ((σ.2 9 (ix ((32 * l3) + l8))) = ((-1)) → v_X6_stored σ (l2 - 1) l8 (fun r2 σ2 => v_X6_stored σ2 l2 l8 (fun r3 σ3 => v_X6_touchesAny σ3 l3 61 l8 r2 r3 (fun r4 σ4 => ((r4 = 0 → bv_X6_dependencyOf_178 KV27 P σ4 l1 l2 l3 l4 l5 s0 l7 l8 l9) ∧ (¬ r4 = 0 → bv_X6_dependencyOf_174 KV27 P σ4 l1 l2 l3 l4 l5 s0 l7 l8 l9)))))))))))
def bv_X6_dependencyOf_117 (KV27 : Sg → Int32 → Int32 → Int32 → Int32 → Int32 → Int32 → Int32 → Int32 → Prop) (P : Int32 → Sg → Prop) (σ : Sg) (l1 : Int32) (l2 : Int32) (l3 : Int32) (l4 : Int32) (l5 : Int32) (l6 : Int32) (l7 : Int32) (l8 : Int32) (l9 : Int32) : Prop := bv_X6_dependencyOf_118 KV27 P σ l1 l2 l3 l4 l5 l6 l7 l8 l9 0
def bv_X6_dependencyOf_113 (KV27 : Sg → Int32 → Int32 → Int32 → Int32 → Int32 → Int32 → Int32 → Int32 → Prop) (P : Int32 → Sg → Prop) (σ : Sg) (l1 : Int32) (l2 : Int32) (l3 : Int32) (l4 : Int32) (l5 : Int32) (l6 : Int32) (l7 : Int32) (l8 : Int32) (l9 : Int32) : Prop := bv_X6_dependencyOf_118 KV27 P σ l1 l2 l3 l4 l5 l6 l7 l8 l9 1
def bv_X6_dependencyOf_91 (KV27 : Sg → Int32 → Int32 → Int32 → Int32 → Int32 → Int32 → Int32 → Int32 → Prop) (P : Int32 → Sg → Prop) (σ : Sg) (l1 : Int32) (l2 : Int32) (l3 : Int32) (l4 : Int32) (l5 : Int32) (l6 : Int32) (l7 : Int32) (l8 : Int32) (l9 : Int32) (s0 : Int32) : Prop := ((¬ l6 = 0 → bv_X6_dependencyOf_113 KV27 P σ l1 l2 l3 l4 s0 l6 l7 l8 l9) ∧ (l6 = 0 → ((l9 = 0 → bv_X6_dependencyOf_117 KV27 P σ l1 l2 l3 l4 s0 l6 l7 l8 l9) ∧ (¬ l9 = 0 → v_X6_hasWritten σ l1 l8 (fun r1 σ1 => ((r1 = 0 → bv_X6_dependencyOf_117 KV27 P σ1 l1 l2 l3 l4 s0 l6 l7 l8 l9) ∧ (¬ r1 = 0 → bv_X6_dependencyOf_113 KV27 P σ1 l1 l2 l3 l4 s0 l6 l7 l8 l9)))))))
def bv_X6_dependencyOf_90 (KV27 : Sg → Int32 → Int32 → Int32 → Int32 → Int32 → Int32 → Int32 → Int32 → Prop) (P : Int32 → Sg → Prop) (σ : Sg) (l1 : Int32) (l2 : Int32) (l3 : Int32) (l4 : Int32) (l5 : Int32) (l6 : Int32) (l7 : Int32) (l8 : Int32) (l9 : Int32) : Prop := bv_X6_dependencyOf_91 KV27 P σ l1 l2 l3 l4 l5 l6 l7 l8 l9 0
def bv_X6_dependencyOf_86 (KV27 : Sg → Int32 → Int32 → Int32 → Int32 → Int32 → Int32 → Int32 → Int32 → Prop) (P : Int32 → Sg → Prop) (σ : Sg) (l1 : Int32) (l2 : Int32) (l3 : Int32) (l4 : Int32) (l5 : Int32) (l6 : Int32) (l7 : Int32) (l8 : Int32) (l9 : Int32) : Prop := bv_X6_dependencyOf_91 KV27 P σ l1 l2 l3 l4 l5 l6 l7 l8 l9 1
def bv_X6_dependencyOf_27 (P : Int32 → Sg → Prop) : Nat → Sg → Int32 → Int32 → Int32 → Int32 → Int32 → Int32 → Int32 → Int32 → Prop
  | 0 => fun _ _ _ _ _ _ _ _ _ => False
  | f + 1 => fun σ l1 l2 l3 l4 l5 l6 l7 l8 => ((32 ≤ l8 → ((l5 = 0 → bv_X6_dependencyOf_197 P σ l1 l2 l3 l4 l5 l6 l7 l8 0) ∧ (¬ l5 = 0 → bv_X6_dependencyOf_197 P σ l1 l2 l3 l4 l5 l6 l7 l8 1))) ∧ (¬ 32 ≤ l8 → v_X6_hasWritten σ l2 l8 (fun r2 σ2 => ((¬ l5 = 0 → bv_X6_dependencyOf_86 (bv_X6_dependencyOf_27 P f) P σ2 l1 l2 l3 l4 l5 l6 l7 l8 r2) ∧ (l5 = 0 → v_X6_hasWritten σ2 l1 l8 (fun r3 σ3 => ((r3 = 0 → bv_X6_dependencyOf_90 (bv_X6_dependencyOf_27 P f) P σ3 l1 l2 l3 l4 l5 l6 l7 l8 r2) ∧ (¬ r3 = 0 → vp_in ((32 * l4) + l8) 2560 ∧ (((σ3.2 9 (ix ((32 * l4) + l8))) = ((-1)) → bv_X6_dependencyOf_90 (bv_X6_dependencyOf_27 P f) P σ3 l1 l2 l3 l4 l5 l6 l7 l8 r2) ∧ (¬ (σ3.2 9 (ix ((32 * l4) + l8))) = ((-1)) → v_X6_lastWriter σ3 l8 l2 (fun r5 σ5 => ((¬ r5 = l1 → bv_X6_dependencyOf_90 (bv_X6_dependencyOf_27 P f) P σ5 l1 l2 l3 l4 l5 l6 l7 l8 r2) ∧ (r5 = l1 → bv_X6_dependencyOf_86 (bv_X6_dependencyOf_27 P f) P σ5 l1 l2 l3 l4 l5 l6 l7 l8 r2)))))))))))))
def v_X6_dependencyOf (σ : Sg) (a1 : Int32) (a2 : Int32) (P : Int32 → Sg → Prop) : Prop := vp_in a1 61 ∧ ∀ v2 : Int32, v2 = σ.2 16 (ix a1) → vp_in a2 61 ∧ ∀ v4 : Int32, v4 = σ.2 16 (ix a2) → ∃ f27, bv_X6_dependencyOf_27 P f27 σ a1 a2 v2 v4 0 0 0 0
set_option maxHeartbeats 4000000 in
theorem vr_X6_dependencyOf {m : Nat} {ad : Nat → Nat} {S : MS} {σ : Sg} {a1 : Int32} {a2 : Int32} {P : Int32 → Sg → Prop} {post : Int32 → MS → Prop} (hR : RM m ad S σ) (h : v_X6_dependencyOf σ a1 a2 P) (hpost : ∀ (r : Int32) (σ2 : Sg) (S2 : MS), P r σ2 → RM m ad S2 σ2 → Fm m ad S S2 → post r S2) : w_X6_dependencyOf S m a1 a2 post := by
  have hpost := fun r σ2 S2 h1 h2 h3 => hpost r σ2 S2 h1 h2 h3
  have hF := Fm.rf m ad S
  obtain ⟨S0, hS0⟩ : ∃ z : MS, z = S := ⟨_, rfl⟩
  rw [← hS0] at hpost
  have hF : Fm m ad S0 S := by rw [hS0]; exact hF
  have g218 : ∀ (S : MS) (σ : Sg) (l1 : Int32) (l2 : Int32) (l3 : Int32) (l4 : Int32) (l5 : Int32) (l6 : Int32) (l7 : Int32) (l8 : Int32) (s0 : Int32) (s1 : Int32), RM m ad S σ → Fm m ad S0 S → bv_X6_dependencyOf_218 P σ l1 l2 l3 l4 l5 l6 l7 l8 s0 s1 → b_X6_dependencyOf_218 post S m l1 l2 l3 l4 l5 l6 l7 l8 s0 s1 := by
    intro  S σ l1 l2 l3 l4 l5 l6 l7 l8 s0 s1 hR hF h
    unfold bv_X6_dependencyOf_218 at h
    unfold b_X6_dependencyOf_218
    try simp only [hR.1, hR.2.1, hR.2.2.1]
    exact hpost _ _ _ h hR hF
  have g207 : ∀ (S : MS) (σ : Sg) (l1 : Int32) (l2 : Int32) (l3 : Int32) (l4 : Int32) (l5 : Int32) (l6 : Int32) (l7 : Int32) (l8 : Int32) (s0 : Int32) (s1 : Int32), RM m ad S σ → Fm m ad S0 S → bv_X6_dependencyOf_207 P σ l1 l2 l3 l4 l5 l6 l7 l8 s0 s1 → b_X6_dependencyOf_207 post S m l1 l2 l3 l4 l5 l6 l7 l8 s0 s1 := by
    intro  S σ l1 l2 l3 l4 l5 l6 l7 l8 s0 s1 hR hF h
    unfold bv_X6_dependencyOf_207 at h
    unfold b_X6_dependencyOf_207
    try simp only [hR.1, hR.2.1, hR.2.2.1]
    refine ⟨fun hc1 => ?_, fun hc1 => ?_⟩
    · have h := h.1 hc1
      exact g218 _ _ _ _ _ _ _ _ _ _ _ _ hR hF h
    · have h := h.2 hc1
      exact g218 _ _ _ _ _ _ _ _ _ _ _ _ hR hF h
  have g197 : ∀ (S : MS) (σ : Sg) (l1 : Int32) (l2 : Int32) (l3 : Int32) (l4 : Int32) (l5 : Int32) (l6 : Int32) (l7 : Int32) (l8 : Int32) (s0 : Int32), RM m ad S σ → Fm m ad S0 S → bv_X6_dependencyOf_197 P σ l1 l2 l3 l4 l5 l6 l7 l8 s0 → b_X6_dependencyOf_197 post S m l1 l2 l3 l4 l5 l6 l7 l8 s0 := by
    intro  S σ l1 l2 l3 l4 l5 l6 l7 l8 s0 hR hF h
    unfold bv_X6_dependencyOf_197 at h
    unfold b_X6_dependencyOf_197
    try simp only [hR.1, hR.2.1, hR.2.2.1]
    refine ⟨fun hc1 => ?_, fun hc1 => ?_⟩
    · have h := h.1 hc1
      exact g207 _ _ _ _ _ _ _ _ _ _ _ _ hR hF h
    · have h := h.2 hc1
      exact g207 _ _ _ _ _ _ _ _ _ _ _ _ hR hF h
  have g179 : ∀ (KV27 : Sg → Int32 → Int32 → Int32 → Int32 → Int32 → Int32 → Int32 → Int32 → Prop) (KH27 : MS → Nat → Int32 → Int32 → Int32 → Int32 → Int32 → Int32 → Int32 → Int32 → Prop) (hKV27 : ∀ (S : MS) (σ : Sg) (l1 : Int32) (l2 : Int32) (l3 : Int32) (l4 : Int32) (l5 : Int32) (l6 : Int32) (l7 : Int32) (l8 : Int32), RM m ad S σ → Fm m ad S0 S → KV27 σ l1 l2 l3 l4 l5 l6 l7 l8 → KH27 S m l1 l2 l3 l4 l5 l6 l7 l8 ) (S : MS) (σ : Sg) (l1 : Int32) (l2 : Int32) (l3 : Int32) (l4 : Int32) (l5 : Int32) (l6 : Int32) (l7 : Int32) (l8 : Int32) (l9 : Int32) (s0 : Int32), RM m ad S σ → Fm m ad S0 S → bv_X6_dependencyOf_179 KV27 P σ l1 l2 l3 l4 l5 l6 l7 l8 l9 s0 → b_X6_dependencyOf_179 KH27 post S m l1 l2 l3 l4 l5 l6 l7 l8 l9 s0 := by
    intro KV27 KH27 hKV27 S σ l1 l2 l3 l4 l5 l6 l7 l8 l9 s0 hR hF h
    unfold bv_X6_dependencyOf_179 at h
    unfold b_X6_dependencyOf_179
    try simp only [hR.1, hR.2.1, hR.2.2.1]
    intro v1 hv1
    have h := h v1 hv1
    exact hKV27 _ _ _ _ _ _ _ _ _ _ hR hF h
  have g178 : ∀ (KV27 : Sg → Int32 → Int32 → Int32 → Int32 → Int32 → Int32 → Int32 → Int32 → Prop) (KH27 : MS → Nat → Int32 → Int32 → Int32 → Int32 → Int32 → Int32 → Int32 → Int32 → Prop) (hKV27 : ∀ (S : MS) (σ : Sg) (l1 : Int32) (l2 : Int32) (l3 : Int32) (l4 : Int32) (l5 : Int32) (l6 : Int32) (l7 : Int32) (l8 : Int32), RM m ad S σ → Fm m ad S0 S → KV27 σ l1 l2 l3 l4 l5 l6 l7 l8 → KH27 S m l1 l2 l3 l4 l5 l6 l7 l8 ) (S : MS) (σ : Sg) (l1 : Int32) (l2 : Int32) (l3 : Int32) (l4 : Int32) (l5 : Int32) (l6 : Int32) (l7 : Int32) (l8 : Int32) (l9 : Int32), RM m ad S σ → Fm m ad S0 S → bv_X6_dependencyOf_178 KV27 P σ l1 l2 l3 l4 l5 l6 l7 l8 l9 → b_X6_dependencyOf_178 KH27 post S m l1 l2 l3 l4 l5 l6 l7 l8 l9  := by
    intro KV27 KH27 hKV27 S σ l1 l2 l3 l4 l5 l6 l7 l8 l9 hR hF h
    unfold bv_X6_dependencyOf_178 at h
    unfold b_X6_dependencyOf_178
    try simp only [hR.1, hR.2.1, hR.2.2.1]
    exact g179 _ _ hKV27 _ _ _ _ _ _ _ _ _ _ _ _ hR hF h
  have g174 : ∀ (KV27 : Sg → Int32 → Int32 → Int32 → Int32 → Int32 → Int32 → Int32 → Int32 → Prop) (KH27 : MS → Nat → Int32 → Int32 → Int32 → Int32 → Int32 → Int32 → Int32 → Int32 → Prop) (hKV27 : ∀ (S : MS) (σ : Sg) (l1 : Int32) (l2 : Int32) (l3 : Int32) (l4 : Int32) (l5 : Int32) (l6 : Int32) (l7 : Int32) (l8 : Int32), RM m ad S σ → Fm m ad S0 S → KV27 σ l1 l2 l3 l4 l5 l6 l7 l8 → KH27 S m l1 l2 l3 l4 l5 l6 l7 l8 ) (S : MS) (σ : Sg) (l1 : Int32) (l2 : Int32) (l3 : Int32) (l4 : Int32) (l5 : Int32) (l6 : Int32) (l7 : Int32) (l8 : Int32) (l9 : Int32), RM m ad S σ → Fm m ad S0 S → bv_X6_dependencyOf_174 KV27 P σ l1 l2 l3 l4 l5 l6 l7 l8 l9 → b_X6_dependencyOf_174 KH27 post S m l1 l2 l3 l4 l5 l6 l7 l8 l9  := by
    intro KV27 KH27 hKV27 S σ l1 l2 l3 l4 l5 l6 l7 l8 l9 hR hF h
    unfold bv_X6_dependencyOf_174 at h
    unfold b_X6_dependencyOf_174
    try simp only [hR.1, hR.2.1, hR.2.2.1]
    exact g179 _ _ hKV27 _ _ _ _ _ _ _ _ _ _ _ _ hR hF h
  have g118 : ∀ (KV27 : Sg → Int32 → Int32 → Int32 → Int32 → Int32 → Int32 → Int32 → Int32 → Prop) (KH27 : MS → Nat → Int32 → Int32 → Int32 → Int32 → Int32 → Int32 → Int32 → Int32 → Prop) (hKV27 : ∀ (S : MS) (σ : Sg) (l1 : Int32) (l2 : Int32) (l3 : Int32) (l4 : Int32) (l5 : Int32) (l6 : Int32) (l7 : Int32) (l8 : Int32), RM m ad S σ → Fm m ad S0 S → KV27 σ l1 l2 l3 l4 l5 l6 l7 l8 → KH27 S m l1 l2 l3 l4 l5 l6 l7 l8 ) (S : MS) (σ : Sg) (l1 : Int32) (l2 : Int32) (l3 : Int32) (l4 : Int32) (l5 : Int32) (l6 : Int32) (l7 : Int32) (l8 : Int32) (l9 : Int32) (s0 : Int32), RM m ad S σ → Fm m ad S0 S → bv_X6_dependencyOf_118 KV27 P σ l1 l2 l3 l4 l5 l6 l7 l8 l9 s0 → b_X6_dependencyOf_118 KH27 post S m l1 l2 l3 l4 l5 l6 l7 l8 l9 s0 := by
    intro KV27 KH27 hKV27 S σ l1 l2 l3 l4 l5 l6 l7 l8 l9 s0 hR hF h
    unfold bv_X6_dependencyOf_118 at h
    unfold b_X6_dependencyOf_118
    try simp only [hR.1, hR.2.1, hR.2.2.1]
    refine ⟨fun hc8 => ?_, fun hc8 => ?_⟩
    · have h := h.1 hc8
      exact g174 _ _ hKV27 _ _ _ _ _ _ _ _ _ _ _ hR hF h
    · have h := h.2 hc8
      refine ⟨fun hc7 => ?_, fun hc7 => ?_⟩
      · have h := h.1 hc7
        exact g178 _ _ hKV27 _ _ _ _ _ _ _ _ _ _ _ hR hF h
      · have h := h.2 hc7
        refine ⟨hR.2.2.2.1, ?_⟩
        refine ⟨rm_kT hR (by decide) rfl, ?_⟩
        obtain ⟨hi1, h⟩ := h
        refine ⟨(rm_kL hR (k := 9) rfl (by decide)) ▸ hi1, ?_⟩
        refine ⟨fun hc6 => ?_, fun hc6 => ?_⟩
        · have h := h.1 hc6
          exact g174 _ _ hKV27 _ _ _ _ _ _ _ _ _ _ _ hR hF h
        · have h := h.2 hc6
          refine vr_X6_stored hR h (fun r2 σ2 S2 h hR2 hF2 => ?_)
          have hF2 := Fm.tr hF hF2
          try simp only [hR2.1, hR2.2.1, hR2.2.2.1]
          refine ⟨hR2.2.2.2.1, ?_⟩
          refine vr_X6_stored hR2 h (fun r3 σ3 S3 h hR3 hF3 => ?_)
          have hF3 := Fm.tr hF2 hF3
          try simp only [hR3.1, hR3.2.1, hR3.2.2.1]
          refine ⟨hR3.2.2.2.1, ?_⟩
          refine vr_X6_touchesAny hR3 h (fun r4 σ4 S4 h hR4 hF4 => ?_)
          have hF4 := Fm.tr hF3 hF4
          try simp only [hR4.1, hR4.2.1, hR4.2.2.1]
          refine ⟨fun hc5 => ?_, fun hc5 => ?_⟩
          · have h := h.1 hc5
            exact g178 _ _ hKV27 _ _ _ _ _ _ _ _ _ _ _ hR4 hF4 h
          · have h := h.2 hc5
            exact g174 _ _ hKV27 _ _ _ _ _ _ _ _ _ _ _ hR4 hF4 h
  have g117 : ∀ (KV27 : Sg → Int32 → Int32 → Int32 → Int32 → Int32 → Int32 → Int32 → Int32 → Prop) (KH27 : MS → Nat → Int32 → Int32 → Int32 → Int32 → Int32 → Int32 → Int32 → Int32 → Prop) (hKV27 : ∀ (S : MS) (σ : Sg) (l1 : Int32) (l2 : Int32) (l3 : Int32) (l4 : Int32) (l5 : Int32) (l6 : Int32) (l7 : Int32) (l8 : Int32), RM m ad S σ → Fm m ad S0 S → KV27 σ l1 l2 l3 l4 l5 l6 l7 l8 → KH27 S m l1 l2 l3 l4 l5 l6 l7 l8 ) (S : MS) (σ : Sg) (l1 : Int32) (l2 : Int32) (l3 : Int32) (l4 : Int32) (l5 : Int32) (l6 : Int32) (l7 : Int32) (l8 : Int32) (l9 : Int32), RM m ad S σ → Fm m ad S0 S → bv_X6_dependencyOf_117 KV27 P σ l1 l2 l3 l4 l5 l6 l7 l8 l9 → b_X6_dependencyOf_117 KH27 post S m l1 l2 l3 l4 l5 l6 l7 l8 l9  := by
    intro KV27 KH27 hKV27 S σ l1 l2 l3 l4 l5 l6 l7 l8 l9 hR hF h
    unfold bv_X6_dependencyOf_117 at h
    unfold b_X6_dependencyOf_117
    try simp only [hR.1, hR.2.1, hR.2.2.1]
    exact g118 _ _ hKV27 _ _ _ _ _ _ _ _ _ _ _ _ hR hF h
  have g113 : ∀ (KV27 : Sg → Int32 → Int32 → Int32 → Int32 → Int32 → Int32 → Int32 → Int32 → Prop) (KH27 : MS → Nat → Int32 → Int32 → Int32 → Int32 → Int32 → Int32 → Int32 → Int32 → Prop) (hKV27 : ∀ (S : MS) (σ : Sg) (l1 : Int32) (l2 : Int32) (l3 : Int32) (l4 : Int32) (l5 : Int32) (l6 : Int32) (l7 : Int32) (l8 : Int32), RM m ad S σ → Fm m ad S0 S → KV27 σ l1 l2 l3 l4 l5 l6 l7 l8 → KH27 S m l1 l2 l3 l4 l5 l6 l7 l8 ) (S : MS) (σ : Sg) (l1 : Int32) (l2 : Int32) (l3 : Int32) (l4 : Int32) (l5 : Int32) (l6 : Int32) (l7 : Int32) (l8 : Int32) (l9 : Int32), RM m ad S σ → Fm m ad S0 S → bv_X6_dependencyOf_113 KV27 P σ l1 l2 l3 l4 l5 l6 l7 l8 l9 → b_X6_dependencyOf_113 KH27 post S m l1 l2 l3 l4 l5 l6 l7 l8 l9  := by
    intro KV27 KH27 hKV27 S σ l1 l2 l3 l4 l5 l6 l7 l8 l9 hR hF h
    unfold bv_X6_dependencyOf_113 at h
    unfold b_X6_dependencyOf_113
    try simp only [hR.1, hR.2.1, hR.2.2.1]
    exact g118 _ _ hKV27 _ _ _ _ _ _ _ _ _ _ _ _ hR hF h
  have g91 : ∀ (KV27 : Sg → Int32 → Int32 → Int32 → Int32 → Int32 → Int32 → Int32 → Int32 → Prop) (KH27 : MS → Nat → Int32 → Int32 → Int32 → Int32 → Int32 → Int32 → Int32 → Int32 → Prop) (hKV27 : ∀ (S : MS) (σ : Sg) (l1 : Int32) (l2 : Int32) (l3 : Int32) (l4 : Int32) (l5 : Int32) (l6 : Int32) (l7 : Int32) (l8 : Int32), RM m ad S σ → Fm m ad S0 S → KV27 σ l1 l2 l3 l4 l5 l6 l7 l8 → KH27 S m l1 l2 l3 l4 l5 l6 l7 l8 ) (S : MS) (σ : Sg) (l1 : Int32) (l2 : Int32) (l3 : Int32) (l4 : Int32) (l5 : Int32) (l6 : Int32) (l7 : Int32) (l8 : Int32) (l9 : Int32) (s0 : Int32), RM m ad S σ → Fm m ad S0 S → bv_X6_dependencyOf_91 KV27 P σ l1 l2 l3 l4 l5 l6 l7 l8 l9 s0 → b_X6_dependencyOf_91 KH27 post S m l1 l2 l3 l4 l5 l6 l7 l8 l9 s0 := by
    intro KV27 KH27 hKV27 S σ l1 l2 l3 l4 l5 l6 l7 l8 l9 s0 hR hF h
    unfold bv_X6_dependencyOf_91 at h
    unfold b_X6_dependencyOf_91
    try simp only [hR.1, hR.2.1, hR.2.2.1]
    refine ⟨fun hc4 => ?_, fun hc4 => ?_⟩
    · have h := h.1 hc4
      exact g113 _ _ hKV27 _ _ _ _ _ _ _ _ _ _ _ hR hF h
    · have h := h.2 hc4
      refine ⟨fun hc3 => ?_, fun hc3 => ?_⟩
      · have h := h.1 hc3
        exact g117 _ _ hKV27 _ _ _ _ _ _ _ _ _ _ _ hR hF h
      · have h := h.2 hc3
        refine ⟨hR.2.2.2.1, ?_⟩
        refine vr_X6_hasWritten hR h (fun r1 σ1 S1 h hR1 hF1 => ?_)
        have hF1 := Fm.tr hF hF1
        try simp only [hR1.1, hR1.2.1, hR1.2.2.1]
        refine ⟨fun hc2 => ?_, fun hc2 => ?_⟩
        · have h := h.1 hc2
          exact g117 _ _ hKV27 _ _ _ _ _ _ _ _ _ _ _ hR1 hF1 h
        · have h := h.2 hc2
          exact g113 _ _ hKV27 _ _ _ _ _ _ _ _ _ _ _ hR1 hF1 h
  have g90 : ∀ (KV27 : Sg → Int32 → Int32 → Int32 → Int32 → Int32 → Int32 → Int32 → Int32 → Prop) (KH27 : MS → Nat → Int32 → Int32 → Int32 → Int32 → Int32 → Int32 → Int32 → Int32 → Prop) (hKV27 : ∀ (S : MS) (σ : Sg) (l1 : Int32) (l2 : Int32) (l3 : Int32) (l4 : Int32) (l5 : Int32) (l6 : Int32) (l7 : Int32) (l8 : Int32), RM m ad S σ → Fm m ad S0 S → KV27 σ l1 l2 l3 l4 l5 l6 l7 l8 → KH27 S m l1 l2 l3 l4 l5 l6 l7 l8 ) (S : MS) (σ : Sg) (l1 : Int32) (l2 : Int32) (l3 : Int32) (l4 : Int32) (l5 : Int32) (l6 : Int32) (l7 : Int32) (l8 : Int32) (l9 : Int32), RM m ad S σ → Fm m ad S0 S → bv_X6_dependencyOf_90 KV27 P σ l1 l2 l3 l4 l5 l6 l7 l8 l9 → b_X6_dependencyOf_90 KH27 post S m l1 l2 l3 l4 l5 l6 l7 l8 l9  := by
    intro KV27 KH27 hKV27 S σ l1 l2 l3 l4 l5 l6 l7 l8 l9 hR hF h
    unfold bv_X6_dependencyOf_90 at h
    unfold b_X6_dependencyOf_90
    try simp only [hR.1, hR.2.1, hR.2.2.1]
    exact g91 _ _ hKV27 _ _ _ _ _ _ _ _ _ _ _ _ hR hF h
  have g86 : ∀ (KV27 : Sg → Int32 → Int32 → Int32 → Int32 → Int32 → Int32 → Int32 → Int32 → Prop) (KH27 : MS → Nat → Int32 → Int32 → Int32 → Int32 → Int32 → Int32 → Int32 → Int32 → Prop) (hKV27 : ∀ (S : MS) (σ : Sg) (l1 : Int32) (l2 : Int32) (l3 : Int32) (l4 : Int32) (l5 : Int32) (l6 : Int32) (l7 : Int32) (l8 : Int32), RM m ad S σ → Fm m ad S0 S → KV27 σ l1 l2 l3 l4 l5 l6 l7 l8 → KH27 S m l1 l2 l3 l4 l5 l6 l7 l8 ) (S : MS) (σ : Sg) (l1 : Int32) (l2 : Int32) (l3 : Int32) (l4 : Int32) (l5 : Int32) (l6 : Int32) (l7 : Int32) (l8 : Int32) (l9 : Int32), RM m ad S σ → Fm m ad S0 S → bv_X6_dependencyOf_86 KV27 P σ l1 l2 l3 l4 l5 l6 l7 l8 l9 → b_X6_dependencyOf_86 KH27 post S m l1 l2 l3 l4 l5 l6 l7 l8 l9  := by
    intro KV27 KH27 hKV27 S σ l1 l2 l3 l4 l5 l6 l7 l8 l9 hR hF h
    unfold bv_X6_dependencyOf_86 at h
    unfold b_X6_dependencyOf_86
    try simp only [hR.1, hR.2.1, hR.2.2.1]
    exact g91 _ _ hKV27 _ _ _ _ _ _ _ _ _ _ _ _ hR hF h
  have g27 : ∀ (f : Nat) (S : MS) (σ : Sg) (l1 : Int32) (l2 : Int32) (l3 : Int32) (l4 : Int32) (l5 : Int32) (l6 : Int32) (l7 : Int32) (l8 : Int32), RM m ad S σ → Fm m ad S0 S → bv_X6_dependencyOf_27 P f σ l1 l2 l3 l4 l5 l6 l7 l8 → b_X6_dependencyOf_27 post f S m l1 l2 l3 l4 l5 l6 l7 l8  := by
    intro f
    induction f with
    | zero => intro S σ l1 l2 l3 l4 l5 l6 l7 l8 hR hF h; exact h.elim
    | succ f ih =>
      intro S σ l1 l2 l3 l4 l5 l6 l7 l8 hR hF h
      simp only [bv_X6_dependencyOf_27] at h
      simp only [b_X6_dependencyOf_27]
      try simp only [hR.1, hR.2.1, hR.2.2.1]
      refine ⟨fun hc10 => ?_, fun hc10 => ?_⟩
      · have h := h.1 hc10
        refine ⟨fun hc1 => ?_, fun hc1 => ?_⟩
        · have h := h.1 hc1
          exact g197 _ _ _ _ _ _ _ _ _ _ _ hR hF h
        · have h := h.2 hc1
          exact g197 _ _ _ _ _ _ _ _ _ _ _ hR hF h
      · have h := h.2 hc10
        refine ⟨hR.2.2.2.1, ?_⟩
        refine vr_X6_hasWritten hR h (fun r2 σ2 S2 h hR2 hF2 => ?_)
        have hF2 := Fm.tr hF hF2
        try simp only [hR2.1, hR2.2.1, hR2.2.2.1]
        refine ⟨fun hc9 => ?_, fun hc9 => ?_⟩
        · have h := h.1 hc9
          exact g86 _ _ ih _ _ _ _ _ _ _ _ _ _ _ hR2 hF2 h
        · have h := h.2 hc9
          refine ⟨hR2.2.2.2.1, ?_⟩
          refine vr_X6_hasWritten hR2 h (fun r3 σ3 S3 h hR3 hF3 => ?_)
          have hF3 := Fm.tr hF2 hF3
          try simp only [hR3.1, hR3.2.1, hR3.2.2.1]
          refine ⟨fun hc8 => ?_, fun hc8 => ?_⟩
          · have h := h.1 hc8
            exact g90 _ _ ih _ _ _ _ _ _ _ _ _ _ _ hR3 hF3 h
          · have h := h.2 hc8
            refine ⟨hR3.2.2.2.1, ?_⟩
            refine ⟨rm_kT hR3 (by decide) rfl, ?_⟩
            obtain ⟨hi4, h⟩ := h
            refine ⟨(rm_kL hR3 (k := 9) rfl (by decide)) ▸ hi4, ?_⟩
            refine ⟨fun hc7 => ?_, fun hc7 => ?_⟩
            · have h := h.1 hc7
              exact g90 _ _ ih _ _ _ _ _ _ _ _ _ _ _ hR3 hF3 h
            · have h := h.2 hc7
              refine vr_X6_lastWriter hR3 h (fun r5 σ5 S5 h hR5 hF5 => ?_)
              have hF5 := Fm.tr hF3 hF5
              try simp only [hR5.1, hR5.2.1, hR5.2.2.1]
              refine ⟨fun hc6 => ?_, fun hc6 => ?_⟩
              · have h := h.1 hc6
                exact g90 _ _ ih _ _ _ _ _ _ _ _ _ _ _ hR5 hF5 h
              · have h := h.2 hc6
                exact g86 _ _ ih _ _ _ _ _ _ _ _ _ _ _ hR5 hF5 h
  unfold v_X6_dependencyOf at h
  unfold w_X6_dependencyOf
  try simp only [hR.1, hR.2.1, hR.2.2.1]
  refine ⟨hR.2.2.2.1, ?_⟩
  refine ⟨rm_kT hR (by decide) rfl, ?_⟩
  obtain ⟨hi1, h⟩ := h
  refine ⟨(rm_kL hR (k := 16) rfl (by decide)) ▸ hi1, ?_⟩
  intro v2 hv2
  have h := h v2 hv2
  obtain ⟨hi3, h⟩ := h
  refine ⟨(rm_kL hR (k := 16) rfl (by decide)) ▸ hi3, ?_⟩
  intro v4 hv4
  have h := h v4 hv4
  obtain ⟨f27, h⟩ := h
  exact ⟨f27, g27 f27 _ _ _ _ _ _ _ _ _ _ hR hF h⟩
def bv_X6_dependency_51 (P : Int32 → Sg → Prop) (σ : Sg) (l1 : Int32) (l2 : Int32) (s0 : Int32) : Prop := P s0 σ
def bv_X6_dependency_31 (P : Int32 → Sg → Prop) (σ : Sg) (l1 : Int32) (l2 : Int32) (s0 : Int32) : Prop := ∀ σ1 : Sg, σ1 = sF σ 0 s0 → ((¬ (σ1.1 0) = 0 → bv_X6_dependency_51 P σ1 l1 l2 0) ∧ ((σ1.1 0) = 0 → v_X6_dependencyOf σ1 l1 l2 (fun r2 σ2 => bv_X6_dependency_51 P σ2 l1 l2 r2)))
def bv_X6_dependency_17 (P : Int32 → Sg → Prop) (σ : Sg) (l1 : Int32) (l2 : Int32) : Prop := bv_X6_dependency_31 P σ l1 l2 1
def v_X6_dependency (σ : Sg) (a1 : Int32) (a2 : Int32) (P : Int32 → Sg → Prop) : Prop := v_X6_isCommit σ a1 (fun r1 σ1 => ((r1 = 0 → bv_X6_dependency_17 P σ1 a1 a2) ∧ (¬ r1 = 0 → v_X6_isCommit σ1 a2 (fun r2 σ2 => ((¬ r2 = 0 → ((a1 < a2 → bv_X6_dependency_31 P σ2 a1 a2 0) ∧ (¬ a1 < a2 → bv_X6_dependency_31 P σ2 a1 a2 2))) ∧ (r2 = 0 → bv_X6_dependency_17 P σ2 a1 a2))))))
set_option maxHeartbeats 4000000 in
theorem vr_X6_dependency {m : Nat} {ad : Nat → Nat} {S : MS} {σ : Sg} {a1 : Int32} {a2 : Int32} {P : Int32 → Sg → Prop} {post : Int32 → MS → Prop} (hR : RM m ad S σ) (h : v_X6_dependency σ a1 a2 P) (hpost : ∀ (r : Int32) (σ2 : Sg) (S2 : MS), P r σ2 → RM m ad S2 σ2 → Fm m ad S S2 → post r S2) : w_X6_dependency S m a1 a2 post := by
  have hpost := fun r σ2 S2 h1 h2 h3 => hpost r σ2 S2 h1 h2 h3
  have hF := Fm.rf m ad S
  obtain ⟨S0, hS0⟩ : ∃ z : MS, z = S := ⟨_, rfl⟩
  rw [← hS0] at hpost
  have hF : Fm m ad S0 S := by rw [hS0]; exact hF
  have g51 : ∀ (S : MS) (σ : Sg) (l1 : Int32) (l2 : Int32) (s0 : Int32), RM m ad S σ → Fm m ad S0 S → bv_X6_dependency_51 P σ l1 l2 s0 → b_X6_dependency_51 post S m l1 l2 s0 := by
    intro  S σ l1 l2 s0 hR hF h
    unfold bv_X6_dependency_51 at h
    unfold b_X6_dependency_51
    try simp only [hR.1, hR.2.1, hR.2.2.1]
    exact hpost _ _ _ h hR hF
  have g31 : ∀ (S : MS) (σ : Sg) (l1 : Int32) (l2 : Int32) (s0 : Int32), RM m ad S σ → Fm m ad S0 S → bv_X6_dependency_31 P σ l1 l2 s0 → b_X6_dependency_31 post S m l1 l2 s0 m := by
    intro  S σ l1 l2 s0 hR hF h
    unfold bv_X6_dependency_31 at h
    unfold b_X6_dependency_31
    try simp only [hR.1, hR.2.1, hR.2.2.1]
    refine ⟨hR.2.2.2.1, ?_⟩
    intro S1 hS1
    obtain ⟨σ1, hσ1⟩ : ∃ z : Sg, z = sF σ 0 s0 := ⟨_, rfl⟩
    have h := h σ1 hσ1
    obtain ⟨hR1, hF1⟩ := rm_putF hR hS1 hσ1
    have hF1 := Fm.tr hF hF1
    try simp only [hR1.1, hR1.2.1, hR1.2.2.1]
    refine ⟨hR1.2.2.2.1, ?_⟩
    refine ⟨fun hc3 => ?_, fun hc3 => ?_⟩
    · have h := h.1 hc3
      exact g51 _ _ _ _ _ hR1 hF1 h
    · have h := h.2 hc3
      refine vr_X6_dependencyOf hR1 h (fun r2 σ2 S2 h hR2 hF2 => ?_)
      have hF2 := Fm.tr hF1 hF2
      try simp only [hR2.1, hR2.2.1, hR2.2.2.1]
      exact g51 _ _ _ _ _ hR2 hF2 h
  have g17 : ∀ (S : MS) (σ : Sg) (l1 : Int32) (l2 : Int32), RM m ad S σ → Fm m ad S0 S → bv_X6_dependency_17 P σ l1 l2 → b_X6_dependency_17 post S m l1 l2 m := by
    intro  S σ l1 l2 hR hF h
    unfold bv_X6_dependency_17 at h
    unfold b_X6_dependency_17
    try simp only [hR.1, hR.2.1, hR.2.2.1]
    exact g31 _ _ _ _ _ hR hF h
  unfold v_X6_dependency at h
  unfold w_X6_dependency
  try simp only [hR.1, hR.2.1, hR.2.2.1]
  refine ⟨hR.2.2.2.1, ?_⟩
  refine vr_X6_isCommit hR h (fun r1 σ1 S1 h hR1 hF1 => ?_)
  have hF1 := Fm.tr hF hF1
  try simp only [hR1.1, hR1.2.1, hR1.2.2.1]
  refine ⟨fun hc5 => ?_, fun hc5 => ?_⟩
  · have h := h.1 hc5
    exact g17 _ _ _ _ hR1 hF1 h
  · have h := h.2 hc5
    refine ⟨hR1.2.2.2.1, ?_⟩
    refine vr_X6_isCommit hR1 h (fun r2 σ2 S2 h hR2 hF2 => ?_)
    have hF2 := Fm.tr hF1 hF2
    try simp only [hR2.1, hR2.2.1, hR2.2.2.1]
    refine ⟨fun hc4 => ?_, fun hc4 => ?_⟩
    · have h := h.1 hc4
      refine ⟨fun hc3 => ?_, fun hc3 => ?_⟩
      · have h := h.1 hc3
        exact g31 _ _ _ _ _ hR2 hF2 h
      · have h := h.2 hc3
        exact g31 _ _ _ _ _ hR2 hF2 h
    · have h := h.2 hc4
      exact g17 _ _ _ _ hR2 hF2 h
def bv_X6_longestChain_71 (KV9 : Sg → Int32 → Int32 → Prop) (KV26 : Sg → Int32 → Int32 → Int32 → Prop) (P : Int32 → Sg → Prop) (σ : Sg) (l1 : Int32) (l2 : Int32) (l3 : Int32) : Prop := ∀ v1 : Int32, v1 = l3 + 1 → KV26 σ l1 l2 v1
def bv_X6_longestChain_26 (KV9 : Sg → Int32 → Int32 → Prop) (P : Int32 → Sg → Prop) : Nat → Sg → Int32 → Int32 → Int32 → Prop
  | 0 => fun _ _ _ _ => False
  | f + 1 => fun σ l1 l2 l3 => ((l2 ≤ l3 → vp_in l2 61 ∧ ∀ v2 : Int32, v2 = (if l1 < (σ.2 22 (ix l2)) then (σ.2 22 (ix l2)) else l1) → ∀ v3 : Int32, v3 = l2 + 1 → KV9 σ v2 v3) ∧ (¬ l2 ≤ l3 → vp_in l3 61 ∧ vp_in l2 61 ∧ ((((σ.2 22 (ix l3)) + 1) ≤ (σ.2 22 (ix l2)) → bv_X6_longestChain_71 KV9 (bv_X6_longestChain_26 KV9 P f) P σ l1 l2 l3) ∧ (¬ ((σ.2 22 (ix l3)) + 1) ≤ (σ.2 22 (ix l2)) → v_X6_dependencyOf σ l3 l2 (fun r6 σ6 => ((r6 = 0 → bv_X6_longestChain_71 KV9 (bv_X6_longestChain_26 KV9 P f) P σ6 l1 l2 l3) ∧ (¬ r6 = 0 → vp_in l3 61 ∧ vp_in l2 61 ∧ ∀ σ9 : Sg, σ9 = sA σ6 22 (ix l2) ((σ6.2 22 (ix l3)) + 1) → bv_X6_longestChain_71 KV9 (bv_X6_longestChain_26 KV9 P f) P σ9 l1 l2 l3)))))))
def bv_X6_longestChain_9 (P : Int32 → Sg → Prop) : Nat → Sg → Int32 → Int32 → Prop
  | 0 => fun _ _ _ => False
  | f + 1 => fun σ l1 l2 => (((σ.1 14) < l2 → P l1 σ) ∧ (¬ (σ.1 14) < l2 → vp_in l2 61 ∧ ∀ σ2 : Sg, σ2 = sA σ 22 (ix l2) 1 → ∃ f26, bv_X6_longestChain_26 (bv_X6_longestChain_9 P f) P f26 σ2 l1 l2 1))
def v_X6_longestChain (σ : Sg)  (P : Int32 → Sg → Prop) : Prop := ∀ σ1 : Sg, σ1 = sF σ 0 0 → ∃ f9, bv_X6_longestChain_9 P f9 σ1 0 1
set_option maxHeartbeats 4000000 in
theorem vr_X6_longestChain {m : Nat} {ad : Nat → Nat} {S : MS} {σ : Sg}  {P : Int32 → Sg → Prop} {post : Int32 → MS → Prop} (hR : RM m ad S σ) (h : v_X6_longestChain σ  P) (hpost : ∀ (r : Int32) (σ2 : Sg) (S2 : MS), P r σ2 → RM m ad S2 σ2 → Fm m ad S S2 → post r S2) : w_X6_longestChain S m  post := by
  have hpost := fun r σ2 S2 h1 h2 h3 => hpost r σ2 S2 h1 h2 h3
  have hF := Fm.rf m ad S
  obtain ⟨S0, hS0⟩ : ∃ z : MS, z = S := ⟨_, rfl⟩
  rw [← hS0] at hpost
  have hF : Fm m ad S0 S := by rw [hS0]; exact hF
  have g71 : ∀ (KV9 : Sg → Int32 → Int32 → Prop) (KH9 : MS → Nat → Int32 → Int32 → Prop) (hKV9 : ∀ (S : MS) (σ : Sg) (l1 : Int32) (l2 : Int32), RM m ad S σ → Fm m ad S0 S → KV9 σ l1 l2 → KH9 S m l1 l2 ) (KV26 : Sg → Int32 → Int32 → Int32 → Prop) (KH26 : MS → Nat → Int32 → Int32 → Int32 → Prop) (hKV26 : ∀ (S : MS) (σ : Sg) (l1 : Int32) (l2 : Int32) (l3 : Int32), RM m ad S σ → Fm m ad S0 S → KV26 σ l1 l2 l3 → KH26 S m l1 l2 l3 ) (S : MS) (σ : Sg) (l1 : Int32) (l2 : Int32) (l3 : Int32), RM m ad S σ → Fm m ad S0 S → bv_X6_longestChain_71 KV9 KV26 P σ l1 l2 l3 → b_X6_longestChain_71 KH9 KH26 post S m l1 l2 l3  := by
    intro KV9 KH9 hKV9 KV26 KH26 hKV26 S σ l1 l2 l3 hR hF h
    unfold bv_X6_longestChain_71 at h
    unfold b_X6_longestChain_71
    try simp only [hR.1, hR.2.1, hR.2.2.1]
    intro v1 hv1
    have h := h v1 hv1
    exact hKV26 _ _ _ _ _ hR hF h
  have g26 : ∀ (KV9 : Sg → Int32 → Int32 → Prop) (KH9 : MS → Nat → Int32 → Int32 → Prop) (hKV9 : ∀ (S : MS) (σ : Sg) (l1 : Int32) (l2 : Int32), RM m ad S σ → Fm m ad S0 S → KV9 σ l1 l2 → KH9 S m l1 l2 ) (f : Nat) (S : MS) (σ : Sg) (l1 : Int32) (l2 : Int32) (l3 : Int32), RM m ad S σ → Fm m ad S0 S → bv_X6_longestChain_26 KV9 P f σ l1 l2 l3 → b_X6_longestChain_26 KH9 post f S m l1 l2 l3  := by
    intro KV9 KH9 hKV9
    intro f
    induction f with
    | zero => intro S σ l1 l2 l3 hR hF h; exact h.elim
    | succ f ih =>
      intro S σ l1 l2 l3 hR hF h
      simp only [bv_X6_longestChain_26] at h
      simp only [b_X6_longestChain_26]
      try simp only [hR.1, hR.2.1, hR.2.2.1]
      refine ⟨fun hc12 => ?_, fun hc12 => ?_⟩
      · have h := h.1 hc12
        refine ⟨hR.2.2.2.1, ?_⟩
        refine ⟨rm_kT hR (by decide) rfl, ?_⟩
        obtain ⟨hi1, h⟩ := h
        refine ⟨(rm_kL hR (k := 22) rfl (by decide)) ▸ hi1, ?_⟩
        intro v2 hv2
        have h := h v2 hv2
        intro v3 hv3
        have h := h v3 hv3
        exact hKV9 _ _ _ _ hR hF h
      · have h := h.2 hc12
        refine ⟨hR.2.2.2.1, ?_⟩
        refine ⟨rm_kT hR (by decide) rfl, ?_⟩
        obtain ⟨hi4, h⟩ := h
        refine ⟨(rm_kL hR (k := 22) rfl (by decide)) ▸ hi4, ?_⟩
        obtain ⟨hi5, h⟩ := h
        refine ⟨(rm_kL hR (k := 22) rfl (by decide)) ▸ hi5, ?_⟩
        refine ⟨fun hc11 => ?_, fun hc11 => ?_⟩
        · have h := h.1 hc11
          exact g71 _ _ hKV9 _ _ ih _ _ _ _ _ hR hF h
        · have h := h.2 hc11
          refine vr_X6_dependencyOf hR h (fun r6 σ6 S6 h hR6 hF6 => ?_)
          have hF6 := Fm.tr hF hF6
          try simp only [hR6.1, hR6.2.1, hR6.2.2.1]
          refine ⟨fun hc10 => ?_, fun hc10 => ?_⟩
          · have h := h.1 hc10
            exact g71 _ _ hKV9 _ _ ih _ _ _ _ _ hR6 hF6 h
          · have h := h.2 hc10
            refine ⟨hR6.2.2.2.1, ?_⟩
            refine ⟨rm_kT hR6 (by decide) rfl, ?_⟩
            obtain ⟨hi7, h⟩ := h
            refine ⟨(rm_kL hR6 (k := 22) rfl (by decide)) ▸ hi7, ?_⟩
            obtain ⟨hi8, h⟩ := h
            refine ⟨(rm_kL hR6 (k := 22) rfl (by decide)) ▸ hi8, ?_⟩
            intro S9 hS9
            obtain ⟨σ9, hσ9⟩ : ∃ z : Sg, z = sA σ6 22 (ix l2) ((σ6.2 22 (ix l3)) + 1) := ⟨_, rfl⟩
            have h := h σ9 hσ9
            obtain ⟨hR9, hF9⟩ := rm_putA hR6 (k := 22) (by decide) hS9 hσ9
            have hF9 := Fm.tr hF6 hF9
            try simp only [hR9.1, hR9.2.1, hR9.2.2.1]
            exact g71 _ _ hKV9 _ _ ih _ _ _ _ _ hR9 hF9 h
  have g9 : ∀ (f : Nat) (S : MS) (σ : Sg) (l1 : Int32) (l2 : Int32), RM m ad S σ → Fm m ad S0 S → bv_X6_longestChain_9 P f σ l1 l2 → b_X6_longestChain_9 post f S m l1 l2  := by
    intro f
    induction f with
    | zero => intro S σ l1 l2 hR hF h; exact h.elim
    | succ f ih =>
      intro S σ l1 l2 hR hF h
      simp only [bv_X6_longestChain_9] at h
      simp only [b_X6_longestChain_9]
      try simp only [hR.1, hR.2.1, hR.2.2.1]
      refine ⟨hR.2.2.2.1, ?_⟩
      refine ⟨fun hc3 => ?_, fun hc3 => ?_⟩
      · have h := h.1 hc3
        exact hpost _ _ _ h hR hF
      · have h := h.2 hc3
        refine ⟨rm_kT hR (by decide) rfl, ?_⟩
        obtain ⟨hi1, h⟩ := h
        refine ⟨(rm_kL hR (k := 22) rfl (by decide)) ▸ hi1, ?_⟩
        intro S2 hS2
        obtain ⟨σ2, hσ2⟩ : ∃ z : Sg, z = sA σ 22 (ix l2) 1 := ⟨_, rfl⟩
        have h := h σ2 hσ2
        obtain ⟨hR2, hF2⟩ := rm_putA hR (k := 22) (by decide) hS2 hσ2
        have hF2 := Fm.tr hF hF2
        try simp only [hR2.1, hR2.2.1, hR2.2.2.1]
        obtain ⟨f26, h⟩ := h
        exact ⟨f26, g26 _ _ ih f26 _ _ _ _ _ hR2 hF2 h⟩
  unfold v_X6_longestChain at h
  unfold w_X6_longestChain
  try simp only [hR.1, hR.2.1, hR.2.2.1]
  refine ⟨hR.2.2.2.1, ?_⟩
  intro S1 hS1
  obtain ⟨σ1, hσ1⟩ : ∃ z : Sg, z = sF σ 0 0 := ⟨_, rfl⟩
  have h := h σ1 hσ1
  obtain ⟨hR1, hF1⟩ := rm_putF hR hS1 hσ1
  have hF1 := Fm.tr hF hF1
  try simp only [hR1.1, hR1.2.1, hR1.2.2.1]
  obtain ⟨f9, h⟩ := h
  exact ⟨f9, g9 f9 _ _ _ _ hR1 hF1 h⟩
def bv_X6_again_148 (KV116 : Sg → Int32 → Int32 → Int32 → Int32 → Int32 → Prop) (P : Int32 → Sg → Prop) (σ : Sg) (l1 : Int32) (l2 : Int32) (l3 : Int32) (l4 : Int32) (l5 : Int32) (s0 : Int32) (s1 : Int32) : Prop := ∀ v1 : Int32, v1 = s1 + s0 → ∀ v2 : Int32, v2 = l5 + 1 → KV116 σ l1 l2 l3 v1 v2
def bv_X6_again_116 (P : Int32 → Sg → Prop) : Nat → Sg → Int32 → Int32 → Int32 → Int32 → Int32 → Prop
  | 0 => fun _ _ _ _ _ _ => False
  | f + 1 => fun σ l1 l2 l3 l4 l5 => ((l3 < l5 → P l4 σ) ∧ (¬ l3 < l5 → vp_in l5 32 ∧ ((¬ (σ.2 23 (ix l5)) = ((-1000)) → vp_in l5 32 ∧ bv_X6_again_148 (bv_X6_again_116 P f) P σ l1 l2 l3 l4 l5 (σ.2 23 (ix l5)) l4) ∧ ((σ.2 23 (ix l5)) = ((-1000)) → bv_X6_again_148 (bv_X6_again_116 P f) P σ l1 l2 l3 l4 l5 0 l4))))
def bv_X6_again_101 (KV70 : Sg → Int32 → Int32 → Int32 → Int32 → Int32 → Prop) (P : Int32 → Sg → Prop) (σ : Sg) (l1 : Int32) (l2 : Int32) (l3 : Int32) (l4 : Int32) (l5 : Int32) (s0 : Int32) (s1 : Int32) : Prop := ∀ v1 : Int32, v1 = s1 + s0 → ∀ v2 : Int32, v2 = l5 + 1 → KV70 σ l1 l2 l3 v1 v2
def bv_X6_again_70 (P : Int32 → Sg → Prop) : Nat → Sg → Int32 → Int32 → Int32 → Int32 → Int32 → Prop
  | 0 => fun _ _ _ _ _ _ => False
  | f + 1 => fun σ l1 l2 l3 l4 l5 => ((l3 < l5 → P l4 σ) ∧ (¬ l3 < l5 → vp_in l5 32 ∧ vp_in (l1 + 3) 9600 ∧ (((σ.2 23 (ix l5)) < (σ.2 8 (ix (l1 + 3))) → bv_X6_again_101 (bv_X6_again_70 P f) P σ l1 l2 l3 l4 l5 0 l4) ∧ (¬ (σ.2 23 (ix l5)) < (σ.2 8 (ix (l1 + 3))) → bv_X6_again_101 (bv_X6_again_70 P f) P σ l1 l2 l3 l4 l5 1 l4))))
def v_X6_again (σ : Sg) (a1 : Int32) (P : Int32 → Sg → Prop) : Prop := vp_in (a1 + 1) 9600 ∧ ∀ v2 : Int32, v2 = σ.2 8 (ix (a1 + 1)) → vp_in (a1 + 2) 9600 ∧ ∀ v4 : Int32, v4 = σ.2 8 (ix (a1 + 2)) → vp_in a1 9600 ∧ (((σ.2 8 (ix a1)).toInt = 0 → vp_in v2 32 ∧ P (σ.2 23 (ix v2)) σ) ∧ ((σ.2 8 (ix a1)).toInt = 1 → ∃ f70, bv_X6_again_70 P f70 σ a1 v2 v4 0 v2) ∧ ((σ.2 8 (ix a1)).toInt = 2 → ∃ f116, bv_X6_again_116 P f116 σ a1 v2 v4 0 v2) ∧ ((σ.2 8 (ix a1)).toInt = 3 → vp_in v2 32 ∧ ∀ σ8 : Sg, σ8 = sA σ 23 (ix v2) v4 → P 0 σ8) ∧ ((σ.2 8 (ix a1)).toInt = 4 → vp_in v2 32 ∧ ∀ σ10 : Sg, σ10 = sA σ 23 (ix v2) ((-1000)) → P 0 σ10) ∧ ((σ.2 8 (ix a1)).toInt < 0 ∨ 4 < (σ.2 8 (ix a1)).toInt → vp_in v2 32 ∧ v_X6_addedTo σ (σ.2 23 (ix v2)) v4 (fun r12 σ12 => vp_in v2 32 ∧ ∀ σ14 : Sg, σ14 = sA σ12 23 (ix v2) r12 → vp_in v2 32 ∧ P (σ14.2 23 (ix v2)) σ14)))
set_option maxHeartbeats 4000000 in
theorem vr_X6_again {m : Nat} {ad : Nat → Nat} {S : MS} {σ : Sg} {a1 : Int32} {P : Int32 → Sg → Prop} {post : Int32 → MS → Prop} (hR : RM m ad S σ) (h : v_X6_again σ a1 P) (hpost : ∀ (r : Int32) (σ2 : Sg) (S2 : MS), P r σ2 → RM m ad S2 σ2 → Fm m ad S S2 → post r S2) : w_X6_again S m a1 post := by
  have hpost := fun r σ2 S2 h1 h2 h3 => hpost r σ2 S2 h1 h2 h3
  have hF := Fm.rf m ad S
  obtain ⟨S0, hS0⟩ : ∃ z : MS, z = S := ⟨_, rfl⟩
  rw [← hS0] at hpost
  have hF : Fm m ad S0 S := by rw [hS0]; exact hF
  have g148 : ∀ (KV116 : Sg → Int32 → Int32 → Int32 → Int32 → Int32 → Prop) (KH116 : MS → Nat → Int32 → Int32 → Int32 → Int32 → Int32 → Prop) (hKV116 : ∀ (S : MS) (σ : Sg) (l1 : Int32) (l2 : Int32) (l3 : Int32) (l4 : Int32) (l5 : Int32), RM m ad S σ → Fm m ad S0 S → KV116 σ l1 l2 l3 l4 l5 → KH116 S m l1 l2 l3 l4 l5 ) (S : MS) (σ : Sg) (l1 : Int32) (l2 : Int32) (l3 : Int32) (l4 : Int32) (l5 : Int32) (s0 : Int32) (s1 : Int32), RM m ad S σ → Fm m ad S0 S → bv_X6_again_148 KV116 P σ l1 l2 l3 l4 l5 s0 s1 → b_X6_again_148 KH116 post S m l1 l2 l3 l4 l5 s0 s1 := by
    intro KV116 KH116 hKV116 S σ l1 l2 l3 l4 l5 s0 s1 hR hF h
    unfold bv_X6_again_148 at h
    unfold b_X6_again_148
    try simp only [hR.1, hR.2.1, hR.2.2.1]
    intro v1 hv1
    have h := h v1 hv1
    intro v2 hv2
    have h := h v2 hv2
    exact hKV116 _ _ _ _ _ _ _ hR hF h
  have g116 : ∀ (f : Nat) (S : MS) (σ : Sg) (l1 : Int32) (l2 : Int32) (l3 : Int32) (l4 : Int32) (l5 : Int32), RM m ad S σ → Fm m ad S0 S → bv_X6_again_116 P f σ l1 l2 l3 l4 l5 → b_X6_again_116 post f S m l1 l2 l3 l4 l5  := by
    intro f
    induction f with
    | zero => intro S σ l1 l2 l3 l4 l5 hR hF h; exact h.elim
    | succ f ih =>
      intro S σ l1 l2 l3 l4 l5 hR hF h
      simp only [bv_X6_again_116] at h
      simp only [b_X6_again_116]
      try simp only [hR.1, hR.2.1, hR.2.2.1]
      refine ⟨fun hc4 => ?_, fun hc4 => ?_⟩
      · have h := h.1 hc4
        exact hpost _ _ _ h hR hF
      · have h := h.2 hc4
        refine ⟨hR.2.2.2.1, ?_⟩
        refine ⟨rm_kT hR (by decide) rfl, ?_⟩
        obtain ⟨hi1, h⟩ := h
        refine ⟨(rm_kL hR (k := 23) rfl (by decide)) ▸ hi1, ?_⟩
        refine ⟨fun hc3 => ?_, fun hc3 => ?_⟩
        · have h := h.1 hc3
          obtain ⟨hi2, h⟩ := h
          refine ⟨(rm_kL hR (k := 23) rfl (by decide)) ▸ hi2, ?_⟩
          exact g148 _ _ ih _ _ _ _ _ _ _ _ _ hR hF h
        · have h := h.2 hc3
          exact g148 _ _ ih _ _ _ _ _ _ _ _ _ hR hF h
  have g101 : ∀ (KV70 : Sg → Int32 → Int32 → Int32 → Int32 → Int32 → Prop) (KH70 : MS → Nat → Int32 → Int32 → Int32 → Int32 → Int32 → Prop) (hKV70 : ∀ (S : MS) (σ : Sg) (l1 : Int32) (l2 : Int32) (l3 : Int32) (l4 : Int32) (l5 : Int32), RM m ad S σ → Fm m ad S0 S → KV70 σ l1 l2 l3 l4 l5 → KH70 S m l1 l2 l3 l4 l5 ) (S : MS) (σ : Sg) (l1 : Int32) (l2 : Int32) (l3 : Int32) (l4 : Int32) (l5 : Int32) (s0 : Int32) (s1 : Int32), RM m ad S σ → Fm m ad S0 S → bv_X6_again_101 KV70 P σ l1 l2 l3 l4 l5 s0 s1 → b_X6_again_101 KH70 post S m l1 l2 l3 l4 l5 s0 s1 := by
    intro KV70 KH70 hKV70 S σ l1 l2 l3 l4 l5 s0 s1 hR hF h
    unfold bv_X6_again_101 at h
    unfold b_X6_again_101
    try simp only [hR.1, hR.2.1, hR.2.2.1]
    intro v1 hv1
    have h := h v1 hv1
    intro v2 hv2
    have h := h v2 hv2
    exact hKV70 _ _ _ _ _ _ _ hR hF h
  have g70 : ∀ (f : Nat) (S : MS) (σ : Sg) (l1 : Int32) (l2 : Int32) (l3 : Int32) (l4 : Int32) (l5 : Int32), RM m ad S σ → Fm m ad S0 S → bv_X6_again_70 P f σ l1 l2 l3 l4 l5 → b_X6_again_70 post f S m l1 l2 l3 l4 l5  := by
    intro f
    induction f with
    | zero => intro S σ l1 l2 l3 l4 l5 hR hF h; exact h.elim
    | succ f ih =>
      intro S σ l1 l2 l3 l4 l5 hR hF h
      simp only [bv_X6_again_70] at h
      simp only [b_X6_again_70]
      try simp only [hR.1, hR.2.1, hR.2.2.1]
      refine ⟨fun hc4 => ?_, fun hc4 => ?_⟩
      · have h := h.1 hc4
        exact hpost _ _ _ h hR hF
      · have h := h.2 hc4
        refine ⟨hR.2.2.2.1, ?_⟩
        refine ⟨rm_kT hR (by decide) rfl, ?_⟩
        obtain ⟨hi1, h⟩ := h
        refine ⟨(rm_kL hR (k := 23) rfl (by decide)) ▸ hi1, ?_⟩
        refine ⟨rm_kT hR (by decide) rfl, ?_⟩
        obtain ⟨hi2, h⟩ := h
        refine ⟨(rm_kL hR (k := 8) rfl (by decide)) ▸ hi2, ?_⟩
        refine ⟨fun hc3 => ?_, fun hc3 => ?_⟩
        · have h := h.1 hc3
          exact g101 _ _ ih _ _ _ _ _ _ _ _ _ hR hF h
        · have h := h.2 hc3
          exact g101 _ _ ih _ _ _ _ _ _ _ _ _ hR hF h
  unfold v_X6_again at h
  unfold w_X6_again
  try simp only [hR.1, hR.2.1, hR.2.2.1]
  refine ⟨hR.2.2.2.1, ?_⟩
  refine ⟨rm_kT hR (by decide) rfl, ?_⟩
  obtain ⟨hi1, h⟩ := h
  refine ⟨(rm_kL hR (k := 8) rfl (by decide)) ▸ hi1, ?_⟩
  intro v2 hv2
  have h := h v2 hv2
  obtain ⟨hi3, h⟩ := h
  refine ⟨(rm_kL hR (k := 8) rfl (by decide)) ▸ hi3, ?_⟩
  intro v4 hv4
  have h := h v4 hv4
  obtain ⟨hi5, h⟩ := h
  refine ⟨(rm_kL hR (k := 8) rfl (by decide)) ▸ hi5, ?_⟩
  refine ⟨fun hx => ?_, fun hx => ?_, fun hx => ?_, fun hx => ?_, fun hx => ?_, fun hx => ?_⟩
  · have h := h.1 hx
    refine ⟨rm_kT hR (by decide) rfl, ?_⟩
    obtain ⟨hi6, h⟩ := h
    refine ⟨(rm_kL hR (k := 23) rfl (by decide)) ▸ hi6, ?_⟩
    exact hpost _ _ _ h hR hF
  · have h := h.2.1 hx
    obtain ⟨f70, h⟩ := h
    exact ⟨f70, g70 f70 _ _ _ _ _ _ _ hR hF h⟩
  · have h := h.2.2.1 hx
    obtain ⟨f116, h⟩ := h
    exact ⟨f116, g116 f116 _ _ _ _ _ _ _ hR hF h⟩
  · have h := h.2.2.2.1 hx
    refine ⟨rm_kT hR (by decide) rfl, ?_⟩
    obtain ⟨hi7, h⟩ := h
    refine ⟨(rm_kL hR (k := 23) rfl (by decide)) ▸ hi7, ?_⟩
    intro S8 hS8
    obtain ⟨σ8, hσ8⟩ : ∃ z : Sg, z = sA σ 23 (ix v2) v4 := ⟨_, rfl⟩
    have h := h σ8 hσ8
    obtain ⟨hR8, hF8⟩ := rm_putA hR (k := 23) (by decide) hS8 hσ8
    have hF8 := Fm.tr hF hF8
    try simp only [hR8.1, hR8.2.1, hR8.2.2.1]
    exact hpost _ _ _ h hR8 hF8
  · have h := h.2.2.2.2.1 hx
    refine ⟨rm_kT hR (by decide) rfl, ?_⟩
    obtain ⟨hi9, h⟩ := h
    refine ⟨(rm_kL hR (k := 23) rfl (by decide)) ▸ hi9, ?_⟩
    intro S10 hS10
    obtain ⟨σ10, hσ10⟩ : ∃ z : Sg, z = sA σ 23 (ix v2) ((-1000)) := ⟨_, rfl⟩
    have h := h σ10 hσ10
    obtain ⟨hR10, hF10⟩ := rm_putA hR (k := 23) (by decide) hS10 hσ10
    have hF10 := Fm.tr hF hF10
    try simp only [hR10.1, hR10.2.1, hR10.2.2.1]
    exact hpost _ _ _ h hR10 hF10
  · have h := h.2.2.2.2.2 hx
    refine ⟨rm_kT hR (by decide) rfl, ?_⟩
    obtain ⟨hi11, h⟩ := h
    refine ⟨(rm_kL hR (k := 23) rfl (by decide)) ▸ hi11, ?_⟩
    refine vr_X6_addedTo hR h (fun r12 σ12 S12 h hR12 hF12 => ?_)
    have hF12 := Fm.tr hF hF12
    try simp only [hR12.1, hR12.2.1, hR12.2.2.1]
    refine ⟨rm_kT hR12 (by decide) rfl, ?_⟩
    obtain ⟨hi13, h⟩ := h
    refine ⟨(rm_kL hR12 (k := 23) rfl (by decide)) ▸ hi13, ?_⟩
    intro S14 hS14
    obtain ⟨σ14, hσ14⟩ : ∃ z : Sg, z = sA σ12 23 (ix v2) r12 := ⟨_, rfl⟩
    have h := h σ14 hσ14
    obtain ⟨hR14, hF14⟩ := rm_putA hR12 (k := 23) (by decide) hS14 hσ14
    have hF14 := Fm.tr hF12 hF14
    try simp only [hR14.1, hR14.2.1, hR14.2.2.1]
    refine ⟨hR14.2.2.2.1, ?_⟩
    refine ⟨rm_kT hR14 (by decide) rfl, ?_⟩
    obtain ⟨hi15, h⟩ := h
    refine ⟨(rm_kL hR14 (k := 23) rfl (by decide)) ▸ hi15, ?_⟩
    exact hpost _ _ _ h hR14 hF14
def bv_X6_hasFault_37 (P : Int32 → Sg → Prop) : Nat → Sg → Int32 → Int32 → Int32 → Prop
  | 0 => fun _ _ _ _ => False
  | f + 1 => fun σ l1 l2 l3 => vp_in l2 80 ∧ (((σ.2 7 (ix l2)) ≤ l3 → P 0 σ) ∧ (¬ (σ.2 7 (ix l2)) ≤ l3 → ∀ v2 : Int32, v2 = 5 * ((24 * l2) + l3) → v_X6_again σ v2 (fun r3 σ3 => vp_in (v2 + 4) 9600 ∧ ((r3 = (σ3.2 8 (ix (v2 + 4))) → ∀ v5 : Int32, v5 = l3 + 1 → bv_X6_hasFault_37 P f σ3 l1 l2 v5) ∧ (¬ r3 = (σ3.2 8 (ix (v2 + 4))) → P 1 σ3)))))
def bv_X6_hasFault_9 (P : Int32 → Sg → Prop) : Nat → Sg → Int32 → Int32 → Int32 → Prop
  | 0 => fun _ _ _ _ => False
  | f + 1 => fun σ l1 l2 l3 => ((32 ≤ l3 → ∃ f37, bv_X6_hasFault_37 P f37 σ l1 l2 0) ∧ (¬ 32 ≤ l3 → v_X6_stored σ (l1 - 1) l3 (fun r1 σ1 => vp_in l3 32 ∧ ∀ σ3 : Sg, σ3 = sA σ1 23 (ix l3) r1 → ∀ v4 : Int32, v4 = l3 + 1 → bv_X6_hasFault_9 P f σ3 l1 l2 v4)))
def v_X6_hasFault (σ : Sg) (a1 : Int32) (P : Int32 → Sg → Prop) : Prop := vp_in a1 61 ∧ ∀ v2 : Int32, v2 = σ.2 16 (ix a1) → ∃ f9, bv_X6_hasFault_9 P f9 σ a1 v2 0
set_option maxHeartbeats 4000000 in
theorem vr_X6_hasFault {m : Nat} {ad : Nat → Nat} {S : MS} {σ : Sg} {a1 : Int32} {P : Int32 → Sg → Prop} {post : Int32 → MS → Prop} (hR : RM m ad S σ) (h : v_X6_hasFault σ a1 P) (hpost : ∀ (r : Int32) (σ2 : Sg) (S2 : MS), P r σ2 → RM m ad S2 σ2 → Fm m ad S S2 → post r S2) : w_X6_hasFault S m a1 post := by
  have hpost := fun r σ2 S2 h1 h2 h3 => hpost r σ2 S2 h1 h2 h3
  have hF := Fm.rf m ad S
  obtain ⟨S0, hS0⟩ : ∃ z : MS, z = S := ⟨_, rfl⟩
  rw [← hS0] at hpost
  have hF : Fm m ad S0 S := by rw [hS0]; exact hF
  have g37 : ∀ (f : Nat) (S : MS) (σ : Sg) (l1 : Int32) (l2 : Int32) (l3 : Int32), RM m ad S σ → Fm m ad S0 S → bv_X6_hasFault_37 P f σ l1 l2 l3 → b_X6_hasFault_37 post f S m l1 l2 l3  := by
    intro f
    induction f with
    | zero => intro S σ l1 l2 l3 hR hF h; exact h.elim
    | succ f ih =>
      intro S σ l1 l2 l3 hR hF h
      simp only [bv_X6_hasFault_37] at h
      simp only [b_X6_hasFault_37]
      try simp only [hR.1, hR.2.1, hR.2.2.1]
      refine ⟨hR.2.2.2.1, ?_⟩
      refine ⟨rm_kT hR (by decide) rfl, ?_⟩
      obtain ⟨hi1, h⟩ := h
      refine ⟨(rm_kL hR (k := 7) rfl (by decide)) ▸ hi1, ?_⟩
      refine ⟨fun hc7 => ?_, fun hc7 => ?_⟩
      · have h := h.1 hc7
        exact hpost _ _ _ h hR hF
      · have h := h.2 hc7
        intro v2 hv2
        have h := h v2 hv2
        refine vr_X6_again hR h (fun r3 σ3 S3 h hR3 hF3 => ?_)
        have hF3 := Fm.tr hF hF3
        try simp only [hR3.1, hR3.2.1, hR3.2.2.1]
        refine ⟨hR3.2.2.2.1, ?_⟩
        refine ⟨rm_kT hR3 (by decide) rfl, ?_⟩
        obtain ⟨hi4, h⟩ := h
        refine ⟨(rm_kL hR3 (k := 8) rfl (by decide)) ▸ hi4, ?_⟩
        refine ⟨fun hc6 => ?_, fun hc6 => ?_⟩
        · have h := h.1 hc6
          intro v5 hv5
          have h := h v5 hv5
          exact ih _ _ _ _ _ hR3 hF3 h
        · have h := h.2 hc6
          exact hpost _ _ _ h hR3 hF3
  have g9 : ∀ (f : Nat) (S : MS) (σ : Sg) (l1 : Int32) (l2 : Int32) (l3 : Int32), RM m ad S σ → Fm m ad S0 S → bv_X6_hasFault_9 P f σ l1 l2 l3 → b_X6_hasFault_9 post f S m l1 l2 l3  := by
    intro f
    induction f with
    | zero => intro S σ l1 l2 l3 hR hF h; exact h.elim
    | succ f ih =>
      intro S σ l1 l2 l3 hR hF h
      simp only [bv_X6_hasFault_9] at h
      simp only [b_X6_hasFault_9]
      try simp only [hR.1, hR.2.1, hR.2.2.1]
      refine ⟨fun hc5 => ?_, fun hc5 => ?_⟩
      · have h := h.1 hc5
        obtain ⟨f37, h⟩ := h
        exact ⟨f37, g37 f37 _ _ _ _ _ hR hF h⟩
      · have h := h.2 hc5
        refine ⟨hR.2.2.2.1, ?_⟩
        refine vr_X6_stored hR h (fun r1 σ1 S1 h hR1 hF1 => ?_)
        have hF1 := Fm.tr hF hF1
        try simp only [hR1.1, hR1.2.1, hR1.2.2.1]
        refine ⟨rm_kT hR1 (by decide) rfl, ?_⟩
        obtain ⟨hi2, h⟩ := h
        refine ⟨(rm_kL hR1 (k := 23) rfl (by decide)) ▸ hi2, ?_⟩
        intro S3 hS3
        obtain ⟨σ3, hσ3⟩ : ∃ z : Sg, z = sA σ1 23 (ix l3) r1 := ⟨_, rfl⟩
        have h := h σ3 hσ3
        obtain ⟨hR3, hF3⟩ := rm_putA hR1 (k := 23) (by decide) hS3 hσ3
        have hF3 := Fm.tr hF1 hF3
        try simp only [hR3.1, hR3.2.1, hR3.2.2.1]
        intro v4 hv4
        have h := h v4 hv4
        exact ih _ _ _ _ _ hR3 hF3 h
  unfold v_X6_hasFault at h
  unfold w_X6_hasFault
  try simp only [hR.1, hR.2.1, hR.2.2.1]
  refine ⟨hR.2.2.2.1, ?_⟩
  refine ⟨rm_kT hR (by decide) rfl, ?_⟩
  obtain ⟨hi1, h⟩ := h
  refine ⟨(rm_kL hR (k := 16) rfl (by decide)) ▸ hi1, ?_⟩
  intro v2 hv2
  have h := h v2 hv2
  obtain ⟨f9, h⟩ := h
  exact ⟨f9, g9 f9 _ _ _ _ _ hR hF h⟩
def bv_X6_serialFaults_31 (KV9 : Sg → Int32 → Int32 → Prop) (P : Int32 → Sg → Prop) (σ : Sg) (l1 : Int32) (l2 : Int32) (s0 : Int32) (s1 : Int32) : Prop := ∀ v1 : Int32, v1 = s1 + s0 → ∀ v2 : Int32, v2 = l2 + 1 → KV9 σ v1 v2
def bv_X6_serialFaults_9 (P : Int32 → Sg → Prop) : Nat → Sg → Int32 → Int32 → Prop
  | 0 => fun _ _ _ => False
  | f + 1 => fun σ l1 l2 => (((σ.1 14) < l2 → P l1 σ) ∧ (¬ (σ.1 14) < l2 → v_X6_hasFault σ l2 (fun r1 σ1 => ((r1 = 0 → bv_X6_serialFaults_31 (bv_X6_serialFaults_9 P f) P σ1 l1 l2 0 l1) ∧ (¬ r1 = 0 → bv_X6_serialFaults_31 (bv_X6_serialFaults_9 P f) P σ1 l1 l2 1 l1)))))
def v_X6_serialFaults (σ : Sg)  (P : Int32 → Sg → Prop) : Prop := ∀ σ1 : Sg, σ1 = sF σ 0 0 → ∃ f9, bv_X6_serialFaults_9 P f9 σ1 0 1
set_option maxHeartbeats 4000000 in
theorem vr_X6_serialFaults {m : Nat} {ad : Nat → Nat} {S : MS} {σ : Sg}  {P : Int32 → Sg → Prop} {post : Int32 → MS → Prop} (hR : RM m ad S σ) (h : v_X6_serialFaults σ  P) (hpost : ∀ (r : Int32) (σ2 : Sg) (S2 : MS), P r σ2 → RM m ad S2 σ2 → Fm m ad S S2 → post r S2) : w_X6_serialFaults S m  post := by
  have hpost := fun r σ2 S2 h1 h2 h3 => hpost r σ2 S2 h1 h2 h3
  have hF := Fm.rf m ad S
  obtain ⟨S0, hS0⟩ : ∃ z : MS, z = S := ⟨_, rfl⟩
  rw [← hS0] at hpost
  have hF : Fm m ad S0 S := by rw [hS0]; exact hF
  have g31 : ∀ (KV9 : Sg → Int32 → Int32 → Prop) (KH9 : MS → Nat → Int32 → Int32 → Prop) (hKV9 : ∀ (S : MS) (σ : Sg) (l1 : Int32) (l2 : Int32), RM m ad S σ → Fm m ad S0 S → KV9 σ l1 l2 → KH9 S m l1 l2 ) (S : MS) (σ : Sg) (l1 : Int32) (l2 : Int32) (s0 : Int32) (s1 : Int32), RM m ad S σ → Fm m ad S0 S → bv_X6_serialFaults_31 KV9 P σ l1 l2 s0 s1 → b_X6_serialFaults_31 KH9 post S m l1 l2 s0 s1 := by
    intro KV9 KH9 hKV9 S σ l1 l2 s0 s1 hR hF h
    unfold bv_X6_serialFaults_31 at h
    unfold b_X6_serialFaults_31
    try simp only [hR.1, hR.2.1, hR.2.2.1]
    intro v1 hv1
    have h := h v1 hv1
    intro v2 hv2
    have h := h v2 hv2
    exact hKV9 _ _ _ _ hR hF h
  have g9 : ∀ (f : Nat) (S : MS) (σ : Sg) (l1 : Int32) (l2 : Int32), RM m ad S σ → Fm m ad S0 S → bv_X6_serialFaults_9 P f σ l1 l2 → b_X6_serialFaults_9 post f S m l1 l2  := by
    intro f
    induction f with
    | zero => intro S σ l1 l2 hR hF h; exact h.elim
    | succ f ih =>
      intro S σ l1 l2 hR hF h
      simp only [bv_X6_serialFaults_9] at h
      simp only [b_X6_serialFaults_9]
      try simp only [hR.1, hR.2.1, hR.2.2.1]
      refine ⟨hR.2.2.2.1, ?_⟩
      refine ⟨fun hc3 => ?_, fun hc3 => ?_⟩
      · have h := h.1 hc3
        exact hpost _ _ _ h hR hF
      · have h := h.2 hc3
        refine vr_X6_hasFault hR h (fun r1 σ1 S1 h hR1 hF1 => ?_)
        have hF1 := Fm.tr hF hF1
        try simp only [hR1.1, hR1.2.1, hR1.2.2.1]
        refine ⟨fun hc2 => ?_, fun hc2 => ?_⟩
        · have h := h.1 hc2
          exact g31 _ _ ih _ _ _ _ _ _ hR1 hF1 h
        · have h := h.2 hc2
          exact g31 _ _ ih _ _ _ _ _ _ hR1 hF1 h
  unfold v_X6_serialFaults at h
  unfold w_X6_serialFaults
  try simp only [hR.1, hR.2.1, hR.2.2.1]
  refine ⟨hR.2.2.2.1, ?_⟩
  intro S1 hS1
  obtain ⟨σ1, hσ1⟩ : ∃ z : Sg, z = sF σ 0 0 := ⟨_, rfl⟩
  have h := h σ1 hσ1
  obtain ⟨hR1, hF1⟩ := rm_putF hR hS1 hσ1
  have hF1 := Fm.tr hF hF1
  try simp only [hR1.1, hR1.2.1, hR1.2.2.1]
  obtain ⟨f9, h⟩ := h
  exact ⟨f9, g9 f9 _ _ _ _ hR1 hF1 h⟩
def bv_X6_rewind_52 (P : Int32 → Sg → Prop) : Nat → Sg → Int32 → Int32 → Int32 → Prop
  | 0 => fun _ _ _ _ => False
  | f + 1 => fun σ l1 l2 l3 => (((σ.1 14) < l3 → ∀ σ1 : Sg, σ1 = sF σ 14 l1 → P l2 σ1) ∧ (¬ (σ.1 14) < l3 → vp_in l3 61 ∧ v_X6_endWith σ (σ.2 16 (ix l3)) 6 (fun σ3 => ∀ v4 : Int32, v4 = l3 + 1 → bv_X6_rewind_52 P f σ3 l1 l2 v4)))
def bv_X6_rewind_29 (P : Int32 → Sg → Prop) (σ : Sg) (l1 : Int32) (s0 : Int32) : Prop := ∀ σ1 : Sg, σ1 = sF σ 0 s0 → (((σ1.1 0) = 0 → ∀ v2 : Int32, v2 = (σ1.1 14) - l1 → ∀ v3 : Int32, v3 = l1 + 1 → ∃ f52, bv_X6_rewind_52 P f52 σ1 l1 v2 v3) ∧ (¬ (σ1.1 0) = 0 → P 0 σ1))
def v_X6_rewind (σ : Sg) (a1 : Int32) (P : Int32 → Sg → Prop) : Prop := v_X6_isIn σ a1 0 (σ.1 14) (fun r1 σ1 => ((¬ r1 = 0 → v_X6_activeNow σ1 (fun r2 σ2 => ((r2 ≤ 0 → bv_X6_rewind_29 P σ2 a1 0) ∧ (¬ r2 ≤ 0 → bv_X6_rewind_29 P σ2 a1 2)))) ∧ (r1 = 0 → bv_X6_rewind_29 P σ1 a1 1)))
set_option maxHeartbeats 4000000 in
theorem vr_X6_rewind {m : Nat} {ad : Nat → Nat} {S : MS} {σ : Sg} {a1 : Int32} {P : Int32 → Sg → Prop} {post : Int32 → MS → Prop} (hR : RM m ad S σ) (h : v_X6_rewind σ a1 P) (hpost : ∀ (r : Int32) (σ2 : Sg) (S2 : MS), P r σ2 → RM m ad S2 σ2 → Fm m ad S S2 → post r S2) : w_X6_rewind S m a1 post := by
  have hpost := fun r σ2 S2 h1 h2 h3 => hpost r σ2 S2 h1 h2 h3
  have hF := Fm.rf m ad S
  obtain ⟨S0, hS0⟩ : ∃ z : MS, z = S := ⟨_, rfl⟩
  rw [← hS0] at hpost
  have hF : Fm m ad S0 S := by rw [hS0]; exact hF
  have g52 : ∀ (f : Nat) (S : MS) (σ : Sg) (l1 : Int32) (l2 : Int32) (l3 : Int32), RM m ad S σ → Fm m ad S0 S → bv_X6_rewind_52 P f σ l1 l2 l3 → b_X6_rewind_52 post f S m l1 l2 l3  := by
    intro f
    induction f with
    | zero => intro S σ l1 l2 l3 hR hF h; exact h.elim
    | succ f ih =>
      intro S σ l1 l2 l3 hR hF h
      simp only [bv_X6_rewind_52] at h
      simp only [b_X6_rewind_52]
      try simp only [hR.1, hR.2.1, hR.2.2.1]
      refine ⟨hR.2.2.2.1, ?_⟩
      refine ⟨fun hc5 => ?_, fun hc5 => ?_⟩
      · have h := h.1 hc5
        intro S1 hS1
        obtain ⟨σ1, hσ1⟩ : ∃ z : Sg, z = sF σ 14 l1 := ⟨_, rfl⟩
        have h := h σ1 hσ1
        obtain ⟨hR1, hF1⟩ := rm_putF hR hS1 hσ1
        have hF1 := Fm.tr hF hF1
        try simp only [hR1.1, hR1.2.1, hR1.2.2.1]
        exact hpost _ _ _ h hR1 hF1
      · have h := h.2 hc5
        refine ⟨rm_kT hR (by decide) rfl, ?_⟩
        obtain ⟨hi2, h⟩ := h
        refine ⟨(rm_kL hR (k := 16) rfl (by decide)) ▸ hi2, ?_⟩
        refine vr_X6_endWith hR h (fun σ3 S3 h hR3 hF3 => ?_)
        have hF3 := Fm.tr hF hF3
        try simp only [hR3.1, hR3.2.1, hR3.2.2.1]
        intro v4 hv4
        have h := h v4 hv4
        exact ih _ _ _ _ _ hR3 hF3 h
  have g29 : ∀ (S : MS) (σ : Sg) (l1 : Int32) (s0 : Int32), RM m ad S σ → Fm m ad S0 S → bv_X6_rewind_29 P σ l1 s0 → b_X6_rewind_29 post S m l1 s0 m := by
    intro  S σ l1 s0 hR hF h
    unfold bv_X6_rewind_29 at h
    unfold b_X6_rewind_29
    try simp only [hR.1, hR.2.1, hR.2.2.1]
    refine ⟨hR.2.2.2.1, ?_⟩
    intro S1 hS1
    obtain ⟨σ1, hσ1⟩ : ∃ z : Sg, z = sF σ 0 s0 := ⟨_, rfl⟩
    have h := h σ1 hσ1
    obtain ⟨hR1, hF1⟩ := rm_putF hR hS1 hσ1
    have hF1 := Fm.tr hF hF1
    try simp only [hR1.1, hR1.2.1, hR1.2.2.1]
    refine ⟨hR1.2.2.2.1, ?_⟩
    refine ⟨fun hc4 => ?_, fun hc4 => ?_⟩
    · have h := h.1 hc4
      intro v2 hv2
      have h := h v2 hv2
      intro v3 hv3
      have h := h v3 hv3
      obtain ⟨f52, h⟩ := h
      exact ⟨f52, g52 f52 _ _ _ _ _ hR1 hF1 h⟩
    · have h := h.2 hc4
      exact hpost _ _ _ h hR1 hF1
  unfold v_X6_rewind at h
  unfold w_X6_rewind
  try simp only [hR.1, hR.2.1, hR.2.2.1]
  refine ⟨hR.2.2.2.1, ?_⟩
  refine vr_X6_isIn hR h (fun r1 σ1 S1 h hR1 hF1 => ?_)
  have hF1 := Fm.tr hF hF1
  try simp only [hR1.1, hR1.2.1, hR1.2.2.1]
  refine ⟨fun hc4 => ?_, fun hc4 => ?_⟩
  · have h := h.1 hc4
    refine ⟨hR1.2.2.2.1, ?_⟩
    refine vr_X6_activeNow hR1 h (fun r2 σ2 S2 h hR2 hF2 => ?_)
    have hF2 := Fm.tr hF1 hF2
    try simp only [hR2.1, hR2.2.1, hR2.2.2.1]
    refine ⟨fun hc3 => ?_, fun hc3 => ?_⟩
    · have h := h.1 hc3
      exact g29 _ _ _ _ hR2 hF2 h
    · have h := h.2 hc3
      exact g29 _ _ _ _ hR2 hF2 h
  · have h := h.2 hc4
    exact g29 _ _ _ _ hR1 hF1 h
def bv_X6_addConstraint_22 (P : Int32 → Sg → Prop) (σ : Sg) (l1 : Int32) (l2 : Int32) (l3 : Int32) (l4 : Int32) : Prop := v_X6_fail σ 1 (fun r1 σ1 => P r1 σ1)
def v_X6_addConstraint (σ : Sg) (a1 : Int32) (a2 : Int32) (a3 : Int32) (a4 : Int32) (P : Int32 → Sg → Prop) : Prop := ∀ σ1 : Sg, σ1 = sF σ 0 0 → v_X6_isIn σ1 a1 0 2 (fun r2 σ2 => ((r2 = 0 → bv_X6_addConstraint_22 P σ2 a1 a2 a3 a4) ∧ (¬ r2 = 0 → v_X6_isRange σ2 a2 a3 (fun r3 σ3 => ((¬ r3 = 0 → ((¬ (σ3.1 21) = 3 → ∀ v4 : Int32, v4 = 4 * (σ3.1 21) → vp_in v4 12 ∧ ∀ σ6 : Sg, σ6 = sA σ3 20 (ix v4) a1 → vp_in (v4 + 1) 12 ∧ ∀ σ8 : Sg, σ8 = sA σ6 20 (ix (v4 + 1)) a2 → vp_in (v4 + 2) 12 ∧ ∀ σ10 : Sg, σ10 = sA σ8 20 (ix (v4 + 2)) a3 → vp_in (v4 + 3) 12 ∧ ∀ σ12 : Sg, σ12 = sA σ10 20 (ix (v4 + 3)) a4 → v_X6_isViolated σ12 (σ12.1 21) ((-1)) (fun r13 σ13 => ((r13 = 0 → ∀ σ14 : Sg, σ14 = sF σ13 21 ((σ13.1 21) + 1) → P ((σ14.1 21) - 1) σ14) ∧ (¬ r13 = 0 → v_X6_fail σ13 2 (fun r15 σ15 => P r15 σ15))))) ∧ ((σ3.1 21) = 3 → v_X6_fail σ3 2 (fun r17 σ17 => P r17 σ17)))) ∧ (r3 = 0 → bv_X6_addConstraint_22 P σ3 a1 a2 a3 a4))))))
set_option maxHeartbeats 4000000 in
theorem vr_X6_addConstraint {m : Nat} {ad : Nat → Nat} {S : MS} {σ : Sg} {a1 : Int32} {a2 : Int32} {a3 : Int32} {a4 : Int32} {P : Int32 → Sg → Prop} {post : Int32 → MS → Prop} (hR : RM m ad S σ) (h : v_X6_addConstraint σ a1 a2 a3 a4 P) (hpost : ∀ (r : Int32) (σ2 : Sg) (S2 : MS), P r σ2 → RM m ad S2 σ2 → Fm m ad S S2 → post r S2) : w_X6_addConstraint S m a1 a2 a3 a4 post := by
  have hpost := fun r σ2 S2 h1 h2 h3 => hpost r σ2 S2 h1 h2 h3
  have hF := Fm.rf m ad S
  obtain ⟨S0, hS0⟩ : ∃ z : MS, z = S := ⟨_, rfl⟩
  rw [← hS0] at hpost
  have hF : Fm m ad S0 S := by rw [hS0]; exact hF
  have g22 : ∀ (S : MS) (σ : Sg) (l1 : Int32) (l2 : Int32) (l3 : Int32) (l4 : Int32), RM m ad S σ → Fm m ad S0 S → bv_X6_addConstraint_22 P σ l1 l2 l3 l4 → b_X6_addConstraint_22 post S m l1 l2 l3 l4  := by
    intro  S σ l1 l2 l3 l4 hR hF h
    unfold bv_X6_addConstraint_22 at h
    unfold b_X6_addConstraint_22
    try simp only [hR.1, hR.2.1, hR.2.2.1]
    refine ⟨hR.2.2.2.1, ?_⟩
    refine vr_X6_fail hR h (fun r1 σ1 S1 h hR1 hF1 => ?_)
    have hF1 := Fm.tr hF hF1
    try simp only [hR1.1, hR1.2.1, hR1.2.2.1]
    exact hpost _ _ _ h hR1 hF1
  unfold v_X6_addConstraint at h
  unfold w_X6_addConstraint
  try simp only [hR.1, hR.2.1, hR.2.2.1]
  refine ⟨hR.2.2.2.1, ?_⟩
  intro S1 hS1
  obtain ⟨σ1, hσ1⟩ : ∃ z : Sg, z = sF σ 0 0 := ⟨_, rfl⟩
  have h := h σ1 hσ1
  obtain ⟨hR1, hF1⟩ := rm_putF hR hS1 hσ1
  have hF1 := Fm.tr hF hF1
  try simp only [hR1.1, hR1.2.1, hR1.2.2.1]
  refine vr_X6_isIn hR1 h (fun r2 σ2 S2 h hR2 hF2 => ?_)
  have hF2 := Fm.tr hF1 hF2
  try simp only [hR2.1, hR2.2.1, hR2.2.2.1]
  refine ⟨fun hc20 => ?_, fun hc20 => ?_⟩
  · have h := h.1 hc20
    exact g22 _ _ _ _ _ _ hR2 hF2 h
  · have h := h.2 hc20
    refine vr_X6_isRange hR2 h (fun r3 σ3 S3 h hR3 hF3 => ?_)
    have hF3 := Fm.tr hF2 hF3
    try simp only [hR3.1, hR3.2.1, hR3.2.2.1]
    refine ⟨fun hc19 => ?_, fun hc19 => ?_⟩
    · have h := h.1 hc19
      refine ⟨hR3.2.2.2.1, ?_⟩
      refine ⟨fun hc18 => ?_, fun hc18 => ?_⟩
      · have h := h.1 hc18
        intro v4 hv4
        have h := h v4 hv4
        refine ⟨rm_kT hR3 (by decide) rfl, ?_⟩
        obtain ⟨hi5, h⟩ := h
        refine ⟨(rm_kL hR3 (k := 20) rfl (by decide)) ▸ hi5, ?_⟩
        intro S6 hS6
        obtain ⟨σ6, hσ6⟩ : ∃ z : Sg, z = sA σ3 20 (ix v4) a1 := ⟨_, rfl⟩
        have h := h σ6 hσ6
        obtain ⟨hR6, hF6⟩ := rm_putA hR3 (k := 20) (by decide) hS6 hσ6
        have hF6 := Fm.tr hF3 hF6
        try simp only [hR6.1, hR6.2.1, hR6.2.2.1]
        refine ⟨rm_kT hR6 (by decide) rfl, ?_⟩
        obtain ⟨hi7, h⟩ := h
        refine ⟨(rm_kL hR6 (k := 20) rfl (by decide)) ▸ hi7, ?_⟩
        intro S8 hS8
        obtain ⟨σ8, hσ8⟩ : ∃ z : Sg, z = sA σ6 20 (ix (v4 + 1)) a2 := ⟨_, rfl⟩
        have h := h σ8 hσ8
        obtain ⟨hR8, hF8⟩ := rm_putA hR6 (k := 20) (by decide) hS8 hσ8
        have hF8 := Fm.tr hF6 hF8
        try simp only [hR8.1, hR8.2.1, hR8.2.2.1]
        refine ⟨rm_kT hR8 (by decide) rfl, ?_⟩
        obtain ⟨hi9, h⟩ := h
        refine ⟨(rm_kL hR8 (k := 20) rfl (by decide)) ▸ hi9, ?_⟩
        intro S10 hS10
        obtain ⟨σ10, hσ10⟩ : ∃ z : Sg, z = sA σ8 20 (ix (v4 + 2)) a3 := ⟨_, rfl⟩
        have h := h σ10 hσ10
        obtain ⟨hR10, hF10⟩ := rm_putA hR8 (k := 20) (by decide) hS10 hσ10
        have hF10 := Fm.tr hF8 hF10
        try simp only [hR10.1, hR10.2.1, hR10.2.2.1]
        refine ⟨rm_kT hR10 (by decide) rfl, ?_⟩
        obtain ⟨hi11, h⟩ := h
        refine ⟨(rm_kL hR10 (k := 20) rfl (by decide)) ▸ hi11, ?_⟩
        intro S12 hS12
        obtain ⟨σ12, hσ12⟩ : ∃ z : Sg, z = sA σ10 20 (ix (v4 + 3)) a4 := ⟨_, rfl⟩
        have h := h σ12 hσ12
        obtain ⟨hR12, hF12⟩ := rm_putA hR10 (k := 20) (by decide) hS12 hσ12
        have hF12 := Fm.tr hF10 hF12
        try simp only [hR12.1, hR12.2.1, hR12.2.2.1]
        refine vr_X6_isViolated hR12 h (fun r13 σ13 S13 h hR13 hF13 => ?_)
        have hF13 := Fm.tr hF12 hF13
        try simp only [hR13.1, hR13.2.1, hR13.2.2.1]
        refine ⟨fun hc16 => ?_, fun hc16 => ?_⟩
        · have h := h.1 hc16
          refine ⟨hR13.2.2.2.1, ?_⟩
          intro S14 hS14
          obtain ⟨σ14, hσ14⟩ : ∃ z : Sg, z = sF σ13 21 ((σ13.1 21) + 1) := ⟨_, rfl⟩
          have h := h σ14 hσ14
          obtain ⟨hR14, hF14⟩ := rm_putF hR13 hS14 hσ14
          have hF14 := Fm.tr hF13 hF14
          try simp only [hR14.1, hR14.2.1, hR14.2.2.1]
          exact hpost _ _ _ h hR14 hF14
        · have h := h.2 hc16
          refine ⟨hR13.2.2.2.1, ?_⟩
          refine vr_X6_fail hR13 h (fun r15 σ15 S15 h hR15 hF15 => ?_)
          have hF15 := Fm.tr hF13 hF15
          try simp only [hR15.1, hR15.2.1, hR15.2.2.1]
          exact hpost _ _ _ h hR15 hF15
      · have h := h.2 hc18
        refine vr_X6_fail hR3 h (fun r17 σ17 S17 h hR17 hF17 => ?_)
        have hF17 := Fm.tr hF3 hF17
        try simp only [hR17.1, hR17.2.1, hR17.2.2.1]
        exact hpost _ _ _ h hR17 hF17
    · have h := h.2 hc19
      exact g22 _ _ _ _ _ _ hR3 hF3 h
def v_X6_clearConstraints (σ : Sg)  (P : Int32 → Sg → Prop) : Prop := ∀ σ1 : Sg, σ1 = sF σ 0 0 → ∀ v2 : Int32, v2 = σ1.1 21 → ∀ σ3 : Sg, σ3 = sF σ1 21 0 → P v2 σ3
set_option maxHeartbeats 4000000 in
theorem vr_X6_clearConstraints {m : Nat} {ad : Nat → Nat} {S : MS} {σ : Sg}  {P : Int32 → Sg → Prop} {post : Int32 → MS → Prop} (hR : RM m ad S σ) (h : v_X6_clearConstraints σ  P) (hpost : ∀ (r : Int32) (σ2 : Sg) (S2 : MS), P r σ2 → RM m ad S2 σ2 → Fm m ad S S2 → post r S2) : w_X6_clearConstraints S m  post := by
  have hpost := fun r σ2 S2 h1 h2 h3 => hpost r σ2 S2 h1 h2 h3
  have hF := Fm.rf m ad S
  obtain ⟨S0, hS0⟩ : ∃ z : MS, z = S := ⟨_, rfl⟩
  rw [← hS0] at hpost
  have hF : Fm m ad S0 S := by rw [hS0]; exact hF
  unfold v_X6_clearConstraints at h
  unfold w_X6_clearConstraints
  try simp only [hR.1, hR.2.1, hR.2.2.1]
  refine ⟨hR.2.2.2.1, ?_⟩
  intro S1 hS1
  obtain ⟨σ1, hσ1⟩ : ∃ z : Sg, z = sF σ 0 0 := ⟨_, rfl⟩
  have h := h σ1 hσ1
  obtain ⟨hR1, hF1⟩ := rm_putF hR hS1 hσ1
  have hF1 := Fm.tr hF hF1
  try simp only [hR1.1, hR1.2.1, hR1.2.2.1]
  intro v2 hv2
  have h := h v2 hv2
  intro S3 hS3
  obtain ⟨σ3, hσ3⟩ : ∃ z : Sg, z = sF σ1 21 0 := ⟨_, rfl⟩
  have h := h σ3 hσ3
  obtain ⟨hR3, hF3⟩ := rm_putF hR1 hS3 hσ3
  have hF3 := Fm.tr hF1 hF3
  try simp only [hR3.1, hR3.2.1, hR3.2.2.1]
  exact hpost _ _ _ h hR3 hF3
def bv_X6_countOf_46 (KV5 : Sg → Int32 → Int32 → Int32 → Int32 → Prop) (P : Int32 → Sg → Prop) (σ : Sg) (l1 : Int32) (l2 : Int32) (l3 : Int32) (l4 : Int32) (s0 : Int32) (s1 : Int32) : Prop := ∀ v1 : Int32, v1 = s1 + s0 → ∀ v2 : Int32, v2 = l4 + 1 → KV5 σ l1 l2 v1 v2
def bv_X6_countOf_45 (KV5 : Sg → Int32 → Int32 → Int32 → Int32 → Prop) (P : Int32 → Sg → Prop) (σ : Sg) (l1 : Int32) (l2 : Int32) (l3 : Int32) (l4 : Int32) (s0 : Int32) : Prop := bv_X6_countOf_46 KV5 P σ l1 l2 l3 l4 0 s0
def bv_X6_countOf_41 (KV5 : Sg → Int32 → Int32 → Int32 → Int32 → Prop) (P : Int32 → Sg → Prop) (σ : Sg) (l1 : Int32) (l2 : Int32) (l3 : Int32) (l4 : Int32) (s0 : Int32) : Prop := bv_X6_countOf_46 KV5 P σ l1 l2 l3 l4 1 s0
def bv_X6_countOf_5 (P : Int32 → Sg → Prop) : Nat → Sg → Int32 → Int32 → Int32 → Int32 → Prop
  | 0 => fun _ _ _ _ _ => False
  | f + 1 => fun σ l1 l2 l3 l4 => (((σ.1 1) ≤ l4 → P l3 σ) ∧ (¬ (σ.1 1) ≤ l4 → vp_in l4 80 ∧ ((¬ (σ.2 2 (ix l4)) = l1 → bv_X6_countOf_45 (bv_X6_countOf_5 P f) P σ l1 l2 l3 l4 l3) ∧ ((σ.2 2 (ix l4)) = l1 → ((l2 = 0 → bv_X6_countOf_41 (bv_X6_countOf_5 P f) P σ l1 l2 l3 l4 l3) ∧ (¬ l2 = 0 → vp_in l4 80 ∧ ((¬ (σ.2 4 (ix l4)) = l2 → bv_X6_countOf_45 (bv_X6_countOf_5 P f) P σ l1 l2 l3 l4 l3) ∧ ((σ.2 4 (ix l4)) = l2 → bv_X6_countOf_41 (bv_X6_countOf_5 P f) P σ l1 l2 l3 l4 l3))))))))
def v_X6_countOf (σ : Sg) (a1 : Int32) (a2 : Int32) (P : Int32 → Sg → Prop) : Prop := ∃ f5, bv_X6_countOf_5 P f5 σ a1 a2 0 0
set_option maxHeartbeats 4000000 in
theorem vr_X6_countOf {m : Nat} {ad : Nat → Nat} {S : MS} {σ : Sg} {a1 : Int32} {a2 : Int32} {P : Int32 → Sg → Prop} {post : Int32 → MS → Prop} (hR : RM m ad S σ) (h : v_X6_countOf σ a1 a2 P) (hpost : ∀ (r : Int32) (σ2 : Sg) (S2 : MS), P r σ2 → RM m ad S2 σ2 → Fm m ad S S2 → post r S2) : w_X6_countOf S m a1 a2 post := by
  have hpost := fun r σ2 S2 h1 h2 h3 => hpost r σ2 S2 h1 h2 h3
  have hF := Fm.rf m ad S
  obtain ⟨S0, hS0⟩ : ∃ z : MS, z = S := ⟨_, rfl⟩
  rw [← hS0] at hpost
  have hF : Fm m ad S0 S := by rw [hS0]; exact hF
  have g46 : ∀ (KV5 : Sg → Int32 → Int32 → Int32 → Int32 → Prop) (KH5 : MS → Nat → Int32 → Int32 → Int32 → Int32 → Prop) (hKV5 : ∀ (S : MS) (σ : Sg) (l1 : Int32) (l2 : Int32) (l3 : Int32) (l4 : Int32), RM m ad S σ → Fm m ad S0 S → KV5 σ l1 l2 l3 l4 → KH5 S m l1 l2 l3 l4 ) (S : MS) (σ : Sg) (l1 : Int32) (l2 : Int32) (l3 : Int32) (l4 : Int32) (s0 : Int32) (s1 : Int32), RM m ad S σ → Fm m ad S0 S → bv_X6_countOf_46 KV5 P σ l1 l2 l3 l4 s0 s1 → b_X6_countOf_46 KH5 post S m l1 l2 l3 l4 s0 s1 := by
    intro KV5 KH5 hKV5 S σ l1 l2 l3 l4 s0 s1 hR hF h
    unfold bv_X6_countOf_46 at h
    unfold b_X6_countOf_46
    try simp only [hR.1, hR.2.1, hR.2.2.1]
    intro v1 hv1
    have h := h v1 hv1
    intro v2 hv2
    have h := h v2 hv2
    exact hKV5 _ _ _ _ _ _ hR hF h
  have g45 : ∀ (KV5 : Sg → Int32 → Int32 → Int32 → Int32 → Prop) (KH5 : MS → Nat → Int32 → Int32 → Int32 → Int32 → Prop) (hKV5 : ∀ (S : MS) (σ : Sg) (l1 : Int32) (l2 : Int32) (l3 : Int32) (l4 : Int32), RM m ad S σ → Fm m ad S0 S → KV5 σ l1 l2 l3 l4 → KH5 S m l1 l2 l3 l4 ) (S : MS) (σ : Sg) (l1 : Int32) (l2 : Int32) (l3 : Int32) (l4 : Int32) (s0 : Int32), RM m ad S σ → Fm m ad S0 S → bv_X6_countOf_45 KV5 P σ l1 l2 l3 l4 s0 → b_X6_countOf_45 KH5 post S m l1 l2 l3 l4 s0 := by
    intro KV5 KH5 hKV5 S σ l1 l2 l3 l4 s0 hR hF h
    unfold bv_X6_countOf_45 at h
    unfold b_X6_countOf_45
    try simp only [hR.1, hR.2.1, hR.2.2.1]
    exact g46 _ _ hKV5 _ _ _ _ _ _ _ _ hR hF h
  have g41 : ∀ (KV5 : Sg → Int32 → Int32 → Int32 → Int32 → Prop) (KH5 : MS → Nat → Int32 → Int32 → Int32 → Int32 → Prop) (hKV5 : ∀ (S : MS) (σ : Sg) (l1 : Int32) (l2 : Int32) (l3 : Int32) (l4 : Int32), RM m ad S σ → Fm m ad S0 S → KV5 σ l1 l2 l3 l4 → KH5 S m l1 l2 l3 l4 ) (S : MS) (σ : Sg) (l1 : Int32) (l2 : Int32) (l3 : Int32) (l4 : Int32) (s0 : Int32), RM m ad S σ → Fm m ad S0 S → bv_X6_countOf_41 KV5 P σ l1 l2 l3 l4 s0 → b_X6_countOf_41 KH5 post S m l1 l2 l3 l4 s0 := by
    intro KV5 KH5 hKV5 S σ l1 l2 l3 l4 s0 hR hF h
    unfold bv_X6_countOf_41 at h
    unfold b_X6_countOf_41
    try simp only [hR.1, hR.2.1, hR.2.2.1]
    exact g46 _ _ hKV5 _ _ _ _ _ _ _ _ hR hF h
  have g5 : ∀ (f : Nat) (S : MS) (σ : Sg) (l1 : Int32) (l2 : Int32) (l3 : Int32) (l4 : Int32), RM m ad S σ → Fm m ad S0 S → bv_X6_countOf_5 P f σ l1 l2 l3 l4 → b_X6_countOf_5 post f S m l1 l2 l3 l4  := by
    intro f
    induction f with
    | zero => intro S σ l1 l2 l3 l4 hR hF h; exact h.elim
    | succ f ih =>
      intro S σ l1 l2 l3 l4 hR hF h
      simp only [bv_X6_countOf_5] at h
      simp only [b_X6_countOf_5]
      try simp only [hR.1, hR.2.1, hR.2.2.1]
      refine ⟨hR.2.2.2.1, ?_⟩
      refine ⟨fun hc6 => ?_, fun hc6 => ?_⟩
      · have h := h.1 hc6
        exact hpost _ _ _ h hR hF
      · have h := h.2 hc6
        refine ⟨rm_kT hR (by decide) rfl, ?_⟩
        obtain ⟨hi1, h⟩ := h
        refine ⟨(rm_kL hR (k := 2) rfl (by decide)) ▸ hi1, ?_⟩
        refine ⟨fun hc5 => ?_, fun hc5 => ?_⟩
        · have h := h.1 hc5
          exact g45 _ _ ih _ _ _ _ _ _ _ hR hF h
        · have h := h.2 hc5
          refine ⟨fun hc4 => ?_, fun hc4 => ?_⟩
          · have h := h.1 hc4
            exact g41 _ _ ih _ _ _ _ _ _ _ hR hF h
          · have h := h.2 hc4
            refine ⟨rm_kT hR (by decide) rfl, ?_⟩
            obtain ⟨hi2, h⟩ := h
            refine ⟨(rm_kL hR (k := 4) rfl (by decide)) ▸ hi2, ?_⟩
            refine ⟨fun hc3 => ?_, fun hc3 => ?_⟩
            · have h := h.1 hc3
              exact g45 _ _ ih _ _ _ _ _ _ _ hR hF h
            · have h := h.2 hc3
              exact g41 _ _ ih _ _ _ _ _ _ _ hR hF h
  unfold v_X6_countOf at h
  unfold w_X6_countOf
  try simp only [hR.1, hR.2.1, hR.2.2.1]
  obtain ⟨f5, h⟩ := h
  exact ⟨f5, g5 f5 _ _ _ _ _ _ hR hF h⟩
def bv_X6_aborts_29 (P : Int32 → Sg → Prop) (σ : Sg) (l1 : Int32) (s0 : Int32) : Prop := P s0 σ
def v_X6_aborts (σ : Sg) (a1 : Int32) (P : Int32 → Sg → Prop) : Prop := ∀ σ1 : Sg, σ1 = sF σ 0 0 → v_X6_isIn σ1 a1 1 6 (fun r2 σ2 => ((r2 = 0 → v_X6_fail σ2 1 (fun r3 σ3 => bv_X6_aborts_29 P σ3 a1 r3)) ∧ (¬ r2 = 0 → v_X6_countOf σ2 2 a1 (fun r4 σ4 => bv_X6_aborts_29 P σ4 a1 r4))))
set_option maxHeartbeats 4000000 in
theorem vr_X6_aborts {m : Nat} {ad : Nat → Nat} {S : MS} {σ : Sg} {a1 : Int32} {P : Int32 → Sg → Prop} {post : Int32 → MS → Prop} (hR : RM m ad S σ) (h : v_X6_aborts σ a1 P) (hpost : ∀ (r : Int32) (σ2 : Sg) (S2 : MS), P r σ2 → RM m ad S2 σ2 → Fm m ad S S2 → post r S2) : w_X6_aborts S m a1 post := by
  have hpost := fun r σ2 S2 h1 h2 h3 => hpost r σ2 S2 h1 h2 h3
  have hF := Fm.rf m ad S
  obtain ⟨S0, hS0⟩ : ∃ z : MS, z = S := ⟨_, rfl⟩
  rw [← hS0] at hpost
  have hF : Fm m ad S0 S := by rw [hS0]; exact hF
  have g29 : ∀ (S : MS) (σ : Sg) (l1 : Int32) (s0 : Int32), RM m ad S σ → Fm m ad S0 S → bv_X6_aborts_29 P σ l1 s0 → b_X6_aborts_29 post S m l1 s0 := by
    intro  S σ l1 s0 hR hF h
    unfold bv_X6_aborts_29 at h
    unfold b_X6_aborts_29
    try simp only [hR.1, hR.2.1, hR.2.2.1]
    exact hpost _ _ _ h hR hF
  unfold v_X6_aborts at h
  unfold w_X6_aborts
  try simp only [hR.1, hR.2.1, hR.2.2.1]
  refine ⟨hR.2.2.2.1, ?_⟩
  intro S1 hS1
  obtain ⟨σ1, hσ1⟩ : ∃ z : Sg, z = sF σ 0 0 := ⟨_, rfl⟩
  have h := h σ1 hσ1
  obtain ⟨hR1, hF1⟩ := rm_putF hR hS1 hσ1
  have hF1 := Fm.tr hF hF1
  try simp only [hR1.1, hR1.2.1, hR1.2.2.1]
  refine vr_X6_isIn hR1 h (fun r2 σ2 S2 h hR2 hF2 => ?_)
  have hF2 := Fm.tr hF1 hF2
  try simp only [hR2.1, hR2.2.1, hR2.2.2.1]
  refine ⟨fun hc5 => ?_, fun hc5 => ?_⟩
  · have h := h.1 hc5
    refine ⟨hR2.2.2.2.1, ?_⟩
    refine vr_X6_fail hR2 h (fun r3 σ3 S3 h hR3 hF3 => ?_)
    have hF3 := Fm.tr hF2 hF3
    try simp only [hR3.1, hR3.2.1, hR3.2.2.1]
    exact g29 _ _ _ _ hR3 hF3 h
  · have h := h.2 hc5
    refine ⟨hR2.2.2.2.1, ?_⟩
    refine vr_X6_countOf hR2 h (fun r4 σ4 S4 h hR4 hF4 => ?_)
    have hF4 := Fm.tr hF2 hF4
    try simp only [hR4.1, hR4.2.1, hR4.2.2.1]
    exact g29 _ _ _ _ hR4 hF4 h
def bv_X6_averageAttempts_71 (P : UInt64 → Sg → Prop) (σ : Sg) (l1 : Int32) (l2 : Int32) (s0 : UInt64) : Prop := P s0 σ
def bv_X6_averageAttempts_38 (KV9 : Sg → Int32 → Int32 → Prop) (P : UInt64 → Sg → Prop) (σ : Sg) (l1 : Int32) (l2 : Int32) (s0 : Int32) (s1 : Int32) : Prop := ∀ v1 : Int32, v1 = s1 + s0 → ∀ v2 : Int32, v2 = l2 + 1 → KV9 σ v1 v2
def bv_X6_averageAttempts_9 (P : UInt64 → Sg → Prop) : Nat → Sg → Int32 → Int32 → Prop
  | 0 => fun _ _ _ => False
  | f + 1 => fun σ l1 l2 => (((σ.1 1) ≤ l2 → v_X6_countOf σ 1 0 (fun r1 σ1 => ((¬ r1 = 0 → vf_n64 (FP.ddiv (FP.i2d l1) (FP.i2d r1)) ∧ bv_X6_averageAttempts_71 P σ1 l1 r1 (FP.ddiv (FP.i2d l1) (FP.i2d r1))) ∧ (r1 = 0 → v_X6_fail σ1 1 (fun r3 σ3 => bv_X6_averageAttempts_71 P σ3 l1 r1 (FP.i2d r3)))))) ∧ (¬ (σ.1 1) ≤ l2 → vp_in l2 80 ∧ ((¬ (σ.2 2 (ix l2)) = 1 → bv_X6_averageAttempts_38 (bv_X6_averageAttempts_9 P f) P σ l1 l2 0 l1) ∧ ((σ.2 2 (ix l2)) = 1 → vp_in l2 80 ∧ bv_X6_averageAttempts_38 (bv_X6_averageAttempts_9 P f) P σ l1 l2 (σ.2 3 (ix l2)) l1))))
def v_X6_averageAttempts (σ : Sg)  (P : UInt64 → Sg → Prop) : Prop := ∀ σ1 : Sg, σ1 = sF σ 0 0 → ∃ f9, bv_X6_averageAttempts_9 P f9 σ1 0 0
set_option maxHeartbeats 4000000 in
theorem vr_X6_averageAttempts {m : Nat} {ad : Nat → Nat} {S : MS} {σ : Sg}  {P : UInt64 → Sg → Prop} {post : UInt64 → MS → Prop} (hR : RM m ad S σ) (h : v_X6_averageAttempts σ  P) (hpost : ∀ (r : UInt64) (σ2 : Sg) (S2 : MS), P r σ2 → RM m ad S2 σ2 → Fm m ad S S2 → post r S2) : w_X6_averageAttempts S m  post := by
  have hpost := fun r σ2 S2 h1 h2 h3 => hpost r σ2 S2 h1 h2 h3
  have hF := Fm.rf m ad S
  obtain ⟨S0, hS0⟩ : ∃ z : MS, z = S := ⟨_, rfl⟩
  rw [← hS0] at hpost
  have hF : Fm m ad S0 S := by rw [hS0]; exact hF
  have g71 : ∀ (S : MS) (σ : Sg) (l1 : Int32) (l2 : Int32) (s0 : UInt64), RM m ad S σ → Fm m ad S0 S → bv_X6_averageAttempts_71 P σ l1 l2 s0 → b_X6_averageAttempts_71 post S m l1 l2 s0 := by
    intro  S σ l1 l2 s0 hR hF h
    unfold bv_X6_averageAttempts_71 at h
    unfold b_X6_averageAttempts_71
    try simp only [hR.1, hR.2.1, hR.2.2.1]
    exact hpost _ _ _ h hR hF
  have g38 : ∀ (KV9 : Sg → Int32 → Int32 → Prop) (KH9 : MS → Nat → Int32 → Int32 → Prop) (hKV9 : ∀ (S : MS) (σ : Sg) (l1 : Int32) (l2 : Int32), RM m ad S σ → Fm m ad S0 S → KV9 σ l1 l2 → KH9 S m l1 l2 ) (S : MS) (σ : Sg) (l1 : Int32) (l2 : Int32) (s0 : Int32) (s1 : Int32), RM m ad S σ → Fm m ad S0 S → bv_X6_averageAttempts_38 KV9 P σ l1 l2 s0 s1 → b_X6_averageAttempts_38 KH9 post S m l1 l2 s0 s1 := by
    intro KV9 KH9 hKV9 S σ l1 l2 s0 s1 hR hF h
    unfold bv_X6_averageAttempts_38 at h
    unfold b_X6_averageAttempts_38
    try simp only [hR.1, hR.2.1, hR.2.2.1]
    intro v1 hv1
    have h := h v1 hv1
    intro v2 hv2
    have h := h v2 hv2
    exact hKV9 _ _ _ _ hR hF h
  have g9 : ∀ (f : Nat) (S : MS) (σ : Sg) (l1 : Int32) (l2 : Int32), RM m ad S σ → Fm m ad S0 S → bv_X6_averageAttempts_9 P f σ l1 l2 → b_X6_averageAttempts_9 post f S m l1 l2  := by
    intro f
    induction f with
    | zero => intro S σ l1 l2 hR hF h; exact h.elim
    | succ f ih =>
      intro S σ l1 l2 hR hF h
      simp only [bv_X6_averageAttempts_9] at h
      simp only [b_X6_averageAttempts_9]
      try simp only [hR.1, hR.2.1, hR.2.2.1]
      refine ⟨hR.2.2.2.1, ?_⟩
      refine ⟨fun hc8 => ?_, fun hc8 => ?_⟩
      · have h := h.1 hc8
        refine vr_X6_countOf hR h (fun r1 σ1 S1 h hR1 hF1 => ?_)
        have hF1 := Fm.tr hF hF1
        try simp only [hR1.1, hR1.2.1, hR1.2.2.1]
        refine ⟨fun hc4 => ?_, fun hc4 => ?_⟩
        · have h := h.1 hc4
          obtain ⟨hn2, h⟩ := h
          refine ⟨hn2, ?_⟩
          exact g71 _ _ _ _ _ hR1 hF1 h
        · have h := h.2 hc4
          refine ⟨hR1.2.2.2.1, ?_⟩
          refine vr_X6_fail hR1 h (fun r3 σ3 S3 h hR3 hF3 => ?_)
          have hF3 := Fm.tr hF1 hF3
          try simp only [hR3.1, hR3.2.1, hR3.2.2.1]
          exact g71 _ _ _ _ _ hR3 hF3 h
      · have h := h.2 hc8
        refine ⟨rm_kT hR (by decide) rfl, ?_⟩
        obtain ⟨hi5, h⟩ := h
        refine ⟨(rm_kL hR (k := 2) rfl (by decide)) ▸ hi5, ?_⟩
        refine ⟨fun hc7 => ?_, fun hc7 => ?_⟩
        · have h := h.1 hc7
          exact g38 _ _ ih _ _ _ _ _ _ hR hF h
        · have h := h.2 hc7
          refine ⟨rm_kT hR (by decide) rfl, ?_⟩
          obtain ⟨hi6, h⟩ := h
          refine ⟨(rm_kL hR (k := 3) rfl (by decide)) ▸ hi6, ?_⟩
          exact g38 _ _ ih _ _ _ _ _ _ hR hF h
  unfold v_X6_averageAttempts at h
  unfold w_X6_averageAttempts
  try simp only [hR.1, hR.2.1, hR.2.2.1]
  refine ⟨hR.2.2.2.1, ?_⟩
  intro S1 hS1
  obtain ⟨σ1, hσ1⟩ : ∃ z : Sg, z = sF σ 0 0 := ⟨_, rfl⟩
  have h := h σ1 hσ1
  obtain ⟨hR1, hF1⟩ := rm_putF hR hS1 hσ1
  have hF1 := Fm.tr hF hF1
  try simp only [hR1.1, hR1.2.1, hR1.2.2.1]
  obtain ⟨f9, h⟩ := h
  exact ⟨f9, g9 f9 _ _ _ _ hR1 hF1 h⟩
def bv_X6_abortRate_38 (P : UInt32 → Sg → Prop) (σ : Sg) (l1 : Int32) (s0 : UInt32) : Prop := P s0 σ
def v_X6_abortRate (σ : Sg)  (P : UInt32 → Sg → Prop) : Prop := ∀ σ1 : Sg, σ1 = sF σ 0 0 → v_X6_activeNow σ1 (fun r2 σ2 => ∀ v3 : Int32, v3 = (σ1.1 1) - r2 → ((¬ v3 = 0 → v_X6_countOf σ2 2 0 (fun r4 σ4 => vf_n32 (FP.fdiv (FP.i2f r4) (FP.i2f v3)) ∧ bv_X6_abortRate_38 P σ4 v3 (FP.fdiv (FP.i2f r4) (FP.i2f v3)))) ∧ (v3 = 0 → v_X6_fail σ2 1 (fun r6 σ6 => bv_X6_abortRate_38 P σ6 v3 (FP.i2f r6)))))
set_option maxHeartbeats 4000000 in
theorem vr_X6_abortRate {m : Nat} {ad : Nat → Nat} {S : MS} {σ : Sg}  {P : UInt32 → Sg → Prop} {post : UInt32 → MS → Prop} (hR : RM m ad S σ) (h : v_X6_abortRate σ  P) (hpost : ∀ (r : UInt32) (σ2 : Sg) (S2 : MS), P r σ2 → RM m ad S2 σ2 → Fm m ad S S2 → post r S2) : w_X6_abortRate S m  post := by
  have hpost := fun r σ2 S2 h1 h2 h3 => hpost r σ2 S2 h1 h2 h3
  have hF := Fm.rf m ad S
  obtain ⟨S0, hS0⟩ : ∃ z : MS, z = S := ⟨_, rfl⟩
  rw [← hS0] at hpost
  have hF : Fm m ad S0 S := by rw [hS0]; exact hF
  have g38 : ∀ (S : MS) (σ : Sg) (l1 : Int32) (s0 : UInt32), RM m ad S σ → Fm m ad S0 S → bv_X6_abortRate_38 P σ l1 s0 → b_X6_abortRate_38 post S m l1 s0 := by
    intro  S σ l1 s0 hR hF h
    unfold bv_X6_abortRate_38 at h
    unfold b_X6_abortRate_38
    try simp only [hR.1, hR.2.1, hR.2.2.1]
    exact hpost _ _ _ h hR hF
  unfold v_X6_abortRate at h
  unfold w_X6_abortRate
  try simp only [hR.1, hR.2.1, hR.2.2.1]
  refine ⟨hR.2.2.2.1, ?_⟩
  intro S1 hS1
  obtain ⟨σ1, hσ1⟩ : ∃ z : Sg, z = sF σ 0 0 := ⟨_, rfl⟩
  have h := h σ1 hσ1
  obtain ⟨hR1, hF1⟩ := rm_putF hR hS1 hσ1
  have hF1 := Fm.tr hF hF1
  try simp only [hR1.1, hR1.2.1, hR1.2.2.1]
  refine vr_X6_activeNow hR1 h (fun r2 σ2 S2 h hR2 hF2 => ?_)
  have hF2 := Fm.tr hF1 hF2
  try simp only [hR2.1, hR2.2.1, hR2.2.2.1]
  intro v3 hv3
  have h := h v3 hv3
  refine ⟨fun hc7 => ?_, fun hc7 => ?_⟩
  · have h := h.1 hc7
    refine ⟨hR2.2.2.2.1, ?_⟩
    refine vr_X6_countOf hR2 h (fun r4 σ4 S4 h hR4 hF4 => ?_)
    have hF4 := Fm.tr hF2 hF4
    try simp only [hR4.1, hR4.2.1, hR4.2.2.1]
    obtain ⟨hn5, h⟩ := h
    refine ⟨hn5, ?_⟩
    exact g38 _ _ _ _ hR4 hF4 h
  · have h := h.2 hc7
    refine ⟨hR2.2.2.2.1, ?_⟩
    refine vr_X6_fail hR2 h (fun r6 σ6 S6 h hR6 hF6 => ?_)
    have hF6 := Fm.tr hF2 hF6
    try simp only [hR6.1, hR6.2.1, hR6.2.2.1]
    exact g38 _ _ _ _ hR6 hF6 h
def v_X6_appendCharacter (σ : Sg) (a1 : Int32) (P : Int32 → Sg → Prop) : Prop := ∀ σ1 : Sg, σ1 = sF σ 0 0 → v_X6_isIn σ1 a1 33 126 (fun r2 σ2 => ((¬ r2 = 0 → ((¬ (σ2.1 25) = 60 → vp_in (σ2.1 25) 60 ∧ ∀ σ4 : Sg, σ4 = sA σ2 24 (ix (σ2.1 25)) a1 → ∀ σ5 : Sg, σ5 = sF σ4 25 ((σ4.1 25) + 1) → P (σ5.1 25) σ5) ∧ ((σ2.1 25) = 60 → v_X6_fail σ2 2 (fun r6 σ6 => P r6 σ6)))) ∧ (r2 = 0 → v_X6_fail σ2 1 (fun r8 σ8 => P r8 σ8))))
set_option maxHeartbeats 4000000 in
theorem vr_X6_appendCharacter {m : Nat} {ad : Nat → Nat} {S : MS} {σ : Sg} {a1 : Int32} {P : Int32 → Sg → Prop} {post : Int32 → MS → Prop} (hR : RM m ad S σ) (h : v_X6_appendCharacter σ a1 P) (hpost : ∀ (r : Int32) (σ2 : Sg) (S2 : MS), P r σ2 → RM m ad S2 σ2 → Fm m ad S S2 → post r S2) : w_X6_appendCharacter S m a1 post := by
  have hpost := fun r σ2 S2 h1 h2 h3 => hpost r σ2 S2 h1 h2 h3
  have hF := Fm.rf m ad S
  obtain ⟨S0, hS0⟩ : ∃ z : MS, z = S := ⟨_, rfl⟩
  rw [← hS0] at hpost
  have hF : Fm m ad S0 S := by rw [hS0]; exact hF
  unfold v_X6_appendCharacter at h
  unfold w_X6_appendCharacter
  try simp only [hR.1, hR.2.1, hR.2.2.1]
  refine ⟨hR.2.2.2.1, ?_⟩
  intro S1 hS1
  obtain ⟨σ1, hσ1⟩ : ∃ z : Sg, z = sF σ 0 0 := ⟨_, rfl⟩
  have h := h σ1 hσ1
  obtain ⟨hR1, hF1⟩ := rm_putF hR hS1 hσ1
  have hF1 := Fm.tr hF hF1
  try simp only [hR1.1, hR1.2.1, hR1.2.2.1]
  refine vr_X6_isIn hR1 h (fun r2 σ2 S2 h hR2 hF2 => ?_)
  have hF2 := Fm.tr hF1 hF2
  try simp only [hR2.1, hR2.2.1, hR2.2.2.1]
  refine ⟨fun hc9 => ?_, fun hc9 => ?_⟩
  · have h := h.1 hc9
    refine ⟨hR2.2.2.2.1, ?_⟩
    refine ⟨fun hc7 => ?_, fun hc7 => ?_⟩
    · have h := h.1 hc7
      refine ⟨rm_kT hR2 (by decide) rfl, ?_⟩
      obtain ⟨hi3, h⟩ := h
      refine ⟨(rm_kL hR2 (k := 24) rfl (by decide)) ▸ hi3, ?_⟩
      intro S4 hS4
      obtain ⟨σ4, hσ4⟩ : ∃ z : Sg, z = sA σ2 24 (ix (σ2.1 25)) a1 := ⟨_, rfl⟩
      have h := h σ4 hσ4
      obtain ⟨hR4, hF4⟩ := rm_putA hR2 (k := 24) (by decide) hS4 hσ4
      have hF4 := Fm.tr hF2 hF4
      try simp only [hR4.1, hR4.2.1, hR4.2.2.1]
      intro S5 hS5
      obtain ⟨σ5, hσ5⟩ : ∃ z : Sg, z = sF σ4 25 ((σ4.1 25) + 1) := ⟨_, rfl⟩
      have h := h σ5 hσ5
      obtain ⟨hR5, hF5⟩ := rm_putF hR4 hS5 hσ5
      have hF5 := Fm.tr hF4 hF5
      try simp only [hR5.1, hR5.2.1, hR5.2.2.1]
      exact hpost _ _ _ h hR5 hF5
    · have h := h.2 hc7
      refine vr_X6_fail hR2 h (fun r6 σ6 S6 h hR6 hF6 => ?_)
      have hF6 := Fm.tr hF2 hF6
      try simp only [hR6.1, hR6.2.1, hR6.2.2.1]
      exact hpost _ _ _ h hR6 hF6
  · have h := h.2 hc9
    refine ⟨hR2.2.2.2.1, ?_⟩
    refine vr_X6_fail hR2 h (fun r8 σ8 S8 h hR8 hF8 => ?_)
    have hF8 := Fm.tr hF2 hF8
    try simp only [hR8.1, hR8.2.1, hR8.2.2.1]
    exact hpost _ _ _ h hR8 hF8
def bv_X6_sign_24 (P : Int32 → Sg → Prop) (σ : Sg) (s0 : Int32) : Prop := P s0 σ
def v_X6_sign (σ : Sg)  (P : Int32 → Sg → Prop) : Prop := (((σ.1 26) ≤ (σ.1 27) → bv_X6_sign_24 P σ ((-1))) ∧ (¬ (σ.1 26) ≤ (σ.1 27) → vp_in (σ.1 27) 60 ∧ bv_X6_sign_24 P σ (σ.2 24 (ix (σ.1 27)))))
set_option maxHeartbeats 4000000 in
theorem vr_X6_sign {m : Nat} {ad : Nat → Nat} {S : MS} {σ : Sg}  {P : Int32 → Sg → Prop} {post : Int32 → MS → Prop} (hR : RM m ad S σ) (h : v_X6_sign σ  P) (hpost : ∀ (r : Int32) (σ2 : Sg) (S2 : MS), P r σ2 → RM m ad S2 σ2 → Fm m ad S S2 → post r S2) : w_X6_sign S m  post := by
  have hpost := fun r σ2 S2 h1 h2 h3 => hpost r σ2 S2 h1 h2 h3
  have hF := Fm.rf m ad S
  obtain ⟨S0, hS0⟩ : ∃ z : MS, z = S := ⟨_, rfl⟩
  rw [← hS0] at hpost
  have hF : Fm m ad S0 S := by rw [hS0]; exact hF
  have g24 : ∀ (S : MS) (σ : Sg) (s0 : Int32), RM m ad S σ → Fm m ad S0 S → bv_X6_sign_24 P σ s0 → b_X6_sign_24 post S m s0 := by
    intro  S σ s0 hR hF h
    unfold bv_X6_sign_24 at h
    unfold b_X6_sign_24
    try simp only [hR.1, hR.2.1, hR.2.2.1]
    exact hpost _ _ _ h hR hF
  unfold v_X6_sign at h
  unfold w_X6_sign
  try simp only [hR.1, hR.2.1, hR.2.2.1]
  refine ⟨hR.2.2.2.1, ?_⟩
  refine ⟨fun hc2 => ?_, fun hc2 => ?_⟩
  · have h := h.1 hc2
    exact g24 _ _ _ hR hF h
  · have h := h.2 hc2
    refine ⟨rm_kT hR (by decide) rfl, ?_⟩
    obtain ⟨hi1, h⟩ := h
    refine ⟨(rm_kL hR (k := 24) rfl (by decide)) ▸ hi1, ?_⟩
    exact g24 _ _ _ hR hF h
def bv_X6_goes_36 (P : Int32 → Sg → Prop) (σ : Sg) (l1 : Int32) (l2 : Int32) (s0 : Int32) (s1 : Int32) : Prop := ∀ σ1 : Sg, σ1 = sF σ 27 (s1 + s0) → narrow .boolean (.int l2) = .int l2 ∧ P l2 σ1
def bv_X6_goes_21 (P : Int32 → Sg → Prop) (σ : Sg) (l1 : Int32) (s0 : Int32) : Prop := ((s0 = 0 → bv_X6_goes_36 P σ l1 s0 0 (σ.1 27)) ∧ (¬ s0 = 0 → bv_X6_goes_36 P σ l1 s0 1 (σ.1 27)))
def bv_X6_goes_20 (P : Int32 → Sg → Prop) (σ : Sg) (l1 : Int32) : Prop := bv_X6_goes_21 P σ l1 0
def v_X6_goes (σ : Sg) (a1 : Int32) (P : Int32 → Sg → Prop) : Prop := ((¬ (σ.1 28) = ((-1)) → bv_X6_goes_20 P σ a1) ∧ ((σ.1 28) = ((-1)) → v_X6_sign σ (fun r1 σ1 => ((¬ r1 = a1 → bv_X6_goes_20 P σ1 a1) ∧ (r1 = a1 → bv_X6_goes_21 P σ1 a1 1)))))
set_option maxHeartbeats 4000000 in
theorem vr_X6_goes {m : Nat} {ad : Nat → Nat} {S : MS} {σ : Sg} {a1 : Int32} {P : Int32 → Sg → Prop} {post : Int32 → MS → Prop} (hR : RM m ad S σ) (h : v_X6_goes σ a1 P) (hpost : ∀ (r : Int32) (σ2 : Sg) (S2 : MS), P r σ2 → RM m ad S2 σ2 → Fm m ad S S2 → post r S2) : w_X6_goes S m a1 post := by
  have hpost := fun r σ2 S2 h1 h2 h3 => hpost r σ2 S2 h1 h2 h3
  have hF := Fm.rf m ad S
  obtain ⟨S0, hS0⟩ : ∃ z : MS, z = S := ⟨_, rfl⟩
  rw [← hS0] at hpost
  have hF : Fm m ad S0 S := by rw [hS0]; exact hF
  have g36 : ∀ (S : MS) (σ : Sg) (l1 : Int32) (l2 : Int32) (s0 : Int32) (s1 : Int32), RM m ad S σ → Fm m ad S0 S → bv_X6_goes_36 P σ l1 l2 s0 s1 → b_X6_goes_36 post S m l1 l2 s0 s1 m := by
    intro  S σ l1 l2 s0 s1 hR hF h
    unfold bv_X6_goes_36 at h
    unfold b_X6_goes_36
    try simp only [hR.1, hR.2.1, hR.2.2.1]
    refine ⟨hR.2.2.2.1, ?_⟩
    intro S1 hS1
    obtain ⟨σ1, hσ1⟩ : ∃ z : Sg, z = sF σ 27 (s1 + s0) := ⟨_, rfl⟩
    have h := h σ1 hσ1
    obtain ⟨hR1, hF1⟩ := rm_putF hR hS1 hσ1
    have hF1 := Fm.tr hF hF1
    try simp only [hR1.1, hR1.2.1, hR1.2.2.1]
    obtain ⟨hz, h⟩ := h
    exact ⟨hz, hpost _ _ _ h hR1 hF1⟩
  have g21 : ∀ (S : MS) (σ : Sg) (l1 : Int32) (s0 : Int32), RM m ad S σ → Fm m ad S0 S → bv_X6_goes_21 P σ l1 s0 → b_X6_goes_21 post S m l1 s0 := by
    intro  S σ l1 s0 hR hF h
    unfold bv_X6_goes_21 at h
    unfold b_X6_goes_21
    try simp only [hR.1, hR.2.1, hR.2.2.1]
    refine ⟨hR.2.2.2.1, ?_⟩
    refine ⟨fun hc1 => ?_, fun hc1 => ?_⟩
    · have h := h.1 hc1
      exact g36 _ _ _ _ _ _ hR hF h
    · have h := h.2 hc1
      exact g36 _ _ _ _ _ _ hR hF h
  have g20 : ∀ (S : MS) (σ : Sg) (l1 : Int32), RM m ad S σ → Fm m ad S0 S → bv_X6_goes_20 P σ l1 → b_X6_goes_20 post S m l1  := by
    intro  S σ l1 hR hF h
    unfold bv_X6_goes_20 at h
    unfold b_X6_goes_20
    try simp only [hR.1, hR.2.1, hR.2.2.1]
    exact g21 _ _ _ _ hR hF h
  unfold v_X6_goes at h
  unfold w_X6_goes
  try simp only [hR.1, hR.2.1, hR.2.2.1]
  refine ⟨hR.2.2.2.1, ?_⟩
  refine ⟨fun hc3 => ?_, fun hc3 => ?_⟩
  · have h := h.1 hc3
    exact g20 _ _ _ hR hF h
  · have h := h.2 hc3
    refine vr_X6_sign hR h (fun r1 σ1 S1 h hR1 hF1 => ?_)
    have hF1 := Fm.tr hF hF1
    try simp only [hR1.1, hR1.2.1, hR1.2.2.1]
    refine ⟨fun hc2 => ?_, fun hc2 => ?_⟩
    · have h := h.1 hc2
      exact g20 _ _ _ hR1 hF1 h
    · have h := h.2 hc2
      exact g21 _ _ _ _ hR1 hF1 h
def bv_X6_fault_20 (P : Sg → Prop) (σ : Sg) (s0 : Int32) : Prop := ∀ σ1 : Sg, σ1 = sF σ 28 s0 → P σ1
def v_X6_fault (σ : Sg)  (P : Sg → Prop) : Prop := ((¬ (σ.1 28) = ((-1)) → bv_X6_fault_20 P σ (σ.1 28)) ∧ ((σ.1 28) = ((-1)) → bv_X6_fault_20 P σ (σ.1 27)))
set_option maxHeartbeats 4000000 in
theorem vr_X6_fault {m : Nat} {ad : Nat → Nat} {S : MS} {σ : Sg}  {P : Sg → Prop} {post : MS → Prop} (hR : RM m ad S σ) (h : v_X6_fault σ  P) (hpost : ∀ (σ2 : Sg) (S2 : MS), P σ2 → RM m ad S2 σ2 → Fm m ad S S2 → post S2) : w_X6_fault S m  post := by
  have hpost := fun σ2 S2 h1 h2 h3 => hpost σ2 S2 h1 h2 h3
  have hF := Fm.rf m ad S
  obtain ⟨S0, hS0⟩ : ∃ z : MS, z = S := ⟨_, rfl⟩
  rw [← hS0] at hpost
  have hF : Fm m ad S0 S := by rw [hS0]; exact hF
  have g20 : ∀ (S : MS) (σ : Sg) (s0 : Int32), RM m ad S σ → Fm m ad S0 S → bv_X6_fault_20 P σ s0 → b_X6_fault_20 post S m s0 m := by
    intro  S σ s0 hR hF h
    unfold bv_X6_fault_20 at h
    unfold b_X6_fault_20
    try simp only [hR.1, hR.2.1, hR.2.2.1]
    refine ⟨hR.2.2.2.1, ?_⟩
    intro S1 hS1
    obtain ⟨σ1, hσ1⟩ : ∃ z : Sg, z = sF σ 28 s0 := ⟨_, rfl⟩
    have h := h σ1 hσ1
    obtain ⟨hR1, hF1⟩ := rm_putF hR hS1 hσ1
    have hF1 := Fm.tr hF hF1
    try simp only [hR1.1, hR1.2.1, hR1.2.2.1]
    exact hpost _ _ h hR1 hF1
  unfold v_X6_fault at h
  unfold w_X6_fault
  try simp only [hR.1, hR.2.1, hR.2.2.1]
  refine ⟨hR.2.2.2.1, ?_⟩
  refine ⟨fun hc1 => ?_, fun hc1 => ?_⟩
  · have h := h.1 hc1
    exact g20 _ _ _ hR hF h
  · have h := h.2 hc1
    exact g20 _ _ _ hR hF h
def bv_X6_expect_12 (P : Sg → Prop) (σ : Sg) (l1 : Int32) : Prop := P σ
def v_X6_expect (σ : Sg) (a1 : Int32) (P : Sg → Prop) : Prop := v_X6_goes σ a1 (fun r1 σ1 => ((¬ r1 = 0 → bv_X6_expect_12 P σ1 a1) ∧ (r1 = 0 → v_X6_fault σ1 (fun σ2 => bv_X6_expect_12 P σ2 a1))))
set_option maxHeartbeats 4000000 in
theorem vr_X6_expect {m : Nat} {ad : Nat → Nat} {S : MS} {σ : Sg} {a1 : Int32} {P : Sg → Prop} {post : MS → Prop} (hR : RM m ad S σ) (h : v_X6_expect σ a1 P) (hpost : ∀ (σ2 : Sg) (S2 : MS), P σ2 → RM m ad S2 σ2 → Fm m ad S S2 → post S2) : w_X6_expect S m a1 post := by
  have hpost := fun σ2 S2 h1 h2 h3 => hpost σ2 S2 h1 h2 h3
  have hF := Fm.rf m ad S
  obtain ⟨S0, hS0⟩ : ∃ z : MS, z = S := ⟨_, rfl⟩
  rw [← hS0] at hpost
  have hF : Fm m ad S0 S := by rw [hS0]; exact hF
  have g12 : ∀ (S : MS) (σ : Sg) (l1 : Int32), RM m ad S σ → Fm m ad S0 S → bv_X6_expect_12 P σ l1 → b_X6_expect_12 post S m l1  := by
    intro  S σ l1 hR hF h
    unfold bv_X6_expect_12 at h
    unfold b_X6_expect_12
    try simp only [hR.1, hR.2.1, hR.2.2.1]
    exact hpost _ _ h hR hF
  unfold v_X6_expect at h
  unfold w_X6_expect
  try simp only [hR.1, hR.2.1, hR.2.2.1]
  refine ⟨hR.2.2.2.1, ?_⟩
  refine vr_X6_goes hR h (fun r1 σ1 S1 h hR1 hF1 => ?_)
  have hF1 := Fm.tr hF hF1
  try simp only [hR1.1, hR1.2.1, hR1.2.2.1]
  refine ⟨fun hc3 => ?_, fun hc3 => ?_⟩
  · have h := h.1 hc3
    exact g12 _ _ _ hR1 hF1 h
  · have h := h.2 hc3
    refine ⟨hR1.2.2.2.1, ?_⟩
    refine vr_X6_fault hR1 h (fun σ2 S2 h hR2 hF2 => ?_)
    have hF2 := Fm.tr hF1 hF2
    try simp only [hR2.1, hR2.2.1, hR2.2.2.1]
    exact g12 _ _ _ hR2 hF2 h
def bv_X6_isDigit_27 (P : Int32 → Sg → Prop) (σ : Sg) (s0 : Int32) : Prop := narrow .boolean (.int s0) = .int s0 ∧ P s0 σ
def bv_X6_isDigit_26 (P : Int32 → Sg → Prop) (σ : Sg)  : Prop := bv_X6_isDigit_27 P σ 0
def v_X6_isDigit (σ : Sg)  (P : Int32 → Sg → Prop) : Prop := ((¬ (σ.1 28) = ((-1)) → bv_X6_isDigit_26 P σ) ∧ ((σ.1 28) = ((-1)) → v_X6_sign σ (fun r1 σ1 => v_X6_isIn σ1 r1 48 57 (fun r2 σ2 => ((r2 = 0 → bv_X6_isDigit_26 P σ2) ∧ (¬ r2 = 0 → bv_X6_isDigit_27 P σ2 1))))))
set_option maxHeartbeats 4000000 in
theorem vr_X6_isDigit {m : Nat} {ad : Nat → Nat} {S : MS} {σ : Sg}  {P : Int32 → Sg → Prop} {post : Int32 → MS → Prop} (hR : RM m ad S σ) (h : v_X6_isDigit σ  P) (hpost : ∀ (r : Int32) (σ2 : Sg) (S2 : MS), P r σ2 → RM m ad S2 σ2 → Fm m ad S S2 → post r S2) : w_X6_isDigit S m  post := by
  have hpost := fun r σ2 S2 h1 h2 h3 => hpost r σ2 S2 h1 h2 h3
  have hF := Fm.rf m ad S
  obtain ⟨S0, hS0⟩ : ∃ z : MS, z = S := ⟨_, rfl⟩
  rw [← hS0] at hpost
  have hF : Fm m ad S0 S := by rw [hS0]; exact hF
  have g27 : ∀ (S : MS) (σ : Sg) (s0 : Int32), RM m ad S σ → Fm m ad S0 S → bv_X6_isDigit_27 P σ s0 → b_X6_isDigit_27 post S m s0 := by
    intro  S σ s0 hR hF h
    unfold bv_X6_isDigit_27 at h
    unfold b_X6_isDigit_27
    try simp only [hR.1, hR.2.1, hR.2.2.1]
    obtain ⟨hz, h⟩ := h
    exact ⟨hz, hpost _ _ _ h hR hF⟩
  have g26 : ∀ (S : MS) (σ : Sg) , RM m ad S σ → Fm m ad S0 S → bv_X6_isDigit_26 P σ  → b_X6_isDigit_26 post S m  := by
    intro  S σ  hR hF h
    unfold bv_X6_isDigit_26 at h
    unfold b_X6_isDigit_26
    try simp only [hR.1, hR.2.1, hR.2.2.1]
    exact g27 _ _ _ hR hF h
  unfold v_X6_isDigit at h
  unfold w_X6_isDigit
  try simp only [hR.1, hR.2.1, hR.2.2.1]
  refine ⟨hR.2.2.2.1, ?_⟩
  refine ⟨fun hc4 => ?_, fun hc4 => ?_⟩
  · have h := h.1 hc4
    exact g26 _ _  hR hF h
  · have h := h.2 hc4
    refine vr_X6_sign hR h (fun r1 σ1 S1 h hR1 hF1 => ?_)
    have hF1 := Fm.tr hF hF1
    try simp only [hR1.1, hR1.2.1, hR1.2.2.1]
    refine vr_X6_isIn hR1 h (fun r2 σ2 S2 h hR2 hF2 => ?_)
    have hF2 := Fm.tr hF1 hF2
    try simp only [hR2.1, hR2.2.1, hR2.2.2.1]
    refine ⟨fun hc3 => ?_, fun hc3 => ?_⟩
    · have h := h.1 hc3
      exact g26 _ _  hR2 hF2 h
    · have h := h.2 hc3
      exact g27 _ _ _ hR2 hF2 h
def bv_X6_digits_74 (P : Int32 → Sg → Prop) (σ : Sg) (l1 : Int32) (l2 : Int32) (l3 : Int32) (l4 : Int32) : Prop := P l3 σ
def bv_X6_digits_16 (P : Int32 → Sg → Prop) : Nat → Sg → Int32 → Int32 → Int32 → Int32 → Prop
  | 0 => fun _ _ _ _ _ => False
  | f + 1 => fun σ l1 l2 l3 l4 => ((l1 ≤ l4 → bv_X6_digits_74 P σ l1 l2 l3 l4) ∧ (¬ l1 ≤ l4 → v_X6_isDigit σ (fun r1 σ1 => ((r1 = 0 → bv_X6_digits_74 P σ1 l1 l2 l3 l4) ∧ (¬ r1 = 0 → v_X6_sign σ1 (fun r2 σ2 => ((l2 < (((10 * l3) + r2) - 48) → bv_X6_digits_74 P σ2 l1 l2 l3 l4) ∧ (¬ l2 < (((10 * l3) + r2) - 48) → v_X6_sign σ2 (fun r3 σ3 => ∀ v4 : Int32, v4 = ((10 * l3) + r3) - 48 → ∀ σ5 : Sg, σ5 = sF σ3 27 ((σ3.1 27) + 1) → ∀ v6 : Int32, v6 = l4 + 1 → bv_X6_digits_16 P f σ5 l1 l2 v4 v6)))))))))
def bv_X6_digits_11 (P : Int32 → Sg → Prop) (σ : Sg) (l1 : Int32) (l2 : Int32) : Prop := ∃ f16, bv_X6_digits_16 P f16 σ l1 l2 0 0
def v_X6_digits (σ : Sg) (a1 : Int32) (a2 : Int32) (P : Int32 → Sg → Prop) : Prop := v_X6_isDigit σ (fun r1 σ1 => ((¬ r1 = 0 → bv_X6_digits_11 P σ1 a1 a2) ∧ (r1 = 0 → v_X6_fault σ1 (fun σ2 => bv_X6_digits_11 P σ2 a1 a2))))
set_option maxHeartbeats 4000000 in
theorem vr_X6_digits {m : Nat} {ad : Nat → Nat} {S : MS} {σ : Sg} {a1 : Int32} {a2 : Int32} {P : Int32 → Sg → Prop} {post : Int32 → MS → Prop} (hR : RM m ad S σ) (h : v_X6_digits σ a1 a2 P) (hpost : ∀ (r : Int32) (σ2 : Sg) (S2 : MS), P r σ2 → RM m ad S2 σ2 → Fm m ad S S2 → post r S2) : w_X6_digits S m a1 a2 post := by
  have hpost := fun r σ2 S2 h1 h2 h3 => hpost r σ2 S2 h1 h2 h3
  have hF := Fm.rf m ad S
  obtain ⟨S0, hS0⟩ : ∃ z : MS, z = S := ⟨_, rfl⟩
  rw [← hS0] at hpost
  have hF : Fm m ad S0 S := by rw [hS0]; exact hF
  have g74 : ∀ (S : MS) (σ : Sg) (l1 : Int32) (l2 : Int32) (l3 : Int32) (l4 : Int32), RM m ad S σ → Fm m ad S0 S → bv_X6_digits_74 P σ l1 l2 l3 l4 → b_X6_digits_74 post S m l1 l2 l3 l4  := by
    intro  S σ l1 l2 l3 l4 hR hF h
    unfold bv_X6_digits_74 at h
    unfold b_X6_digits_74
    try simp only [hR.1, hR.2.1, hR.2.2.1]
    exact hpost _ _ _ h hR hF
  have g16 : ∀ (f : Nat) (S : MS) (σ : Sg) (l1 : Int32) (l2 : Int32) (l3 : Int32) (l4 : Int32), RM m ad S σ → Fm m ad S0 S → bv_X6_digits_16 P f σ l1 l2 l3 l4 → b_X6_digits_16 post f S m l1 l2 l3 l4  := by
    intro f
    induction f with
    | zero => intro S σ l1 l2 l3 l4 hR hF h; exact h.elim
    | succ f ih =>
      intro S σ l1 l2 l3 l4 hR hF h
      simp only [bv_X6_digits_16] at h
      simp only [b_X6_digits_16]
      try simp only [hR.1, hR.2.1, hR.2.2.1]
      refine ⟨fun hc9 => ?_, fun hc9 => ?_⟩
      · have h := h.1 hc9
        exact g74 _ _ _ _ _ _ hR hF h
      · have h := h.2 hc9
        refine ⟨hR.2.2.2.1, ?_⟩
        refine vr_X6_isDigit hR h (fun r1 σ1 S1 h hR1 hF1 => ?_)
        have hF1 := Fm.tr hF hF1
        try simp only [hR1.1, hR1.2.1, hR1.2.2.1]
        refine ⟨fun hc8 => ?_, fun hc8 => ?_⟩
        · have h := h.1 hc8
          exact g74 _ _ _ _ _ _ hR1 hF1 h
        · have h := h.2 hc8
          refine ⟨hR1.2.2.2.1, ?_⟩
          refine vr_X6_sign hR1 h (fun r2 σ2 S2 h hR2 hF2 => ?_)
          have hF2 := Fm.tr hF1 hF2
          try simp only [hR2.1, hR2.2.1, hR2.2.2.1]
          refine ⟨fun hc7 => ?_, fun hc7 => ?_⟩
          · have h := h.1 hc7
            exact g74 _ _ _ _ _ _ hR2 hF2 h
          · have h := h.2 hc7
            refine ⟨hR2.2.2.2.1, ?_⟩
            refine vr_X6_sign hR2 h (fun r3 σ3 S3 h hR3 hF3 => ?_)
            have hF3 := Fm.tr hF2 hF3
            try simp only [hR3.1, hR3.2.1, hR3.2.2.1]
            intro v4 hv4
            have h := h v4 hv4
            refine ⟨hR3.2.2.2.1, ?_⟩
            intro S5 hS5
            obtain ⟨σ5, hσ5⟩ : ∃ z : Sg, z = sF σ3 27 ((σ3.1 27) + 1) := ⟨_, rfl⟩
            have h := h σ5 hσ5
            obtain ⟨hR5, hF5⟩ := rm_putF hR3 hS5 hσ5
            have hF5 := Fm.tr hF3 hF5
            try simp only [hR5.1, hR5.2.1, hR5.2.2.1]
            intro v6 hv6
            have h := h v6 hv6
            exact ih _ _ _ _ _ _ hR5 hF5 h
  have g11 : ∀ (S : MS) (σ : Sg) (l1 : Int32) (l2 : Int32), RM m ad S σ → Fm m ad S0 S → bv_X6_digits_11 P σ l1 l2 → b_X6_digits_11 post S m l1 l2  := by
    intro  S σ l1 l2 hR hF h
    unfold bv_X6_digits_11 at h
    unfold b_X6_digits_11
    try simp only [hR.1, hR.2.1, hR.2.2.1]
    obtain ⟨f16, h⟩ := h
    exact ⟨f16, g16 f16 _ _ _ _ _ _ hR hF h⟩
  unfold v_X6_digits at h
  unfold w_X6_digits
  try simp only [hR.1, hR.2.1, hR.2.2.1]
  refine ⟨hR.2.2.2.1, ?_⟩
  refine vr_X6_isDigit hR h (fun r1 σ1 S1 h hR1 hF1 => ?_)
  have hF1 := Fm.tr hF hF1
  try simp only [hR1.1, hR1.2.1, hR1.2.2.1]
  refine ⟨fun hc3 => ?_, fun hc3 => ?_⟩
  · have h := h.1 hc3
    exact g11 _ _ _ _ hR1 hF1 h
  · have h := h.2 hc3
    refine ⟨hR1.2.2.2.1, ?_⟩
    refine vr_X6_fault hR1 h (fun σ2 S2 h hR2 hF2 => ?_)
    have hF2 := Fm.tr hF1 hF2
    try simp only [hR2.1, hR2.2.1, hR2.2.2.1]
    exact g11 _ _ _ _ hR2 hF2 h
def v_X6_readKey (σ : Sg)  (P : Int32 → Sg → Prop) : Prop := v_X6_digits σ 2 31 (fun r1 σ1 => P r1 σ1)
set_option maxHeartbeats 4000000 in
theorem vr_X6_readKey {m : Nat} {ad : Nat → Nat} {S : MS} {σ : Sg}  {P : Int32 → Sg → Prop} {post : Int32 → MS → Prop} (hR : RM m ad S σ) (h : v_X6_readKey σ  P) (hpost : ∀ (r : Int32) (σ2 : Sg) (S2 : MS), P r σ2 → RM m ad S2 σ2 → Fm m ad S S2 → post r S2) : w_X6_readKey S m  post := by
  have hpost := fun r σ2 S2 h1 h2 h3 => hpost r σ2 S2 h1 h2 h3
  have hF := Fm.rf m ad S
  obtain ⟨S0, hS0⟩ : ∃ z : MS, z = S := ⟨_, rfl⟩
  rw [← hS0] at hpost
  have hF : Fm m ad S0 S := by rw [hS0]; exact hF
  unfold v_X6_readKey at h
  unfold w_X6_readKey
  try simp only [hR.1, hR.2.1, hR.2.2.1]
  refine ⟨hR.2.2.2.1, ?_⟩
  refine vr_X6_digits hR h (fun r1 σ1 S1 h hR1 hF1 => ?_)
  have hF1 := Fm.tr hF hF1
  try simp only [hR1.1, hR1.2.1, hR1.2.2.1]
  exact hpost _ _ _ h hR1 hF1
