def bv_X6_isIn_15 (P : Int32 → Sg → Prop) (σ : Sg) (l0 : Int32) (l1 : Int32) (l2 : Int32) (s0 : Int32) : Prop := narrow .boolean (.int s0) = .int s0 ∧ P s0 σ
def bv_X6_isIn_14 (P : Int32 → Sg → Prop) (σ : Sg) (l0 : Int32) (l1 : Int32) (l2 : Int32) : Prop := bv_X6_isIn_15 P σ l0 l1 l2 0
def v_X6_isIn (σ : Sg) (a0 : Int32) (a1 : Int32) (a2 : Int32) (P : Int32 → Sg → Prop) : Prop := ((a0 < a1 → bv_X6_isIn_14 P σ a0 a1 a2) ∧ (¬ a0 < a1 → ((a2 < a0 → bv_X6_isIn_14 P σ a0 a1 a2) ∧ (¬ a2 < a0 → bv_X6_isIn_15 P σ a0 a1 a2 1))))
set_option maxHeartbeats 4000000 in
theorem vr_X6_isIn {m : Nat} {ad : Nat → Nat} {S : MS} {σ : Sg} {a0 : Int32} {a1 : Int32} {a2 : Int32} {P : Int32 → Sg → Prop} {post : Int32 → MS → Prop} (hR : RM m ad S σ) (h : v_X6_isIn σ a0 a1 a2 P) (hpost : ∀ (r : Int32) (σ2 : Sg) (S2 : MS), P r σ2 → RM m ad S2 σ2 → Fm m ad S S2 → post r S2) : w_X6_isIn S a0 a1 a2 post := by
  have hpost := fun r σ2 S2 h1 h2 h3 => hpost r σ2 S2 h1 h2 h3
  have hF := Fm.rf m ad S
  obtain ⟨S0, hS0⟩ : ∃ z : MS, z = S := ⟨_, rfl⟩
  rw [← hS0] at hpost
  have hF : Fm m ad S0 S := by rw [hS0]; exact hF
  have g15 : ∀ (S : MS) (σ : Sg) (l0 : Int32) (l1 : Int32) (l2 : Int32) (s0 : Int32), RM m ad S σ → Fm m ad S0 S → bv_X6_isIn_15 P σ l0 l1 l2 s0 → b_X6_isIn_15 post S l0 l1 l2 s0 := by
    intro  S σ l0 l1 l2 s0 hR hF h
    unfold bv_X6_isIn_15 at h
    unfold b_X6_isIn_15
    try simp only [hR.1, hR.2.1, hR.2.2.1]
    obtain ⟨hz, h⟩ := h
    exact ⟨hz, hpost _ _ _ h hR hF⟩
  have g14 : ∀ (S : MS) (σ : Sg) (l0 : Int32) (l1 : Int32) (l2 : Int32), RM m ad S σ → Fm m ad S0 S → bv_X6_isIn_14 P σ l0 l1 l2 → b_X6_isIn_14 post S l0 l1 l2  := by
    intro  S σ l0 l1 l2 hR hF h
    unfold bv_X6_isIn_14 at h
    unfold b_X6_isIn_14
    try simp only [hR.1, hR.2.1, hR.2.2.1]
    exact g15 _ _ _ _ _ _ hR hF h
  unfold v_X6_isIn at h
  unfold w_X6_isIn
  try simp only [hR.1, hR.2.1, hR.2.2.1]
  refine ⟨fun hc2 => ?_, fun hc2 => ?_⟩
  · have h := h.1 hc2
    exact g14 _ _ _ _ _ hR hF h
  · have h := h.2 hc2
    refine ⟨fun hc1 => ?_, fun hc1 => ?_⟩
    · have h := h.1 hc1
      exact g14 _ _ _ _ _ hR hF h
    · have h := h.2 hc1
      exact g15 _ _ _ _ _ _ hR hF h
def v_X6_thrown (σ : Sg)  (P : Int32 → Sg → Prop) : Prop := P (σ.1 0) σ
set_option maxHeartbeats 4000000 in
theorem vr_X6_thrown {m : Nat} {ad : Nat → Nat} {S : MS} {σ : Sg}  {P : Int32 → Sg → Prop} {post : Int32 → MS → Prop} (hR : RM m ad S σ) (h : v_X6_thrown σ  P) (hpost : ∀ (r : Int32) (σ2 : Sg) (S2 : MS), P r σ2 → RM m ad S2 σ2 → Fm m ad S S2 → post r S2) : w_X6_thrown S m  post := by
  have hpost := fun r σ2 S2 h1 h2 h3 => hpost r σ2 S2 h1 h2 h3
  have hF := Fm.rf m ad S
  obtain ⟨S0, hS0⟩ : ∃ z : MS, z = S := ⟨_, rfl⟩
  rw [← hS0] at hpost
  have hF : Fm m ad S0 S := by rw [hS0]; exact hF
  unfold v_X6_thrown at h
  unfold w_X6_thrown
  try simp only [hR.1, hR.2.1, hR.2.2.1]
  refine ⟨hR.2.2.2.1, ?_⟩
  exact hpost _ _ _ h hR hF
def v_X6_fail (σ : Sg) (a1 : Int32) (P : Int32 → Sg → Prop) : Prop := ∀ σ1 : Sg, σ1 = sF σ 0 a1 → P 0 σ1
set_option maxHeartbeats 4000000 in
theorem vr_X6_fail {m : Nat} {ad : Nat → Nat} {S : MS} {σ : Sg} {a1 : Int32} {P : Int32 → Sg → Prop} {post : Int32 → MS → Prop} (hR : RM m ad S σ) (h : v_X6_fail σ a1 P) (hpost : ∀ (r : Int32) (σ2 : Sg) (S2 : MS), P r σ2 → RM m ad S2 σ2 → Fm m ad S S2 → post r S2) : w_X6_fail S m a1 post := by
  have hpost := fun r σ2 S2 h1 h2 h3 => hpost r σ2 S2 h1 h2 h3
  have hF := Fm.rf m ad S
  obtain ⟨S0, hS0⟩ : ∃ z : MS, z = S := ⟨_, rfl⟩
  rw [← hS0] at hpost
  have hF : Fm m ad S0 S := by rw [hS0]; exact hF
  unfold v_X6_fail at h
  unfold w_X6_fail
  try simp only [hR.1, hR.2.1, hR.2.2.1]
  refine ⟨hR.2.2.2.1, ?_⟩
  intro S1 hS1
  obtain ⟨σ1, hσ1⟩ : ∃ z : Sg, z = sF σ 0 a1 := ⟨_, rfl⟩
  have h := h σ1 hσ1
  obtain ⟨hR1, hF1⟩ := rm_putF hR hS1 hσ1
  have hF1 := Fm.tr hF hF1
  try simp only [hR1.1, hR1.2.1, hR1.2.2.1]
  exact hpost _ _ _ h hR1 hF1
def v_X6_stored (σ : Sg) (a1 : Int32) (a2 : Int32) (P : Int32 → Sg → Prop) : Prop := vp_in ((32 * a1) + a2) 1952 ∧ P (σ.2 15 (ix ((32 * a1) + a2))) σ
set_option maxHeartbeats 4000000 in
theorem vr_X6_stored {m : Nat} {ad : Nat → Nat} {S : MS} {σ : Sg} {a1 : Int32} {a2 : Int32} {P : Int32 → Sg → Prop} {post : Int32 → MS → Prop} (hR : RM m ad S σ) (h : v_X6_stored σ a1 a2 P) (hpost : ∀ (r : Int32) (σ2 : Sg) (S2 : MS), P r σ2 → RM m ad S2 σ2 → Fm m ad S S2 → post r S2) : w_X6_stored S m a1 a2 post := by
  have hpost := fun r σ2 S2 h1 h2 h3 => hpost r σ2 S2 h1 h2 h3
  have hF := Fm.rf m ad S
  obtain ⟨S0, hS0⟩ : ∃ z : MS, z = S := ⟨_, rfl⟩
  rw [← hS0] at hpost
  have hF : Fm m ad S0 S := by rw [hS0]; exact hF
  unfold v_X6_stored at h
  unfold w_X6_stored
  try simp only [hR.1, hR.2.1, hR.2.2.1]
  refine ⟨hR.2.2.2.1, ?_⟩
  refine ⟨rm_kT hR (by decide) rfl, ?_⟩
  obtain ⟨hi1, h⟩ := h
  refine ⟨(rm_kL hR (k := 15) rfl (by decide)) ▸ hi1, ?_⟩
  exact hpost _ _ _ h hR hF
def v_X6_isTransaction (σ : Sg) (a1 : Int32) (P : Int32 → Sg → Prop) : Prop := v_X6_isIn σ a1 0 ((σ.1 1) - 1) (fun r1 σ1 => narrow .boolean (.int r1) = .int r1 ∧ P r1 σ1)
set_option maxHeartbeats 4000000 in
theorem vr_X6_isTransaction {m : Nat} {ad : Nat → Nat} {S : MS} {σ : Sg} {a1 : Int32} {P : Int32 → Sg → Prop} {post : Int32 → MS → Prop} (hR : RM m ad S σ) (h : v_X6_isTransaction σ a1 P) (hpost : ∀ (r : Int32) (σ2 : Sg) (S2 : MS), P r σ2 → RM m ad S2 σ2 → Fm m ad S S2 → post r S2) : w_X6_isTransaction S m a1 post := by
  have hpost := fun r σ2 S2 h1 h2 h3 => hpost r σ2 S2 h1 h2 h3
  have hF := Fm.rf m ad S
  obtain ⟨S0, hS0⟩ : ∃ z : MS, z = S := ⟨_, rfl⟩
  rw [← hS0] at hpost
  have hF : Fm m ad S0 S := by rw [hS0]; exact hF
  unfold v_X6_isTransaction at h
  unfold w_X6_isTransaction
  try simp only [hR.1, hR.2.1, hR.2.2.1]
  refine ⟨hR.2.2.2.1, ?_⟩
  refine vr_X6_isIn hR h (fun r1 σ1 S1 h hR1 hF1 => ?_)
  have hF1 := Fm.tr hF hF1
  try simp only [hR1.1, hR1.2.1, hR1.2.2.1]
  obtain ⟨hz, h⟩ := h
  exact ⟨hz, hpost _ _ _ h hR1 hF1⟩
def v_X6_isKey (σ : Sg) (a0 : Int32) (P : Int32 → Sg → Prop) : Prop := v_X6_isIn σ a0 0 31 (fun r1 σ1 => narrow .boolean (.int r1) = .int r1 ∧ P r1 σ1)
set_option maxHeartbeats 4000000 in
theorem vr_X6_isKey {m : Nat} {ad : Nat → Nat} {S : MS} {σ : Sg} {a0 : Int32} {P : Int32 → Sg → Prop} {post : Int32 → MS → Prop} (hR : RM m ad S σ) (h : v_X6_isKey σ a0 P) (hpost : ∀ (r : Int32) (σ2 : Sg) (S2 : MS), P r σ2 → RM m ad S2 σ2 → Fm m ad S S2 → post r S2) : w_X6_isKey S a0 post := by
  have hpost := fun r σ2 S2 h1 h2 h3 => hpost r σ2 S2 h1 h2 h3
  have hF := Fm.rf m ad S
  obtain ⟨S0, hS0⟩ : ∃ z : MS, z = S := ⟨_, rfl⟩
  rw [← hS0] at hpost
  have hF : Fm m ad S0 S := by rw [hS0]; exact hF
  unfold v_X6_isKey at h
  unfold w_X6_isKey
  try simp only [hR.1, hR.2.1, hR.2.2.1]
  refine vr_X6_isIn hR h (fun r1 σ1 S1 h hR1 hF1 => ?_)
  have hF1 := Fm.tr hF hF1
  try simp only [hR1.1, hR1.2.1, hR1.2.2.1]
  obtain ⟨hz, h⟩ := h
  exact ⟨hz, hpost _ _ _ h hR1 hF1⟩
def bv_X6_isRange_24 (P : Int32 → Sg → Prop) (σ : Sg) (l0 : Int32) (l1 : Int32) (s0 : Int32) : Prop := narrow .boolean (.int s0) = .int s0 ∧ P s0 σ
def bv_X6_isRange_23 (P : Int32 → Sg → Prop) (σ : Sg) (l0 : Int32) (l1 : Int32) : Prop := bv_X6_isRange_24 P σ l0 l1 0
def v_X6_isRange (σ : Sg) (a0 : Int32) (a1 : Int32) (P : Int32 → Sg → Prop) : Prop := v_X6_isKey σ a0 (fun r1 σ1 => ((r1 = 0 → bv_X6_isRange_23 P σ1 a0 a1) ∧ (¬ r1 = 0 → v_X6_isKey σ1 a1 (fun r2 σ2 => ((r2 = 0 → bv_X6_isRange_23 P σ2 a0 a1) ∧ (¬ r2 = 0 → ((a1 < a0 → bv_X6_isRange_23 P σ2 a0 a1) ∧ (¬ a1 < a0 → bv_X6_isRange_24 P σ2 a0 a1 1))))))))
set_option maxHeartbeats 4000000 in
theorem vr_X6_isRange {m : Nat} {ad : Nat → Nat} {S : MS} {σ : Sg} {a0 : Int32} {a1 : Int32} {P : Int32 → Sg → Prop} {post : Int32 → MS → Prop} (hR : RM m ad S σ) (h : v_X6_isRange σ a0 a1 P) (hpost : ∀ (r : Int32) (σ2 : Sg) (S2 : MS), P r σ2 → RM m ad S2 σ2 → Fm m ad S S2 → post r S2) : w_X6_isRange S a0 a1 post := by
  have hpost := fun r σ2 S2 h1 h2 h3 => hpost r σ2 S2 h1 h2 h3
  have hF := Fm.rf m ad S
  obtain ⟨S0, hS0⟩ : ∃ z : MS, z = S := ⟨_, rfl⟩
  rw [← hS0] at hpost
  have hF : Fm m ad S0 S := by rw [hS0]; exact hF
  have g24 : ∀ (S : MS) (σ : Sg) (l0 : Int32) (l1 : Int32) (s0 : Int32), RM m ad S σ → Fm m ad S0 S → bv_X6_isRange_24 P σ l0 l1 s0 → b_X6_isRange_24 post S l0 l1 s0 := by
    intro  S σ l0 l1 s0 hR hF h
    unfold bv_X6_isRange_24 at h
    unfold b_X6_isRange_24
    try simp only [hR.1, hR.2.1, hR.2.2.1]
    obtain ⟨hz, h⟩ := h
    exact ⟨hz, hpost _ _ _ h hR hF⟩
  have g23 : ∀ (S : MS) (σ : Sg) (l0 : Int32) (l1 : Int32), RM m ad S σ → Fm m ad S0 S → bv_X6_isRange_23 P σ l0 l1 → b_X6_isRange_23 post S l0 l1  := by
    intro  S σ l0 l1 hR hF h
    unfold bv_X6_isRange_23 at h
    unfold b_X6_isRange_23
    try simp only [hR.1, hR.2.1, hR.2.2.1]
    exact g24 _ _ _ _ _ hR hF h
  unfold v_X6_isRange at h
  unfold w_X6_isRange
  try simp only [hR.1, hR.2.1, hR.2.2.1]
  refine vr_X6_isKey hR h (fun r1 σ1 S1 h hR1 hF1 => ?_)
  have hF1 := Fm.tr hF hF1
  try simp only [hR1.1, hR1.2.1, hR1.2.2.1]
  refine ⟨fun hc5 => ?_, fun hc5 => ?_⟩
  · have h := h.1 hc5
    exact g23 _ _ _ _ hR1 hF1 h
  · have h := h.2 hc5
    refine vr_X6_isKey hR1 h (fun r2 σ2 S2 h hR2 hF2 => ?_)
    have hF2 := Fm.tr hF1 hF2
    try simp only [hR2.1, hR2.2.1, hR2.2.2.1]
    refine ⟨fun hc4 => ?_, fun hc4 => ?_⟩
    · have h := h.1 hc4
      exact g23 _ _ _ _ hR2 hF2 h
    · have h := h.2 hc4
      refine ⟨fun hc3 => ?_, fun hc3 => ?_⟩
      · have h := h.1 hc3
        exact g23 _ _ _ _ hR2 hF2 h
      · have h := h.2 hc3
        exact g24 _ _ _ _ _ hR2 hF2 h
def bv_X6_activeNow_27 (KV4 : Sg → Int32 → Int32 → Prop) (P : Int32 → Sg → Prop) (σ : Sg) (l1 : Int32) (l2 : Int32) (s0 : Int32) (s1 : Int32) : Prop := ∀ v1 : Int32, v1 = s1 + s0 → ∀ v2 : Int32, v2 = l2 + 1 → KV4 σ v1 v2
def bv_X6_activeNow_4 (P : Int32 → Sg → Prop) : Nat → Sg → Int32 → Int32 → Prop
  | 0 => fun _ _ _ => False
  | f + 1 => fun σ l1 l2 => (((σ.1 1) ≤ l2 → P l1 σ) ∧ (¬ (σ.1 1) ≤ l2 → vp_in l2 80 ∧ ((¬ (σ.2 2 (ix l2)) = 0 → bv_X6_activeNow_27 (bv_X6_activeNow_4 P f) P σ l1 l2 0 l1) ∧ ((σ.2 2 (ix l2)) = 0 → bv_X6_activeNow_27 (bv_X6_activeNow_4 P f) P σ l1 l2 1 l1))))
def v_X6_activeNow (σ : Sg)  (P : Int32 → Sg → Prop) : Prop := ∃ f4, bv_X6_activeNow_4 P f4 σ 0 0
set_option maxHeartbeats 4000000 in
theorem vr_X6_activeNow {m : Nat} {ad : Nat → Nat} {S : MS} {σ : Sg}  {P : Int32 → Sg → Prop} {post : Int32 → MS → Prop} (hR : RM m ad S σ) (h : v_X6_activeNow σ  P) (hpost : ∀ (r : Int32) (σ2 : Sg) (S2 : MS), P r σ2 → RM m ad S2 σ2 → Fm m ad S S2 → post r S2) : w_X6_activeNow S m  post := by
  have hpost := fun r σ2 S2 h1 h2 h3 => hpost r σ2 S2 h1 h2 h3
  have hF := Fm.rf m ad S
  obtain ⟨S0, hS0⟩ : ∃ z : MS, z = S := ⟨_, rfl⟩
  rw [← hS0] at hpost
  have hF : Fm m ad S0 S := by rw [hS0]; exact hF
  have g27 : ∀ (KV4 : Sg → Int32 → Int32 → Prop) (KH4 : MS → Nat → Int32 → Int32 → Prop) (hKV4 : ∀ (S : MS) (σ : Sg) (l1 : Int32) (l2 : Int32), RM m ad S σ → Fm m ad S0 S → KV4 σ l1 l2 → KH4 S m l1 l2 ) (S : MS) (σ : Sg) (l1 : Int32) (l2 : Int32) (s0 : Int32) (s1 : Int32), RM m ad S σ → Fm m ad S0 S → bv_X6_activeNow_27 KV4 P σ l1 l2 s0 s1 → b_X6_activeNow_27 KH4 post S m l1 l2 s0 s1 := by
    intro KV4 KH4 hKV4 S σ l1 l2 s0 s1 hR hF h
    unfold bv_X6_activeNow_27 at h
    unfold b_X6_activeNow_27
    try simp only [hR.1, hR.2.1, hR.2.2.1]
    intro v1 hv1
    have h := h v1 hv1
    intro v2 hv2
    have h := h v2 hv2
    exact hKV4 _ _ _ _ hR hF h
  have g4 : ∀ (f : Nat) (S : MS) (σ : Sg) (l1 : Int32) (l2 : Int32), RM m ad S σ → Fm m ad S0 S → bv_X6_activeNow_4 P f σ l1 l2 → b_X6_activeNow_4 post f S m l1 l2  := by
    intro f
    induction f with
    | zero => intro S σ l1 l2 hR hF h; exact h.elim
    | succ f ih =>
      intro S σ l1 l2 hR hF h
      simp only [bv_X6_activeNow_4] at h
      simp only [b_X6_activeNow_4]
      try simp only [hR.1, hR.2.1, hR.2.2.1]
      refine ⟨hR.2.2.2.1, ?_⟩
      refine ⟨fun hc3 => ?_, fun hc3 => ?_⟩
      · have h := h.1 hc3
        exact hpost _ _ _ h hR hF
      · have h := h.2 hc3
        refine ⟨rm_kT hR (by decide) rfl, ?_⟩
        obtain ⟨hi1, h⟩ := h
        refine ⟨(rm_kL hR (k := 2) rfl (by decide)) ▸ hi1, ?_⟩
        refine ⟨fun hc2 => ?_, fun hc2 => ?_⟩
        · have h := h.1 hc2
          exact g27 _ _ ih _ _ _ _ _ _ hR hF h
        · have h := h.2 hc2
          exact g27 _ _ ih _ _ _ _ _ _ hR hF h
  unfold v_X6_activeNow at h
  unfold w_X6_activeNow
  try simp only [hR.1, hR.2.1, hR.2.2.1]
  obtain ⟨f4, h⟩ := h
  exact ⟨f4, g4 f4 _ _ _ _ hR hF h⟩
def bv_X6_configure_69 (P : Sg → Prop) (σ : Sg) (l1 : Int32) (l2 : Int32) (l3 : Int32) : Prop := P σ
def bv_X6_configure_44 (P : Sg → Prop) (σ : Sg) (l1 : Int32) (l2 : Int32) (l3 : Int32) (s0 : Int32) : Prop := ∀ σ1 : Sg, σ1 = sF σ 0 s0 → ((¬ (σ1.1 0) = 0 → bv_X6_configure_69 P σ1 l1 l2 l3) ∧ ((σ1.1 0) = 0 → ∀ σ2 : Sg, σ2 = sF σ1 17 l1 → ∀ σ3 : Sg, σ3 = sF σ2 18 l2 → ∀ σ4 : Sg, σ4 = sF σ3 19 l3 → bv_X6_configure_69 P σ4 l1 l2 l3))
def bv_X6_configure_28 (P : Sg → Prop) (σ : Sg) (l1 : Int32) (l2 : Int32) (l3 : Int32) : Prop := bv_X6_configure_44 P σ l1 l2 l3 1
def v_X6_configure (σ : Sg) (a1 : Int32) (a2 : Int32) (a3 : Int32) (P : Sg → Prop) : Prop := v_X6_isIn σ a1 0 1 (fun r1 σ1 => ((r1 = 0 → bv_X6_configure_28 P σ1 a1 a2 a3) ∧ (¬ r1 = 0 → v_X6_isIn σ1 a2 0 2 (fun r2 σ2 => ((r2 = 0 → bv_X6_configure_28 P σ2 a1 a2 a3) ∧ (¬ r2 = 0 → v_X6_isIn σ2 a3 1 5 (fun r3 σ3 => ((¬ r3 = 0 → v_X6_activeNow σ3 (fun r4 σ4 => ((r4 ≤ 0 → bv_X6_configure_44 P σ4 a1 a2 a3 0) ∧ (¬ r4 ≤ 0 → bv_X6_configure_44 P σ4 a1 a2 a3 2)))) ∧ (r3 = 0 → bv_X6_configure_28 P σ3 a1 a2 a3)))))))))
set_option maxHeartbeats 4000000 in
theorem vr_X6_configure {m : Nat} {ad : Nat → Nat} {S : MS} {σ : Sg} {a1 : Int32} {a2 : Int32} {a3 : Int32} {P : Sg → Prop} {post : MS → Prop} (hR : RM m ad S σ) (h : v_X6_configure σ a1 a2 a3 P) (hpost : ∀ (σ2 : Sg) (S2 : MS), P σ2 → RM m ad S2 σ2 → Fm m ad S S2 → post S2) : w_X6_configure S m a1 a2 a3 post := by
  have hpost := fun σ2 S2 h1 h2 h3 => hpost σ2 S2 h1 h2 h3
  have hF := Fm.rf m ad S
  obtain ⟨S0, hS0⟩ : ∃ z : MS, z = S := ⟨_, rfl⟩
  rw [← hS0] at hpost
  have hF : Fm m ad S0 S := by rw [hS0]; exact hF
  have g69 : ∀ (S : MS) (σ : Sg) (l1 : Int32) (l2 : Int32) (l3 : Int32), RM m ad S σ → Fm m ad S0 S → bv_X6_configure_69 P σ l1 l2 l3 → b_X6_configure_69 post S m l1 l2 l3  := by
    intro  S σ l1 l2 l3 hR hF h
    unfold bv_X6_configure_69 at h
    unfold b_X6_configure_69
    try simp only [hR.1, hR.2.1, hR.2.2.1]
    exact hpost _ _ h hR hF
  have g44 : ∀ (S : MS) (σ : Sg) (l1 : Int32) (l2 : Int32) (l3 : Int32) (s0 : Int32), RM m ad S σ → Fm m ad S0 S → bv_X6_configure_44 P σ l1 l2 l3 s0 → b_X6_configure_44 post S m l1 l2 l3 s0 m := by
    intro  S σ l1 l2 l3 s0 hR hF h
    unfold bv_X6_configure_44 at h
    unfold b_X6_configure_44
    try simp only [hR.1, hR.2.1, hR.2.2.1]
    refine ⟨hR.2.2.2.1, ?_⟩
    intro S1 hS1
    obtain ⟨σ1, hσ1⟩ : ∃ z : Sg, z = sF σ 0 s0 := ⟨_, rfl⟩
    have h := h σ1 hσ1
    obtain ⟨hR1, hF1⟩ := rm_putF hR hS1 hσ1
    have hF1 := Fm.tr hF hF1
    try simp only [hR1.1, hR1.2.1, hR1.2.2.1]
    refine ⟨hR1.2.2.2.1, ?_⟩
    refine ⟨fun hc5 => ?_, fun hc5 => ?_⟩
    · have h := h.1 hc5
      exact g69 _ _ _ _ _ hR1 hF1 h
    · have h := h.2 hc5
      intro S2 hS2
      obtain ⟨σ2, hσ2⟩ : ∃ z : Sg, z = sF σ1 17 l1 := ⟨_, rfl⟩
      have h := h σ2 hσ2
      obtain ⟨hR2, hF2⟩ := rm_putF hR1 hS2 hσ2
      have hF2 := Fm.tr hF1 hF2
      try simp only [hR2.1, hR2.2.1, hR2.2.2.1]
      intro S3 hS3
      obtain ⟨σ3, hσ3⟩ : ∃ z : Sg, z = sF σ2 18 l2 := ⟨_, rfl⟩
      have h := h σ3 hσ3
      obtain ⟨hR3, hF3⟩ := rm_putF hR2 hS3 hσ3
      have hF3 := Fm.tr hF2 hF3
      try simp only [hR3.1, hR3.2.1, hR3.2.2.1]
      intro S4 hS4
      obtain ⟨σ4, hσ4⟩ : ∃ z : Sg, z = sF σ3 19 l3 := ⟨_, rfl⟩
      have h := h σ4 hσ4
      obtain ⟨hR4, hF4⟩ := rm_putF hR3 hS4 hσ4
      have hF4 := Fm.tr hF3 hF4
      try simp only [hR4.1, hR4.2.1, hR4.2.2.1]
      exact g69 _ _ _ _ _ hR4 hF4 h
  have g28 : ∀ (S : MS) (σ : Sg) (l1 : Int32) (l2 : Int32) (l3 : Int32), RM m ad S σ → Fm m ad S0 S → bv_X6_configure_28 P σ l1 l2 l3 → b_X6_configure_28 post S m l1 l2 l3 m := by
    intro  S σ l1 l2 l3 hR hF h
    unfold bv_X6_configure_28 at h
    unfold b_X6_configure_28
    try simp only [hR.1, hR.2.1, hR.2.2.1]
    exact g44 _ _ _ _ _ _ hR hF h
  unfold v_X6_configure at h
  unfold w_X6_configure
  try simp only [hR.1, hR.2.1, hR.2.2.1]
  refine vr_X6_isIn hR h (fun r1 σ1 S1 h hR1 hF1 => ?_)
  have hF1 := Fm.tr hF hF1
  try simp only [hR1.1, hR1.2.1, hR1.2.2.1]
  refine ⟨fun hc8 => ?_, fun hc8 => ?_⟩
  · have h := h.1 hc8
    exact g28 _ _ _ _ _ hR1 hF1 h
  · have h := h.2 hc8
    refine vr_X6_isIn hR1 h (fun r2 σ2 S2 h hR2 hF2 => ?_)
    have hF2 := Fm.tr hF1 hF2
    try simp only [hR2.1, hR2.2.1, hR2.2.2.1]
    refine ⟨fun hc7 => ?_, fun hc7 => ?_⟩
    · have h := h.1 hc7
      exact g28 _ _ _ _ _ hR2 hF2 h
    · have h := h.2 hc7
      refine vr_X6_isIn hR2 h (fun r3 σ3 S3 h hR3 hF3 => ?_)
      have hF3 := Fm.tr hF2 hF3
      try simp only [hR3.1, hR3.2.1, hR3.2.2.1]
      refine ⟨fun hc6 => ?_, fun hc6 => ?_⟩
      · have h := h.1 hc6
        refine ⟨hR3.2.2.2.1, ?_⟩
        refine vr_X6_activeNow hR3 h (fun r4 σ4 S4 h hR4 hF4 => ?_)
        have hF4 := Fm.tr hF3 hF4
        try simp only [hR4.1, hR4.2.1, hR4.2.2.1]
        refine ⟨fun hc5 => ?_, fun hc5 => ?_⟩
        · have h := h.1 hc5
          exact g44 _ _ _ _ _ _ hR4 hF4 h
        · have h := h.2 hc5
          exact g44 _ _ _ _ _ _ hR4 hF4 h
      · have h := h.2 hc6
        exact g28 _ _ _ _ _ hR3 hF3 h
def bv_X6_hasRoom_23 (P : Int32 → Sg → Prop) (σ : Sg) (s0 : Int32) : Prop := narrow .boolean (.int s0) = .int s0 ∧ P s0 σ
def bv_X6_hasRoom_22 (P : Int32 → Sg → Prop) (σ : Sg)  : Prop := bv_X6_hasRoom_23 P σ 0
def v_X6_hasRoom (σ : Sg)  (P : Int32 → Sg → Prop) : Prop := v_X6_activeNow σ (fun r1 σ1 => ((6 ≤ r1 → bv_X6_hasRoom_22 P σ1) ∧ (¬ 6 ≤ r1 → ((80 ≤ (σ1.1 1) → bv_X6_hasRoom_22 P σ1) ∧ (¬ 80 ≤ (σ1.1 1) → bv_X6_hasRoom_23 P σ1 1)))))
set_option maxHeartbeats 4000000 in
theorem vr_X6_hasRoom {m : Nat} {ad : Nat → Nat} {S : MS} {σ : Sg}  {P : Int32 → Sg → Prop} {post : Int32 → MS → Prop} (hR : RM m ad S σ) (h : v_X6_hasRoom σ  P) (hpost : ∀ (r : Int32) (σ2 : Sg) (S2 : MS), P r σ2 → RM m ad S2 σ2 → Fm m ad S S2 → post r S2) : w_X6_hasRoom S m  post := by
  have hpost := fun r σ2 S2 h1 h2 h3 => hpost r σ2 S2 h1 h2 h3
  have hF := Fm.rf m ad S
  obtain ⟨S0, hS0⟩ : ∃ z : MS, z = S := ⟨_, rfl⟩
  rw [← hS0] at hpost
  have hF : Fm m ad S0 S := by rw [hS0]; exact hF
  have g23 : ∀ (S : MS) (σ : Sg) (s0 : Int32), RM m ad S σ → Fm m ad S0 S → bv_X6_hasRoom_23 P σ s0 → b_X6_hasRoom_23 post S m s0 := by
    intro  S σ s0 hR hF h
    unfold bv_X6_hasRoom_23 at h
    unfold b_X6_hasRoom_23
    try simp only [hR.1, hR.2.1, hR.2.2.1]
    obtain ⟨hz, h⟩ := h
    exact ⟨hz, hpost _ _ _ h hR hF⟩
  have g22 : ∀ (S : MS) (σ : Sg) , RM m ad S σ → Fm m ad S0 S → bv_X6_hasRoom_22 P σ  → b_X6_hasRoom_22 post S m  := by
    intro  S σ  hR hF h
    unfold bv_X6_hasRoom_22 at h
    unfold b_X6_hasRoom_22
    try simp only [hR.1, hR.2.1, hR.2.2.1]
    exact g23 _ _ _ hR hF h
  unfold v_X6_hasRoom at h
  unfold w_X6_hasRoom
  try simp only [hR.1, hR.2.1, hR.2.2.1]
  refine ⟨hR.2.2.2.1, ?_⟩
  refine vr_X6_activeNow hR h (fun r1 σ1 S1 h hR1 hF1 => ?_)
  have hF1 := Fm.tr hF hF1
  try simp only [hR1.1, hR1.2.1, hR1.2.2.1]
  refine ⟨fun hc3 => ?_, fun hc3 => ?_⟩
  · have h := h.1 hc3
    exact g22 _ _  hR1 hF1 h
  · have h := h.2 hc3
    refine ⟨hR1.2.2.2.1, ?_⟩
    refine ⟨fun hc2 => ?_, fun hc2 => ?_⟩
    · have h := h.1 hc2
      exact g22 _ _  hR1 hF1 h
    · have h := h.2 hc2
      exact g23 _ _ _ hR1 hF1 h
def bv_X6_beginWith_94 (P : Int32 → Sg → Prop) (σ : Sg) (l1 : Int32) (l2 : Int32) (l3 : Int32) : Prop := ∀ σ1 : Sg, σ1 = sF σ 1 ((σ.1 1) + 1) → P l2 σ1
def bv_X6_beginWith_35 (P : Int32 → Sg → Prop) : Nat → Sg → Int32 → Int32 → Int32 → Prop
  | 0 => fun _ _ _ _ => False
  | f + 1 => fun σ l1 l2 l3 => ((32 ≤ l3 → ((l1 ≤ (σ.1 19) → bv_X6_beginWith_94 P σ l1 l2 l3) ∧ (¬ l1 ≤ (σ.1 19) → ((¬ (σ.1 13) = ((-1)) → bv_X6_beginWith_94 P σ l1 l2 l3) ∧ ((σ.1 13) = ((-1)) → ∀ σ1 : Sg, σ1 = sF σ 13 l2 → bv_X6_beginWith_94 P σ1 l1 l2 l3))))) ∧ (¬ 32 ≤ l3 → vp_in ((32 * l2) + l3) 2560 ∧ ∀ σ5 : Sg, σ5 = sA σ 9 (ix ((32 * l2) + l3)) ((-1)) → vp_in ((32 * l2) + l3) 2560 ∧ ∀ σ7 : Sg, σ7 = sA σ5 10 (ix ((32 * l2) + l3)) ((-5000)) → ∀ v8 : Int32, v8 = l3 + 1 → bv_X6_beginWith_35 P f σ7 l1 l2 v8))
def v_X6_beginWith (σ : Sg) (a1 : Int32) (P : Int32 → Sg → Prop) : Prop := ∀ v1 : Int32, v1 = σ.1 1 → vp_in v1 80 ∧ ∀ σ3 : Sg, σ3 = sA σ 2 (ix v1) 0 → vp_in v1 80 ∧ ∀ σ5 : Sg, σ5 = sA σ3 3 (ix v1) a1 → vp_in v1 80 ∧ ∀ σ7 : Sg, σ7 = sA σ5 7 (ix v1) 0 → vp_in v1 80 ∧ ∀ σ9 : Sg, σ9 = sA σ7 12 (ix v1) 0 → ∃ f35, bv_X6_beginWith_35 P f35 σ9 a1 v1 0
set_option maxHeartbeats 4000000 in
theorem vr_X6_beginWith {m : Nat} {ad : Nat → Nat} {S : MS} {σ : Sg} {a1 : Int32} {P : Int32 → Sg → Prop} {post : Int32 → MS → Prop} (hR : RM m ad S σ) (h : v_X6_beginWith σ a1 P) (hpost : ∀ (r : Int32) (σ2 : Sg) (S2 : MS), P r σ2 → RM m ad S2 σ2 → Fm m ad S S2 → post r S2) : w_X6_beginWith S m a1 post := by
  have hpost := fun r σ2 S2 h1 h2 h3 => hpost r σ2 S2 h1 h2 h3
  have hF := Fm.rf m ad S
  obtain ⟨S0, hS0⟩ : ∃ z : MS, z = S := ⟨_, rfl⟩
  rw [← hS0] at hpost
  have hF : Fm m ad S0 S := by rw [hS0]; exact hF
  have g94 : ∀ (S : MS) (σ : Sg) (l1 : Int32) (l2 : Int32) (l3 : Int32), RM m ad S σ → Fm m ad S0 S → bv_X6_beginWith_94 P σ l1 l2 l3 → b_X6_beginWith_94 post S m l1 l2 l3  := by
    intro  S σ l1 l2 l3 hR hF h
    unfold bv_X6_beginWith_94 at h
    unfold b_X6_beginWith_94
    try simp only [hR.1, hR.2.1, hR.2.2.1]
    refine ⟨hR.2.2.2.1, ?_⟩
    intro S1 hS1
    obtain ⟨σ1, hσ1⟩ : ∃ z : Sg, z = sF σ 1 ((σ.1 1) + 1) := ⟨_, rfl⟩
    have h := h σ1 hσ1
    obtain ⟨hR1, hF1⟩ := rm_putF hR hS1 hσ1
    have hF1 := Fm.tr hF hF1
    try simp only [hR1.1, hR1.2.1, hR1.2.2.1]
    exact hpost _ _ _ h hR1 hF1
  have g35 : ∀ (f : Nat) (S : MS) (σ : Sg) (l1 : Int32) (l2 : Int32) (l3 : Int32), RM m ad S σ → Fm m ad S0 S → bv_X6_beginWith_35 P f σ l1 l2 l3 → b_X6_beginWith_35 post f S m l1 l2 l3  := by
    intro f
    induction f with
    | zero => intro S σ l1 l2 l3 hR hF h; exact h.elim
    | succ f ih =>
      intro S σ l1 l2 l3 hR hF h
      simp only [bv_X6_beginWith_35] at h
      simp only [b_X6_beginWith_35]
      try simp only [hR.1, hR.2.1, hR.2.2.1]
      refine ⟨fun hc9 => ?_, fun hc9 => ?_⟩
      · have h := h.1 hc9
        refine ⟨hR.2.2.2.1, ?_⟩
        refine ⟨fun hc3 => ?_, fun hc3 => ?_⟩
        · have h := h.1 hc3
          exact g94 _ _ _ _ _ hR hF h
        · have h := h.2 hc3
          refine ⟨fun hc2 => ?_, fun hc2 => ?_⟩
          · have h := h.1 hc2
            exact g94 _ _ _ _ _ hR hF h
          · have h := h.2 hc2
            intro S1 hS1
            obtain ⟨σ1, hσ1⟩ : ∃ z : Sg, z = sF σ 13 l2 := ⟨_, rfl⟩
            have h := h σ1 hσ1
            obtain ⟨hR1, hF1⟩ := rm_putF hR hS1 hσ1
            have hF1 := Fm.tr hF hF1
            try simp only [hR1.1, hR1.2.1, hR1.2.2.1]
            exact g94 _ _ _ _ _ hR1 hF1 h
      · have h := h.2 hc9
        refine ⟨hR.2.2.2.1, ?_⟩
        refine ⟨rm_kT hR (by decide) rfl, ?_⟩
        obtain ⟨hi4, h⟩ := h
        refine ⟨(rm_kL hR (k := 9) rfl (by decide)) ▸ hi4, ?_⟩
        intro S5 hS5
        obtain ⟨σ5, hσ5⟩ : ∃ z : Sg, z = sA σ 9 (ix ((32 * l2) + l3)) ((-1)) := ⟨_, rfl⟩
        have h := h σ5 hσ5
        obtain ⟨hR5, hF5⟩ := rm_putA hR (k := 9) (by decide) hS5 hσ5
        have hF5 := Fm.tr hF hF5
        try simp only [hR5.1, hR5.2.1, hR5.2.2.1]
        refine ⟨rm_kT hR5 (by decide) rfl, ?_⟩
        obtain ⟨hi6, h⟩ := h
        refine ⟨(rm_kL hR5 (k := 10) rfl (by decide)) ▸ hi6, ?_⟩
        intro S7 hS7
        obtain ⟨σ7, hσ7⟩ : ∃ z : Sg, z = sA σ5 10 (ix ((32 * l2) + l3)) ((-5000)) := ⟨_, rfl⟩
        have h := h σ7 hσ7
        obtain ⟨hR7, hF7⟩ := rm_putA hR5 (k := 10) (by decide) hS7 hσ7
        have hF7 := Fm.tr hF5 hF7
        try simp only [hR7.1, hR7.2.1, hR7.2.2.1]
        intro v8 hv8
        have h := h v8 hv8
        exact ih _ _ _ _ _ hR7 hF7 h
  unfold v_X6_beginWith at h
  unfold w_X6_beginWith
  try simp only [hR.1, hR.2.1, hR.2.2.1]
  refine ⟨hR.2.2.2.1, ?_⟩
  intro v1 hv1
  have h := h v1 hv1
  refine ⟨rm_kT hR (by decide) rfl, ?_⟩
  obtain ⟨hi2, h⟩ := h
  refine ⟨(rm_kL hR (k := 2) rfl (by decide)) ▸ hi2, ?_⟩
  intro S3 hS3
  obtain ⟨σ3, hσ3⟩ : ∃ z : Sg, z = sA σ 2 (ix v1) 0 := ⟨_, rfl⟩
  have h := h σ3 hσ3
  obtain ⟨hR3, hF3⟩ := rm_putA hR (k := 2) (by decide) hS3 hσ3
  have hF3 := Fm.tr hF hF3
  try simp only [hR3.1, hR3.2.1, hR3.2.2.1]
  refine ⟨rm_kT hR3 (by decide) rfl, ?_⟩
  obtain ⟨hi4, h⟩ := h
  refine ⟨(rm_kL hR3 (k := 3) rfl (by decide)) ▸ hi4, ?_⟩
  intro S5 hS5
  obtain ⟨σ5, hσ5⟩ : ∃ z : Sg, z = sA σ3 3 (ix v1) a1 := ⟨_, rfl⟩
  have h := h σ5 hσ5
  obtain ⟨hR5, hF5⟩ := rm_putA hR3 (k := 3) (by decide) hS5 hσ5
  have hF5 := Fm.tr hF3 hF5
  try simp only [hR5.1, hR5.2.1, hR5.2.2.1]
  refine ⟨rm_kT hR5 (by decide) rfl, ?_⟩
  obtain ⟨hi6, h⟩ := h
  refine ⟨(rm_kL hR5 (k := 7) rfl (by decide)) ▸ hi6, ?_⟩
  intro S7 hS7
  obtain ⟨σ7, hσ7⟩ : ∃ z : Sg, z = sA σ5 7 (ix v1) 0 := ⟨_, rfl⟩
  have h := h σ7 hσ7
  obtain ⟨hR7, hF7⟩ := rm_putA hR5 (k := 7) (by decide) hS7 hσ7
  have hF7 := Fm.tr hF5 hF7
  try simp only [hR7.1, hR7.2.1, hR7.2.2.1]
  refine ⟨rm_kT hR7 (by decide) rfl, ?_⟩
  obtain ⟨hi8, h⟩ := h
  refine ⟨(rm_kL hR7 (k := 12) rfl (by decide)) ▸ hi8, ?_⟩
  intro S9 hS9
  obtain ⟨σ9, hσ9⟩ : ∃ z : Sg, z = sA σ7 12 (ix v1) 0 := ⟨_, rfl⟩
  have h := h σ9 hσ9
  obtain ⟨hR9, hF9⟩ := rm_putA hR7 (k := 12) (by decide) hS9 hσ9
  have hF9 := Fm.tr hF7 hF9
  try simp only [hR9.1, hR9.2.1, hR9.2.2.1]
  obtain ⟨f35, h⟩ := h
  exact ⟨f35, g35 f35 _ _ _ _ _ hR9 hF9 h⟩
def bv_X6_begin_25 (P : Int32 → Sg → Prop) (σ : Sg) (s0 : Int32) : Prop := P s0 σ
def v_X6_begin (σ : Sg)  (P : Int32 → Sg → Prop) : Prop := ∀ σ1 : Sg, σ1 = sF σ 0 0 → v_X6_hasRoom σ1 (fun r2 σ2 => ((r2 = 0 → v_X6_fail σ2 1 (fun r3 σ3 => bv_X6_begin_25 P σ3 r3)) ∧ (¬ r2 = 0 → v_X6_beginWith σ2 1 (fun r4 σ4 => bv_X6_begin_25 P σ4 r4))))
set_option maxHeartbeats 4000000 in
theorem vr_X6_begin {m : Nat} {ad : Nat → Nat} {S : MS} {σ : Sg}  {P : Int32 → Sg → Prop} {post : Int32 → MS → Prop} (hR : RM m ad S σ) (h : v_X6_begin σ  P) (hpost : ∀ (r : Int32) (σ2 : Sg) (S2 : MS), P r σ2 → RM m ad S2 σ2 → Fm m ad S S2 → post r S2) : w_X6_begin S m  post := by
  have hpost := fun r σ2 S2 h1 h2 h3 => hpost r σ2 S2 h1 h2 h3
  have hF := Fm.rf m ad S
  obtain ⟨S0, hS0⟩ : ∃ z : MS, z = S := ⟨_, rfl⟩
  rw [← hS0] at hpost
  have hF : Fm m ad S0 S := by rw [hS0]; exact hF
  have g25 : ∀ (S : MS) (σ : Sg) (s0 : Int32), RM m ad S σ → Fm m ad S0 S → bv_X6_begin_25 P σ s0 → b_X6_begin_25 post S m s0 := by
    intro  S σ s0 hR hF h
    unfold bv_X6_begin_25 at h
    unfold b_X6_begin_25
    try simp only [hR.1, hR.2.1, hR.2.2.1]
    exact hpost _ _ _ h hR hF
  unfold v_X6_begin at h
  unfold w_X6_begin
  try simp only [hR.1, hR.2.1, hR.2.2.1]
  refine ⟨hR.2.2.2.1, ?_⟩
  intro S1 hS1
  obtain ⟨σ1, hσ1⟩ : ∃ z : Sg, z = sF σ 0 0 := ⟨_, rfl⟩
  have h := h σ1 hσ1
  obtain ⟨hR1, hF1⟩ := rm_putF hR hS1 hσ1
  have hF1 := Fm.tr hF hF1
  try simp only [hR1.1, hR1.2.1, hR1.2.2.1]
  refine vr_X6_hasRoom hR1 h (fun r2 σ2 S2 h hR2 hF2 => ?_)
  have hF2 := Fm.tr hF1 hF2
  try simp only [hR2.1, hR2.2.1, hR2.2.2.1]
  refine ⟨fun hc5 => ?_, fun hc5 => ?_⟩
  · have h := h.1 hc5
    refine ⟨hR2.2.2.2.1, ?_⟩
    refine vr_X6_fail hR2 h (fun r3 σ3 S3 h hR3 hF3 => ?_)
    have hF3 := Fm.tr hF2 hF3
    try simp only [hR3.1, hR3.2.1, hR3.2.2.1]
    exact g25 _ _ _ hR3 hF3 h
  · have h := h.2 hc5
    refine ⟨hR2.2.2.2.1, ?_⟩
    refine vr_X6_beginWith hR2 h (fun r4 σ4 S4 h hR4 hF4 => ?_)
    have hF4 := Fm.tr hF2 hF4
    try simp only [hR4.1, hR4.2.1, hR4.2.2.1]
    exact g25 _ _ _ hR4 hF4 h
def bv_X6_retry_45 (P : Int32 → Sg → Prop) (σ : Sg) (l1 : Int32) : Prop := v_X6_fail σ 2 (fun r1 σ1 => P r1 σ1)
def v_X6_retry (σ : Sg) (a1 : Int32) (P : Int32 → Sg → Prop) : Prop := ∀ σ1 : Sg, σ1 = sF σ 0 0 → v_X6_isTransaction σ1 a1 (fun r2 σ2 => ((¬ r2 = 0 → vp_in a1 80 ∧ ((¬ (σ2.2 2 (ix a1)) = 2 → bv_X6_retry_45 P σ2 a1) ∧ ((σ2.2 2 (ix a1)) = 2 → vp_in a1 80 ∧ ((¬ (σ2.2 6 (ix a1)) = 0 → bv_X6_retry_45 P σ2 a1) ∧ ((σ2.2 6 (ix a1)) = 0 → v_X6_hasRoom σ2 (fun r5 σ5 => ((¬ r5 = 0 → vp_in a1 80 ∧ ∀ σ7 : Sg, σ7 = sA σ5 6 (ix a1) (vp_nar .boolean 1) → vp_in a1 80 ∧ v_X6_beginWith σ7 ((σ7.2 3 (ix a1)) + 1) (fun r9 σ9 => P r9 σ9)) ∧ (r5 = 0 → bv_X6_retry_45 P σ5 a1)))))))) ∧ (r2 = 0 → v_X6_fail σ2 1 (fun r13 σ13 => P r13 σ13))))
set_option maxHeartbeats 4000000 in
theorem vr_X6_retry {m : Nat} {ad : Nat → Nat} {S : MS} {σ : Sg} {a1 : Int32} {P : Int32 → Sg → Prop} {post : Int32 → MS → Prop} (hR : RM m ad S σ) (h : v_X6_retry σ a1 P) (hpost : ∀ (r : Int32) (σ2 : Sg) (S2 : MS), P r σ2 → RM m ad S2 σ2 → Fm m ad S S2 → post r S2) : w_X6_retry S m a1 post := by
  have hpost := fun r σ2 S2 h1 h2 h3 => hpost r σ2 S2 h1 h2 h3
  have hF := Fm.rf m ad S
  obtain ⟨S0, hS0⟩ : ∃ z : MS, z = S := ⟨_, rfl⟩
  rw [← hS0] at hpost
  have hF : Fm m ad S0 S := by rw [hS0]; exact hF
  have g45 : ∀ (S : MS) (σ : Sg) (l1 : Int32), RM m ad S σ → Fm m ad S0 S → bv_X6_retry_45 P σ l1 → b_X6_retry_45 post S m l1  := by
    intro  S σ l1 hR hF h
    unfold bv_X6_retry_45 at h
    unfold b_X6_retry_45
    try simp only [hR.1, hR.2.1, hR.2.2.1]
    refine ⟨hR.2.2.2.1, ?_⟩
    refine vr_X6_fail hR h (fun r1 σ1 S1 h hR1 hF1 => ?_)
    have hF1 := Fm.tr hF hF1
    try simp only [hR1.1, hR1.2.1, hR1.2.2.1]
    exact hpost _ _ _ h hR1 hF1
  unfold v_X6_retry at h
  unfold w_X6_retry
  try simp only [hR.1, hR.2.1, hR.2.2.1]
  refine ⟨hR.2.2.2.1, ?_⟩
  intro S1 hS1
  obtain ⟨σ1, hσ1⟩ : ∃ z : Sg, z = sF σ 0 0 := ⟨_, rfl⟩
  have h := h σ1 hσ1
  obtain ⟨hR1, hF1⟩ := rm_putF hR hS1 hσ1
  have hF1 := Fm.tr hF hF1
  try simp only [hR1.1, hR1.2.1, hR1.2.2.1]
  refine vr_X6_isTransaction hR1 h (fun r2 σ2 S2 h hR2 hF2 => ?_)
  have hF2 := Fm.tr hF1 hF2
  try simp only [hR2.1, hR2.2.1, hR2.2.2.1]
  refine ⟨fun hc14 => ?_, fun hc14 => ?_⟩
  · have h := h.1 hc14
    refine ⟨hR2.2.2.2.1, ?_⟩
    refine ⟨rm_kT hR2 (by decide) rfl, ?_⟩
    obtain ⟨hi3, h⟩ := h
    refine ⟨(rm_kL hR2 (k := 2) rfl (by decide)) ▸ hi3, ?_⟩
    refine ⟨fun hc12 => ?_, fun hc12 => ?_⟩
    · have h := h.1 hc12
      exact g45 _ _ _ hR2 hF2 h
    · have h := h.2 hc12
      refine ⟨rm_kT hR2 (by decide) rfl, ?_⟩
      obtain ⟨hi4, h⟩ := h
      refine ⟨(rm_kL hR2 (k := 6) rfl (by decide)) ▸ hi4, ?_⟩
      refine ⟨fun hc11 => ?_, fun hc11 => ?_⟩
      · have h := h.1 hc11
        exact g45 _ _ _ hR2 hF2 h
      · have h := h.2 hc11
        refine vr_X6_hasRoom hR2 h (fun r5 σ5 S5 h hR5 hF5 => ?_)
        have hF5 := Fm.tr hF2 hF5
        try simp only [hR5.1, hR5.2.1, hR5.2.2.1]
        refine ⟨fun hc10 => ?_, fun hc10 => ?_⟩
        · have h := h.1 hc10
          refine ⟨hR5.2.2.2.1, ?_⟩
          refine ⟨rm_kT hR5 (by decide) rfl, ?_⟩
          obtain ⟨hi6, h⟩ := h
          refine ⟨(rm_kL hR5 (k := 6) rfl (by decide)) ▸ hi6, ?_⟩
          intro S7 hS7
          obtain ⟨σ7, hσ7⟩ : ∃ z : Sg, z = sA σ5 6 (ix a1) (vp_nar .boolean 1) := ⟨_, rfl⟩
          have h := h σ7 hσ7
          obtain ⟨hR7, hF7⟩ := rm_putA hR5 (k := 6) (by decide) hS7 hσ7
          have hF7 := Fm.tr hF5 hF7
          try simp only [hR7.1, hR7.2.1, hR7.2.2.1]
          refine ⟨rm_kT hR7 (by decide) rfl, ?_⟩
          obtain ⟨hi8, h⟩ := h
          refine ⟨(rm_kL hR7 (k := 3) rfl (by decide)) ▸ hi8, ?_⟩
          refine vr_X6_beginWith hR7 h (fun r9 σ9 S9 h hR9 hF9 => ?_)
          have hF9 := Fm.tr hF7 hF9
          try simp only [hR9.1, hR9.2.1, hR9.2.2.1]
          exact hpost _ _ _ h hR9 hF9
        · have h := h.2 hc10
          exact g45 _ _ _ hR5 hF5 h
  · have h := h.2 hc14
    refine ⟨hR2.2.2.2.1, ?_⟩
    refine vr_X6_fail hR2 h (fun r13 σ13 S13 h hR13 hF13 => ?_)
    have hF13 := Fm.tr hF2 hF13
    try simp only [hR13.1, hR13.2.1, hR13.2.2.1]
    exact hpost _ _ _ h hR13 hF13
def bv_X6_viewed_32 (P : Int32 → Sg → Prop) (σ : Sg) (l1 : Int32) (l2 : Int32) (l3 : Int32) (s0 : Int32) : Prop := P s0 σ
def v_X6_viewed (σ : Sg) (a1 : Int32) (a2 : Int32) (P : Int32 → Sg → Prop) : Prop := vp_in ((32 * a1) + a2) 2560 ∧ ∀ v2 : Int32, v2 = σ.2 10 (ix ((32 * a1) + a2)) → ((¬ v2 = ((-5000)) → bv_X6_viewed_32 P σ a1 a2 v2 v2) ∧ (v2 = ((-5000)) → v_X6_stored σ (σ.1 14) a2 (fun r3 σ3 => bv_X6_viewed_32 P σ3 a1 a2 v2 r3)))
set_option maxHeartbeats 4000000 in
theorem vr_X6_viewed {m : Nat} {ad : Nat → Nat} {S : MS} {σ : Sg} {a1 : Int32} {a2 : Int32} {P : Int32 → Sg → Prop} {post : Int32 → MS → Prop} (hR : RM m ad S σ) (h : v_X6_viewed σ a1 a2 P) (hpost : ∀ (r : Int32) (σ2 : Sg) (S2 : MS), P r σ2 → RM m ad S2 σ2 → Fm m ad S S2 → post r S2) : w_X6_viewed S m a1 a2 post := by
  have hpost := fun r σ2 S2 h1 h2 h3 => hpost r σ2 S2 h1 h2 h3
  have hF := Fm.rf m ad S
  obtain ⟨S0, hS0⟩ : ∃ z : MS, z = S := ⟨_, rfl⟩
  rw [← hS0] at hpost
  have hF : Fm m ad S0 S := by rw [hS0]; exact hF
  have g32 : ∀ (S : MS) (σ : Sg) (l1 : Int32) (l2 : Int32) (l3 : Int32) (s0 : Int32), RM m ad S σ → Fm m ad S0 S → bv_X6_viewed_32 P σ l1 l2 l3 s0 → b_X6_viewed_32 post S m l1 l2 l3 s0 := by
    intro  S σ l1 l2 l3 s0 hR hF h
    unfold bv_X6_viewed_32 at h
    unfold b_X6_viewed_32
    try simp only [hR.1, hR.2.1, hR.2.2.1]
    exact hpost _ _ _ h hR hF
  unfold v_X6_viewed at h
  unfold w_X6_viewed
  try simp only [hR.1, hR.2.1, hR.2.2.1]
  refine ⟨hR.2.2.2.1, ?_⟩
  refine ⟨rm_kT hR (by decide) rfl, ?_⟩
  obtain ⟨hi1, h⟩ := h
  refine ⟨(rm_kL hR (k := 10) rfl (by decide)) ▸ hi1, ?_⟩
  intro v2 hv2
  have h := h v2 hv2
  refine ⟨fun hc4 => ?_, fun hc4 => ?_⟩
  · have h := h.1 hc4
    exact g32 _ _ _ _ _ _ hR hF h
  · have h := h.2 hc4
    refine vr_X6_stored hR h (fun r3 σ3 S3 h hR3 hF3 => ?_)
    have hF3 := Fm.tr hF hF3
    try simp only [hR3.1, hR3.2.1, hR3.2.2.1]
    exact g32 _ _ _ _ _ _ hR3 hF3 h
def bv_X6_recordKey_47 (P : Sg → Prop) (σ : Sg) (l1 : Int32) (l2 : Int32) : Prop := P σ
def v_X6_recordKey (σ : Sg) (a1 : Int32) (a2 : Int32) (P : Sg → Prop) : Prop := vp_in ((32 * a1) + a2) 2560 ∧ ((¬ (σ.2 10 (ix ((32 * a1) + a2))) = ((-5000)) → bv_X6_recordKey_47 P σ a1 a2) ∧ ((σ.2 10 (ix ((32 * a1) + a2))) = ((-5000)) → vp_in ((32 * a1) + a2) 2560 ∧ ((¬ (σ.2 9 (ix ((32 * a1) + a2))) = ((-1)) → bv_X6_recordKey_47 P σ a1 a2) ∧ ((σ.2 9 (ix ((32 * a1) + a2))) = ((-1)) → vp_in ((32 * a1) + a2) 2560 ∧ ∀ σ4 : Sg, σ4 = sA σ 9 (ix ((32 * a1) + a2)) (σ.1 14) → bv_X6_recordKey_47 P σ4 a1 a2))))
set_option maxHeartbeats 4000000 in
theorem vr_X6_recordKey {m : Nat} {ad : Nat → Nat} {S : MS} {σ : Sg} {a1 : Int32} {a2 : Int32} {P : Sg → Prop} {post : MS → Prop} (hR : RM m ad S σ) (h : v_X6_recordKey σ a1 a2 P) (hpost : ∀ (σ2 : Sg) (S2 : MS), P σ2 → RM m ad S2 σ2 → Fm m ad S S2 → post S2) : w_X6_recordKey S m a1 a2 post := by
  have hpost := fun σ2 S2 h1 h2 h3 => hpost σ2 S2 h1 h2 h3
  have hF := Fm.rf m ad S
  obtain ⟨S0, hS0⟩ : ∃ z : MS, z = S := ⟨_, rfl⟩
  rw [← hS0] at hpost
  have hF : Fm m ad S0 S := by rw [hS0]; exact hF
  have g47 : ∀ (S : MS) (σ : Sg) (l1 : Int32) (l2 : Int32), RM m ad S σ → Fm m ad S0 S → bv_X6_recordKey_47 P σ l1 l2 → b_X6_recordKey_47 post S m l1 l2  := by
    intro  S σ l1 l2 hR hF h
    unfold bv_X6_recordKey_47 at h
    unfold b_X6_recordKey_47
    try simp only [hR.1, hR.2.1, hR.2.2.1]
    exact hpost _ _ h hR hF
  unfold v_X6_recordKey at h
  unfold w_X6_recordKey
  try simp only [hR.1, hR.2.1, hR.2.2.1]
  refine ⟨hR.2.2.2.1, ?_⟩
  refine ⟨rm_kT hR (by decide) rfl, ?_⟩
  obtain ⟨hi1, h⟩ := h
  refine ⟨(rm_kL hR (k := 10) rfl (by decide)) ▸ hi1, ?_⟩
  refine ⟨fun hc6 => ?_, fun hc6 => ?_⟩
  · have h := h.1 hc6
    exact g47 _ _ _ _ hR hF h
  · have h := h.2 hc6
    refine ⟨rm_kT hR (by decide) rfl, ?_⟩
    obtain ⟨hi2, h⟩ := h
    refine ⟨(rm_kL hR (k := 9) rfl (by decide)) ▸ hi2, ?_⟩
    refine ⟨fun hc5 => ?_, fun hc5 => ?_⟩
    · have h := h.1 hc5
      exact g47 _ _ _ _ hR hF h
    · have h := h.2 hc5
      obtain ⟨hi3, h⟩ := h
      refine ⟨(rm_kL hR (k := 9) rfl (by decide)) ▸ hi3, ?_⟩
      intro S4 hS4
      obtain ⟨σ4, hσ4⟩ : ∃ z : Sg, z = sA σ 9 (ix ((32 * a1) + a2)) (σ.1 14) := ⟨_, rfl⟩
      have h := h σ4 hσ4
      obtain ⟨hR4, hF4⟩ := rm_putA hR (k := 9) (by decide) hS4 hσ4
      have hF4 := Fm.tr hF hF4
      try simp only [hR4.1, hR4.2.1, hR4.2.2.1]
      exact g47 _ _ _ _ hR4 hF4 h
def v_X6_recordRange (σ : Sg) (a1 : Int32) (a2 : Int32) (a3 : Int32) (a4 : Int32) (P : Sg → Prop) : Prop := vp_in a1 80 ∧ ∀ v2 : Int32, v2 = 4 * ((24 * a1) + (σ.2 12 (ix a1))) → vp_in v2 7680 ∧ ∀ σ4 : Sg, σ4 = sA σ 11 (ix v2) a2 → vp_in (v2 + 1) 7680 ∧ ∀ σ6 : Sg, σ6 = sA σ4 11 (ix (v2 + 1)) a3 → vp_in (v2 + 2) 7680 ∧ ∀ σ8 : Sg, σ8 = sA σ6 11 (ix (v2 + 2)) a4 → vp_in (v2 + 3) 7680 ∧ ∀ σ10 : Sg, σ10 = sA σ8 11 (ix (v2 + 3)) (σ8.1 14) → vp_in a1 80 ∧ vp_in a1 80 ∧ ∀ σ13 : Sg, σ13 = sA σ10 12 (ix a1) ((σ10.2 12 (ix a1)) + 1) → P σ13
set_option maxHeartbeats 4000000 in
theorem vr_X6_recordRange {m : Nat} {ad : Nat → Nat} {S : MS} {σ : Sg} {a1 : Int32} {a2 : Int32} {a3 : Int32} {a4 : Int32} {P : Sg → Prop} {post : MS → Prop} (hR : RM m ad S σ) (h : v_X6_recordRange σ a1 a2 a3 a4 P) (hpost : ∀ (σ2 : Sg) (S2 : MS), P σ2 → RM m ad S2 σ2 → Fm m ad S S2 → post S2) : w_X6_recordRange S m a1 a2 a3 a4 post := by
  have hpost := fun σ2 S2 h1 h2 h3 => hpost σ2 S2 h1 h2 h3
  have hF := Fm.rf m ad S
  obtain ⟨S0, hS0⟩ : ∃ z : MS, z = S := ⟨_, rfl⟩
  rw [← hS0] at hpost
  have hF : Fm m ad S0 S := by rw [hS0]; exact hF
  unfold v_X6_recordRange at h
  unfold w_X6_recordRange
  try simp only [hR.1, hR.2.1, hR.2.2.1]
  refine ⟨hR.2.2.2.1, ?_⟩
  refine ⟨rm_kT hR (by decide) rfl, ?_⟩
  obtain ⟨hi1, h⟩ := h
  refine ⟨(rm_kL hR (k := 12) rfl (by decide)) ▸ hi1, ?_⟩
  intro v2 hv2
  have h := h v2 hv2
  refine ⟨rm_kT hR (by decide) rfl, ?_⟩
  obtain ⟨hi3, h⟩ := h
  refine ⟨(rm_kL hR (k := 11) rfl (by decide)) ▸ hi3, ?_⟩
  intro S4 hS4
  obtain ⟨σ4, hσ4⟩ : ∃ z : Sg, z = sA σ 11 (ix v2) a2 := ⟨_, rfl⟩
  have h := h σ4 hσ4
  obtain ⟨hR4, hF4⟩ := rm_putA hR (k := 11) (by decide) hS4 hσ4
  have hF4 := Fm.tr hF hF4
  try simp only [hR4.1, hR4.2.1, hR4.2.2.1]
  refine ⟨rm_kT hR4 (by decide) rfl, ?_⟩
  obtain ⟨hi5, h⟩ := h
  refine ⟨(rm_kL hR4 (k := 11) rfl (by decide)) ▸ hi5, ?_⟩
  intro S6 hS6
  obtain ⟨σ6, hσ6⟩ : ∃ z : Sg, z = sA σ4 11 (ix (v2 + 1)) a3 := ⟨_, rfl⟩
  have h := h σ6 hσ6
  obtain ⟨hR6, hF6⟩ := rm_putA hR4 (k := 11) (by decide) hS6 hσ6
  have hF6 := Fm.tr hF4 hF6
  try simp only [hR6.1, hR6.2.1, hR6.2.2.1]
  refine ⟨rm_kT hR6 (by decide) rfl, ?_⟩
  obtain ⟨hi7, h⟩ := h
  refine ⟨(rm_kL hR6 (k := 11) rfl (by decide)) ▸ hi7, ?_⟩
  intro S8 hS8
  obtain ⟨σ8, hσ8⟩ : ∃ z : Sg, z = sA σ6 11 (ix (v2 + 2)) a4 := ⟨_, rfl⟩
  have h := h σ8 hσ8
  obtain ⟨hR8, hF8⟩ := rm_putA hR6 (k := 11) (by decide) hS8 hσ8
  have hF8 := Fm.tr hF6 hF8
  try simp only [hR8.1, hR8.2.1, hR8.2.2.1]
  refine ⟨rm_kT hR8 (by decide) rfl, ?_⟩
  obtain ⟨hi9, h⟩ := h
  refine ⟨(rm_kL hR8 (k := 11) rfl (by decide)) ▸ hi9, ?_⟩
  intro S10 hS10
  obtain ⟨σ10, hσ10⟩ : ∃ z : Sg, z = sA σ8 11 (ix (v2 + 3)) (σ8.1 14) := ⟨_, rfl⟩
  have h := h σ10 hσ10
  obtain ⟨hR10, hF10⟩ := rm_putA hR8 (k := 11) (by decide) hS10 hσ10
  have hF10 := Fm.tr hF8 hF10
  try simp only [hR10.1, hR10.2.1, hR10.2.2.1]
  refine ⟨rm_kT hR10 (by decide) rfl, ?_⟩
  obtain ⟨hi11, h⟩ := h
  refine ⟨(rm_kL hR10 (k := 12) rfl (by decide)) ▸ hi11, ?_⟩
  obtain ⟨hi12, h⟩ := h
  refine ⟨(rm_kL hR10 (k := 12) rfl (by decide)) ▸ hi12, ?_⟩
  intro S13 hS13
  obtain ⟨σ13, hσ13⟩ : ∃ z : Sg, z = sA σ10 12 (ix a1) ((σ10.2 12 (ix a1)) + 1) := ⟨_, rfl⟩
  have h := h σ13 hσ13
  obtain ⟨hR13, hF13⟩ := rm_putA hR10 (k := 12) (by decide) hS13 hσ13
  have hF13 := Fm.tr hF10 hF13
  try simp only [hR13.1, hR13.2.1, hR13.2.2.1]
  exact hpost _ _ h hR13 hF13
def v_X6_list (σ : Sg) (a1 : Int32) (a2 : Int32) (a3 : Int32) (a4 : Int32) (a5 : Int32) (a6 : Int32) (P : Sg → Prop) : Prop := vp_in a1 80 ∧ ∀ v2 : Int32, v2 = 5 * ((24 * a1) + (σ.2 7 (ix a1))) → vp_in v2 9600 ∧ ∀ σ4 : Sg, σ4 = sA σ 8 (ix v2) a2 → vp_in (v2 + 1) 9600 ∧ ∀ σ6 : Sg, σ6 = sA σ4 8 (ix (v2 + 1)) a3 → vp_in (v2 + 2) 9600 ∧ ∀ σ8 : Sg, σ8 = sA σ6 8 (ix (v2 + 2)) a4 → vp_in (v2 + 3) 9600 ∧ ∀ σ10 : Sg, σ10 = sA σ8 8 (ix (v2 + 3)) a5 → vp_in (v2 + 4) 9600 ∧ ∀ σ12 : Sg, σ12 = sA σ10 8 (ix (v2 + 4)) a6 → vp_in a1 80 ∧ vp_in a1 80 ∧ ∀ σ15 : Sg, σ15 = sA σ12 7 (ix a1) ((σ12.2 7 (ix a1)) + 1) → P σ15
set_option maxHeartbeats 4000000 in
theorem vr_X6_list {m : Nat} {ad : Nat → Nat} {S : MS} {σ : Sg} {a1 : Int32} {a2 : Int32} {a3 : Int32} {a4 : Int32} {a5 : Int32} {a6 : Int32} {P : Sg → Prop} {post : MS → Prop} (hR : RM m ad S σ) (h : v_X6_list σ a1 a2 a3 a4 a5 a6 P) (hpost : ∀ (σ2 : Sg) (S2 : MS), P σ2 → RM m ad S2 σ2 → Fm m ad S S2 → post S2) : w_X6_list S m a1 a2 a3 a4 a5 a6 post := by
  have hpost := fun σ2 S2 h1 h2 h3 => hpost σ2 S2 h1 h2 h3
  have hF := Fm.rf m ad S
  obtain ⟨S0, hS0⟩ : ∃ z : MS, z = S := ⟨_, rfl⟩
  rw [← hS0] at hpost
  have hF : Fm m ad S0 S := by rw [hS0]; exact hF
  unfold v_X6_list at h
  unfold w_X6_list
  try simp only [hR.1, hR.2.1, hR.2.2.1]
  refine ⟨hR.2.2.2.1, ?_⟩
  refine ⟨rm_kT hR (by decide) rfl, ?_⟩
  obtain ⟨hi1, h⟩ := h
  refine ⟨(rm_kL hR (k := 7) rfl (by decide)) ▸ hi1, ?_⟩
  intro v2 hv2
  have h := h v2 hv2
  refine ⟨rm_kT hR (by decide) rfl, ?_⟩
  obtain ⟨hi3, h⟩ := h
  refine ⟨(rm_kL hR (k := 8) rfl (by decide)) ▸ hi3, ?_⟩
  intro S4 hS4
  obtain ⟨σ4, hσ4⟩ : ∃ z : Sg, z = sA σ 8 (ix v2) a2 := ⟨_, rfl⟩
  have h := h σ4 hσ4
  obtain ⟨hR4, hF4⟩ := rm_putA hR (k := 8) (by decide) hS4 hσ4
  have hF4 := Fm.tr hF hF4
  try simp only [hR4.1, hR4.2.1, hR4.2.2.1]
  refine ⟨rm_kT hR4 (by decide) rfl, ?_⟩
  obtain ⟨hi5, h⟩ := h
  refine ⟨(rm_kL hR4 (k := 8) rfl (by decide)) ▸ hi5, ?_⟩
  intro S6 hS6
  obtain ⟨σ6, hσ6⟩ : ∃ z : Sg, z = sA σ4 8 (ix (v2 + 1)) a3 := ⟨_, rfl⟩
  have h := h σ6 hσ6
  obtain ⟨hR6, hF6⟩ := rm_putA hR4 (k := 8) (by decide) hS6 hσ6
  have hF6 := Fm.tr hF4 hF6
  try simp only [hR6.1, hR6.2.1, hR6.2.2.1]
  refine ⟨rm_kT hR6 (by decide) rfl, ?_⟩
  obtain ⟨hi7, h⟩ := h
  refine ⟨(rm_kL hR6 (k := 8) rfl (by decide)) ▸ hi7, ?_⟩
  intro S8 hS8
  obtain ⟨σ8, hσ8⟩ : ∃ z : Sg, z = sA σ6 8 (ix (v2 + 2)) a4 := ⟨_, rfl⟩
  have h := h σ8 hσ8
  obtain ⟨hR8, hF8⟩ := rm_putA hR6 (k := 8) (by decide) hS8 hσ8
  have hF8 := Fm.tr hF6 hF8
  try simp only [hR8.1, hR8.2.1, hR8.2.2.1]
  refine ⟨rm_kT hR8 (by decide) rfl, ?_⟩
  obtain ⟨hi9, h⟩ := h
  refine ⟨(rm_kL hR8 (k := 8) rfl (by decide)) ▸ hi9, ?_⟩
  intro S10 hS10
  obtain ⟨σ10, hσ10⟩ : ∃ z : Sg, z = sA σ8 8 (ix (v2 + 3)) a5 := ⟨_, rfl⟩
  have h := h σ10 hσ10
  obtain ⟨hR10, hF10⟩ := rm_putA hR8 (k := 8) (by decide) hS10 hσ10
  have hF10 := Fm.tr hF8 hF10
  try simp only [hR10.1, hR10.2.1, hR10.2.2.1]
  refine ⟨rm_kT hR10 (by decide) rfl, ?_⟩
  obtain ⟨hi11, h⟩ := h
  refine ⟨(rm_kL hR10 (k := 8) rfl (by decide)) ▸ hi11, ?_⟩
  intro S12 hS12
  obtain ⟨σ12, hσ12⟩ : ∃ z : Sg, z = sA σ10 8 (ix (v2 + 4)) a6 := ⟨_, rfl⟩
  have h := h σ12 hσ12
  obtain ⟨hR12, hF12⟩ := rm_putA hR10 (k := 8) (by decide) hS12 hσ12
  have hF12 := Fm.tr hF10 hF12
  try simp only [hR12.1, hR12.2.1, hR12.2.2.1]
  refine ⟨rm_kT hR12 (by decide) rfl, ?_⟩
  obtain ⟨hi13, h⟩ := h
  refine ⟨(rm_kL hR12 (k := 7) rfl (by decide)) ▸ hi13, ?_⟩
  obtain ⟨hi14, h⟩ := h
  refine ⟨(rm_kL hR12 (k := 7) rfl (by decide)) ▸ hi14, ?_⟩
  intro S15 hS15
  obtain ⟨σ15, hσ15⟩ : ∃ z : Sg, z = sA σ12 7 (ix a1) ((σ12.2 7 (ix a1)) + 1) := ⟨_, rfl⟩
  have h := h σ15 hσ15
  obtain ⟨hR15, hF15⟩ := rm_putA hR12 (k := 7) (by decide) hS15 hσ15
  have hF15 := Fm.tr hF12 hF15
  try simp only [hR15.1, hR15.2.1, hR15.2.2.1]
  exact hpost _ _ h hR15 hF15
def bv_X6_problem_45 (P : Int32 → Sg → Prop) (σ : Sg) (l1 : Int32) (l2 : Int32) (s0 : Int32) : Prop := P s0 σ
def bv_X6_problem_40 (P : Int32 → Sg → Prop) (σ : Sg) (l1 : Int32) (l2 : Int32) : Prop := bv_X6_problem_45 P σ l1 l2 3
def v_X6_problem (σ : Sg) (a1 : Int32) (a2 : Int32) (P : Int32 → Sg → Prop) : Prop := v_X6_isTransaction σ a1 (fun r1 σ1 => ((¬ r1 = 0 → ((¬ a2 = 0 → vp_in a1 80 ∧ ((¬ (σ1.2 2 (ix a1)) = 0 → bv_X6_problem_40 P σ1 a1 a2) ∧ ((σ1.2 2 (ix a1)) = 0 → vp_in a1 80 ∧ ((¬ (σ1.2 7 (ix a1)) = 24 → bv_X6_problem_45 P σ1 a1 a2 0) ∧ ((σ1.2 7 (ix a1)) = 24 → bv_X6_problem_40 P σ1 a1 a2))))) ∧ (a2 = 0 → bv_X6_problem_45 P σ1 a1 a2 2))) ∧ (r1 = 0 → bv_X6_problem_45 P σ1 a1 a2 1)))
set_option maxHeartbeats 4000000 in
theorem vr_X6_problem {m : Nat} {ad : Nat → Nat} {S : MS} {σ : Sg} {a1 : Int32} {a2 : Int32} {P : Int32 → Sg → Prop} {post : Int32 → MS → Prop} (hR : RM m ad S σ) (h : v_X6_problem σ a1 a2 P) (hpost : ∀ (r : Int32) (σ2 : Sg) (S2 : MS), P r σ2 → RM m ad S2 σ2 → Fm m ad S S2 → post r S2) : w_X6_problem S m a1 a2 post := by
  have hpost := fun r σ2 S2 h1 h2 h3 => hpost r σ2 S2 h1 h2 h3
  have hF := Fm.rf m ad S
  obtain ⟨S0, hS0⟩ : ∃ z : MS, z = S := ⟨_, rfl⟩
  rw [← hS0] at hpost
  have hF : Fm m ad S0 S := by rw [hS0]; exact hF
  have g45 : ∀ (S : MS) (σ : Sg) (l1 : Int32) (l2 : Int32) (s0 : Int32), RM m ad S σ → Fm m ad S0 S → bv_X6_problem_45 P σ l1 l2 s0 → b_X6_problem_45 post S m l1 l2 s0 := by
    intro  S σ l1 l2 s0 hR hF h
    unfold bv_X6_problem_45 at h
    unfold b_X6_problem_45
    try simp only [hR.1, hR.2.1, hR.2.2.1]
    exact hpost _ _ _ h hR hF
  have g40 : ∀ (S : MS) (σ : Sg) (l1 : Int32) (l2 : Int32), RM m ad S σ → Fm m ad S0 S → bv_X6_problem_40 P σ l1 l2 → b_X6_problem_40 post S m l1 l2  := by
    intro  S σ l1 l2 hR hF h
    unfold bv_X6_problem_40 at h
    unfold b_X6_problem_40
    try simp only [hR.1, hR.2.1, hR.2.2.1]
    exact g45 _ _ _ _ _ hR hF h
  unfold v_X6_problem at h
  unfold w_X6_problem
  try simp only [hR.1, hR.2.1, hR.2.2.1]
  refine ⟨hR.2.2.2.1, ?_⟩
  refine vr_X6_isTransaction hR h (fun r1 σ1 S1 h hR1 hF1 => ?_)
  have hF1 := Fm.tr hF hF1
  try simp only [hR1.1, hR1.2.1, hR1.2.2.1]
  refine ⟨fun hc7 => ?_, fun hc7 => ?_⟩
  · have h := h.1 hc7
    refine ⟨fun hc6 => ?_, fun hc6 => ?_⟩
    · have h := h.1 hc6
      refine ⟨hR1.2.2.2.1, ?_⟩
      refine ⟨rm_kT hR1 (by decide) rfl, ?_⟩
      obtain ⟨hi2, h⟩ := h
      refine ⟨(rm_kL hR1 (k := 2) rfl (by decide)) ▸ hi2, ?_⟩
      refine ⟨fun hc5 => ?_, fun hc5 => ?_⟩
      · have h := h.1 hc5
        exact g40 _ _ _ _ hR1 hF1 h
      · have h := h.2 hc5
        refine ⟨rm_kT hR1 (by decide) rfl, ?_⟩
        obtain ⟨hi3, h⟩ := h
        refine ⟨(rm_kL hR1 (k := 7) rfl (by decide)) ▸ hi3, ?_⟩
        refine ⟨fun hc4 => ?_, fun hc4 => ?_⟩
        · have h := h.1 hc4
          exact g45 _ _ _ _ _ hR1 hF1 h
        · have h := h.2 hc4
          exact g40 _ _ _ _ hR1 hF1 h
    · have h := h.2 hc6
      exact g45 _ _ _ _ _ hR1 hF1 h
  · have h := h.2 hc7
    exact g45 _ _ _ _ _ hR1 hF1 h
def v_X6_read (σ : Sg) (a1 : Int32) (a2 : Int32) (P : Int32 → Sg → Prop) : Prop := v_X6_isKey σ a2 (fun r1 σ1 => v_X6_problem σ1 a1 r1 (fun r2 σ2 => ∀ σ3 : Sg, σ3 = sF σ2 0 r2 → (((σ3.1 0) = 0 → v_X6_recordKey σ3 a1 a2 (fun σ4 => v_X6_viewed σ4 a1 a2 (fun r5 σ5 => v_X6_list σ5 a1 0 a2 0 0 r5 (fun σ6 => P r5 σ6)))) ∧ (¬ (σ3.1 0) = 0 → P 0 σ3))))
set_option maxHeartbeats 4000000 in
theorem vr_X6_read {m : Nat} {ad : Nat → Nat} {S : MS} {σ : Sg} {a1 : Int32} {a2 : Int32} {P : Int32 → Sg → Prop} {post : Int32 → MS → Prop} (hR : RM m ad S σ) (h : v_X6_read σ a1 a2 P) (hpost : ∀ (r : Int32) (σ2 : Sg) (S2 : MS), P r σ2 → RM m ad S2 σ2 → Fm m ad S S2 → post r S2) : w_X6_read S m a1 a2 post := by
  have hpost := fun r σ2 S2 h1 h2 h3 => hpost r σ2 S2 h1 h2 h3
  have hF := Fm.rf m ad S
  obtain ⟨S0, hS0⟩ : ∃ z : MS, z = S := ⟨_, rfl⟩
  rw [← hS0] at hpost
  have hF : Fm m ad S0 S := by rw [hS0]; exact hF
  unfold v_X6_read at h
  unfold w_X6_read
  try simp only [hR.1, hR.2.1, hR.2.2.1]
  refine vr_X6_isKey hR h (fun r1 σ1 S1 h hR1 hF1 => ?_)
  have hF1 := Fm.tr hF hF1
  try simp only [hR1.1, hR1.2.1, hR1.2.2.1]
  refine ⟨hR1.2.2.2.1, ?_⟩
  refine vr_X6_problem hR1 h (fun r2 σ2 S2 h hR2 hF2 => ?_)
  have hF2 := Fm.tr hF1 hF2
  try simp only [hR2.1, hR2.2.1, hR2.2.2.1]
  refine ⟨hR2.2.2.2.1, ?_⟩
  intro S3 hS3
  obtain ⟨σ3, hσ3⟩ : ∃ z : Sg, z = sF σ2 0 r2 := ⟨_, rfl⟩
  have h := h σ3 hσ3
  obtain ⟨hR3, hF3⟩ := rm_putF hR2 hS3 hσ3
  have hF3 := Fm.tr hF2 hF3
  try simp only [hR3.1, hR3.2.1, hR3.2.2.1]
  refine ⟨fun hc7 => ?_, fun hc7 => ?_⟩
  · have h := h.1 hc7
    refine vr_X6_recordKey hR3 h (fun σ4 S4 h hR4 hF4 => ?_)
    have hF4 := Fm.tr hF3 hF4
    try simp only [hR4.1, hR4.2.1, hR4.2.2.1]
    refine ⟨hR4.2.2.2.1, ?_⟩
    refine vr_X6_viewed hR4 h (fun r5 σ5 S5 h hR5 hF5 => ?_)
    have hF5 := Fm.tr hF4 hF5
    try simp only [hR5.1, hR5.2.1, hR5.2.2.1]
    refine ⟨hR5.2.2.2.1, ?_⟩
    refine vr_X6_list hR5 h (fun σ6 S6 h hR6 hF6 => ?_)
    have hF6 := Fm.tr hF5 hF6
    try simp only [hR6.1, hR6.2.1, hR6.2.2.1]
    exact hpost _ _ _ h hR6 hF6
  · have h := h.2 hc7
    exact hpost _ _ _ h hR3 hF3
def bv_X6_counted_31 (KV6 : Sg → Int32 → Int32 → Int32 → Int32 → Int32 → Int32 → Prop) (P : Int32 → Sg → Prop) (σ : Sg) (l1 : Int32) (l2 : Int32) (l3 : Int32) (l4 : Int32) (l5 : Int32) (l6 : Int32) (s0 : Int32) (s1 : Int32) : Prop := ∀ v1 : Int32, v1 = s1 + s0 → ∀ v2 : Int32, v2 = l6 + 1 → KV6 σ l1 l2 l3 l4 v1 v2
def bv_X6_counted_6 (P : Int32 → Sg → Prop) : Nat → Sg → Int32 → Int32 → Int32 → Int32 → Int32 → Int32 → Prop
  | 0 => fun _ _ _ _ _ _ _ => False
  | f + 1 => fun σ l1 l2 l3 l4 l5 l6 => ((l3 < l6 → P l5 σ) ∧ (¬ l3 < l6 → v_X6_viewed σ l1 l6 (fun r1 σ1 => ((r1 < l4 → bv_X6_counted_31 (bv_X6_counted_6 P f) P σ1 l1 l2 l3 l4 l5 l6 0 l5) ∧ (¬ r1 < l4 → bv_X6_counted_31 (bv_X6_counted_6 P f) P σ1 l1 l2 l3 l4 l5 l6 1 l5)))))
def v_X6_counted (σ : Sg) (a1 : Int32) (a2 : Int32) (a3 : Int32) (a4 : Int32) (P : Int32 → Sg → Prop) : Prop := ∃ f6, bv_X6_counted_6 P f6 σ a1 a2 a3 a4 0 a2
set_option maxHeartbeats 4000000 in
theorem vr_X6_counted {m : Nat} {ad : Nat → Nat} {S : MS} {σ : Sg} {a1 : Int32} {a2 : Int32} {a3 : Int32} {a4 : Int32} {P : Int32 → Sg → Prop} {post : Int32 → MS → Prop} (hR : RM m ad S σ) (h : v_X6_counted σ a1 a2 a3 a4 P) (hpost : ∀ (r : Int32) (σ2 : Sg) (S2 : MS), P r σ2 → RM m ad S2 σ2 → Fm m ad S S2 → post r S2) : w_X6_counted S m a1 a2 a3 a4 post := by
  have hpost := fun r σ2 S2 h1 h2 h3 => hpost r σ2 S2 h1 h2 h3
  have hF := Fm.rf m ad S
  obtain ⟨S0, hS0⟩ : ∃ z : MS, z = S := ⟨_, rfl⟩
  rw [← hS0] at hpost
  have hF : Fm m ad S0 S := by rw [hS0]; exact hF
  have g31 : ∀ (KV6 : Sg → Int32 → Int32 → Int32 → Int32 → Int32 → Int32 → Prop) (KH6 : MS → Nat → Int32 → Int32 → Int32 → Int32 → Int32 → Int32 → Prop) (hKV6 : ∀ (S : MS) (σ : Sg) (l1 : Int32) (l2 : Int32) (l3 : Int32) (l4 : Int32) (l5 : Int32) (l6 : Int32), RM m ad S σ → Fm m ad S0 S → KV6 σ l1 l2 l3 l4 l5 l6 → KH6 S m l1 l2 l3 l4 l5 l6 ) (S : MS) (σ : Sg) (l1 : Int32) (l2 : Int32) (l3 : Int32) (l4 : Int32) (l5 : Int32) (l6 : Int32) (s0 : Int32) (s1 : Int32), RM m ad S σ → Fm m ad S0 S → bv_X6_counted_31 KV6 P σ l1 l2 l3 l4 l5 l6 s0 s1 → b_X6_counted_31 KH6 post S m l1 l2 l3 l4 l5 l6 s0 s1 := by
    intro KV6 KH6 hKV6 S σ l1 l2 l3 l4 l5 l6 s0 s1 hR hF h
    unfold bv_X6_counted_31 at h
    unfold b_X6_counted_31
    try simp only [hR.1, hR.2.1, hR.2.2.1]
    intro v1 hv1
    have h := h v1 hv1
    intro v2 hv2
    have h := h v2 hv2
    exact hKV6 _ _ _ _ _ _ _ _ hR hF h
  have g6 : ∀ (f : Nat) (S : MS) (σ : Sg) (l1 : Int32) (l2 : Int32) (l3 : Int32) (l4 : Int32) (l5 : Int32) (l6 : Int32), RM m ad S σ → Fm m ad S0 S → bv_X6_counted_6 P f σ l1 l2 l3 l4 l5 l6 → b_X6_counted_6 post f S m l1 l2 l3 l4 l5 l6  := by
    intro f
    induction f with
    | zero => intro S σ l1 l2 l3 l4 l5 l6 hR hF h; exact h.elim
    | succ f ih =>
      intro S σ l1 l2 l3 l4 l5 l6 hR hF h
      simp only [bv_X6_counted_6] at h
      simp only [b_X6_counted_6]
      try simp only [hR.1, hR.2.1, hR.2.2.1]
      refine ⟨fun hc3 => ?_, fun hc3 => ?_⟩
      · have h := h.1 hc3
        exact hpost _ _ _ h hR hF
      · have h := h.2 hc3
        refine ⟨hR.2.2.2.1, ?_⟩
        refine vr_X6_viewed hR h (fun r1 σ1 S1 h hR1 hF1 => ?_)
        have hF1 := Fm.tr hF hF1
        try simp only [hR1.1, hR1.2.1, hR1.2.2.1]
        refine ⟨fun hc2 => ?_, fun hc2 => ?_⟩
        · have h := h.1 hc2
          exact g31 _ _ ih _ _ _ _ _ _ _ _ _ _ hR1 hF1 h
        · have h := h.2 hc2
          exact g31 _ _ ih _ _ _ _ _ _ _ _ _ _ hR1 hF1 h
  unfold v_X6_counted at h
  unfold w_X6_counted
  try simp only [hR.1, hR.2.1, hR.2.2.1]
  obtain ⟨f6, h⟩ := h
  exact ⟨f6, g6 f6 _ _ _ _ _ _ _ _ hR hF h⟩
def bv_X6_scan_30 (P : Int32 → Sg → Prop) (σ : Sg) (l1 : Int32) (l2 : Int32) (l3 : Int32) (l4 : Int32) (s0 : Int32) (s1 : Int32) : Prop := v_X6_problem σ s1 s0 (fun r1 σ1 => ∀ σ2 : Sg, σ2 = sF σ1 0 r1 → (((σ2.1 0) = 0 → v_X6_recordRange σ2 l1 l2 l3 l4 (fun σ3 => v_X6_counted σ3 l1 l2 l3 l4 (fun r4 σ4 => v_X6_list σ4 l1 1 l2 l3 l4 r4 (fun σ5 => P r4 σ5)))) ∧ (¬ (σ2.1 0) = 0 → P 0 σ2)))
def bv_X6_scan_29 (P : Int32 → Sg → Prop) (σ : Sg) (l1 : Int32) (l2 : Int32) (l3 : Int32) (l4 : Int32) (s0 : Int32) : Prop := bv_X6_scan_30 P σ l1 l2 l3 l4 0 s0
def v_X6_scan (σ : Sg) (a1 : Int32) (a2 : Int32) (a3 : Int32) (a4 : Int32) (P : Int32 → Sg → Prop) : Prop := v_X6_isRange σ a2 a3 (fun r1 σ1 => ((r1 = 0 → bv_X6_scan_29 P σ1 a1 a2 a3 a4 a1) ∧ (¬ r1 = 0 → v_X6_isIn σ1 a4 ((-999)) 999 (fun r2 σ2 => ((r2 = 0 → bv_X6_scan_29 P σ2 a1 a2 a3 a4 a1) ∧ (¬ r2 = 0 → bv_X6_scan_30 P σ2 a1 a2 a3 a4 1 a1))))))
set_option maxHeartbeats 4000000 in
theorem vr_X6_scan {m : Nat} {ad : Nat → Nat} {S : MS} {σ : Sg} {a1 : Int32} {a2 : Int32} {a3 : Int32} {a4 : Int32} {P : Int32 → Sg → Prop} {post : Int32 → MS → Prop} (hR : RM m ad S σ) (h : v_X6_scan σ a1 a2 a3 a4 P) (hpost : ∀ (r : Int32) (σ2 : Sg) (S2 : MS), P r σ2 → RM m ad S2 σ2 → Fm m ad S S2 → post r S2) : w_X6_scan S m a1 a2 a3 a4 post := by
  have hpost := fun r σ2 S2 h1 h2 h3 => hpost r σ2 S2 h1 h2 h3
  have hF := Fm.rf m ad S
  obtain ⟨S0, hS0⟩ : ∃ z : MS, z = S := ⟨_, rfl⟩
  rw [← hS0] at hpost
  have hF : Fm m ad S0 S := by rw [hS0]; exact hF
  have g30 : ∀ (S : MS) (σ : Sg) (l1 : Int32) (l2 : Int32) (l3 : Int32) (l4 : Int32) (s0 : Int32) (s1 : Int32), RM m ad S σ → Fm m ad S0 S → bv_X6_scan_30 P σ l1 l2 l3 l4 s0 s1 → b_X6_scan_30 post S m l1 l2 l3 l4 s0 s1 m m := by
    intro  S σ l1 l2 l3 l4 s0 s1 hR hF h
    unfold bv_X6_scan_30 at h
    unfold b_X6_scan_30
    try simp only [hR.1, hR.2.1, hR.2.2.1]
    refine ⟨hR.2.2.2.1, ?_⟩
    refine vr_X6_problem hR h (fun r1 σ1 S1 h hR1 hF1 => ?_)
    have hF1 := Fm.tr hF hF1
    try simp only [hR1.1, hR1.2.1, hR1.2.2.1]
    refine ⟨hR1.2.2.2.1, ?_⟩
    intro S2 hS2
    obtain ⟨σ2, hσ2⟩ : ∃ z : Sg, z = sF σ1 0 r1 := ⟨_, rfl⟩
    have h := h σ2 hσ2
    obtain ⟨hR2, hF2⟩ := rm_putF hR1 hS2 hσ2
    have hF2 := Fm.tr hF1 hF2
    try simp only [hR2.1, hR2.2.1, hR2.2.2.1]
    refine ⟨hR2.2.2.2.1, ?_⟩
    refine ⟨fun hc6 => ?_, fun hc6 => ?_⟩
    · have h := h.1 hc6
      refine vr_X6_recordRange hR2 h (fun σ3 S3 h hR3 hF3 => ?_)
      have hF3 := Fm.tr hF2 hF3
      try simp only [hR3.1, hR3.2.1, hR3.2.2.1]
      refine ⟨hR3.2.2.2.1, ?_⟩
      refine vr_X6_counted hR3 h (fun r4 σ4 S4 h hR4 hF4 => ?_)
      have hF4 := Fm.tr hF3 hF4
      try simp only [hR4.1, hR4.2.1, hR4.2.2.1]
      refine ⟨hR4.2.2.2.1, ?_⟩
      refine vr_X6_list hR4 h (fun σ5 S5 h hR5 hF5 => ?_)
      have hF5 := Fm.tr hF4 hF5
      try simp only [hR5.1, hR5.2.1, hR5.2.2.1]
      exact hpost _ _ _ h hR5 hF5
    · have h := h.2 hc6
      exact hpost _ _ _ h hR2 hF2
  have g29 : ∀ (S : MS) (σ : Sg) (l1 : Int32) (l2 : Int32) (l3 : Int32) (l4 : Int32) (s0 : Int32), RM m ad S σ → Fm m ad S0 S → bv_X6_scan_29 P σ l1 l2 l3 l4 s0 → b_X6_scan_29 post S m l1 l2 l3 l4 s0 m m := by
    intro  S σ l1 l2 l3 l4 s0 hR hF h
    unfold bv_X6_scan_29 at h
    unfold b_X6_scan_29
    try simp only [hR.1, hR.2.1, hR.2.2.1]
    exact g30 _ _ _ _ _ _ _ _ hR hF h
  unfold v_X6_scan at h
  unfold w_X6_scan
  try simp only [hR.1, hR.2.1, hR.2.2.1]
  refine vr_X6_isRange hR h (fun r1 σ1 S1 h hR1 hF1 => ?_)
  have hF1 := Fm.tr hF hF1
  try simp only [hR1.1, hR1.2.1, hR1.2.2.1]
  refine ⟨fun hc4 => ?_, fun hc4 => ?_⟩
  · have h := h.1 hc4
    exact g29 _ _ _ _ _ _ _ hR1 hF1 h
  · have h := h.2 hc4
    refine vr_X6_isIn hR1 h (fun r2 σ2 S2 h hR2 hF2 => ?_)
    have hF2 := Fm.tr hF1 hF2
    try simp only [hR2.1, hR2.2.1, hR2.2.2.1]
    refine ⟨fun hc3 => ?_, fun hc3 => ?_⟩
    · have h := h.1 hc3
      exact g29 _ _ _ _ _ _ _ hR2 hF2 h
    · have h := h.2 hc3
      exact g30 _ _ _ _ _ _ _ _ hR2 hF2 h
def bv_X6_summed_37 (KV6 : Sg → Int32 → Int32 → Int32 → Int32 → Int32 → Prop) (P : Int32 → Sg → Prop) (σ : Sg) (l1 : Int32) (l2 : Int32) (l3 : Int32) (l4 : Int32) (l5 : Int32) (l6 : Int32) (s0 : Int32) (s1 : Int32) : Prop := ∀ v1 : Int32, v1 = s1 + s0 → ∀ v2 : Int32, v2 = l5 + 1 → KV6 σ l1 l2 l3 v1 v2
def bv_X6_summed_6 (P : Int32 → Sg → Prop) : Nat → Sg → Int32 → Int32 → Int32 → Int32 → Int32 → Prop
  | 0 => fun _ _ _ _ _ _ => False
  | f + 1 => fun σ l1 l2 l3 l4 l5 => ((l3 < l5 → P l4 σ) ∧ (¬ l3 < l5 → v_X6_viewed σ l1 l5 (fun r1 σ1 => ((¬ r1 = ((-1000)) → bv_X6_summed_37 (bv_X6_summed_6 P f) P σ1 l1 l2 l3 l4 l5 r1 r1 l4) ∧ (r1 = ((-1000)) → bv_X6_summed_37 (bv_X6_summed_6 P f) P σ1 l1 l2 l3 l4 l5 r1 0 l4)))))
def v_X6_summed (σ : Sg) (a1 : Int32) (a2 : Int32) (a3 : Int32) (P : Int32 → Sg → Prop) : Prop := ∃ f6, bv_X6_summed_6 P f6 σ a1 a2 a3 0 a2
set_option maxHeartbeats 4000000 in
theorem vr_X6_summed {m : Nat} {ad : Nat → Nat} {S : MS} {σ : Sg} {a1 : Int32} {a2 : Int32} {a3 : Int32} {P : Int32 → Sg → Prop} {post : Int32 → MS → Prop} (hR : RM m ad S σ) (h : v_X6_summed σ a1 a2 a3 P) (hpost : ∀ (r : Int32) (σ2 : Sg) (S2 : MS), P r σ2 → RM m ad S2 σ2 → Fm m ad S S2 → post r S2) : w_X6_summed S m a1 a2 a3 post := by
  have hpost := fun r σ2 S2 h1 h2 h3 => hpost r σ2 S2 h1 h2 h3
  have hF := Fm.rf m ad S
  obtain ⟨S0, hS0⟩ : ∃ z : MS, z = S := ⟨_, rfl⟩
  rw [← hS0] at hpost
  have hF : Fm m ad S0 S := by rw [hS0]; exact hF
  have g37 : ∀ (KV6 : Sg → Int32 → Int32 → Int32 → Int32 → Int32 → Prop) (KH6 : MS → Nat → Int32 → Int32 → Int32 → Int32 → Int32 → Prop) (hKV6 : ∀ (S : MS) (σ : Sg) (l1 : Int32) (l2 : Int32) (l3 : Int32) (l4 : Int32) (l5 : Int32), RM m ad S σ → Fm m ad S0 S → KV6 σ l1 l2 l3 l4 l5 → KH6 S m l1 l2 l3 l4 l5 ) (S : MS) (σ : Sg) (l1 : Int32) (l2 : Int32) (l3 : Int32) (l4 : Int32) (l5 : Int32) (l6 : Int32) (s0 : Int32) (s1 : Int32), RM m ad S σ → Fm m ad S0 S → bv_X6_summed_37 KV6 P σ l1 l2 l3 l4 l5 l6 s0 s1 → b_X6_summed_37 KH6 post S m l1 l2 l3 l4 l5 l6 s0 s1 := by
    intro KV6 KH6 hKV6 S σ l1 l2 l3 l4 l5 l6 s0 s1 hR hF h
    unfold bv_X6_summed_37 at h
    unfold b_X6_summed_37
    try simp only [hR.1, hR.2.1, hR.2.2.1]
    intro v1 hv1
    have h := h v1 hv1
    intro v2 hv2
    have h := h v2 hv2
    exact hKV6 _ _ _ _ _ _ _ hR hF h
  have g6 : ∀ (f : Nat) (S : MS) (σ : Sg) (l1 : Int32) (l2 : Int32) (l3 : Int32) (l4 : Int32) (l5 : Int32), RM m ad S σ → Fm m ad S0 S → bv_X6_summed_6 P f σ l1 l2 l3 l4 l5 → b_X6_summed_6 post f S m l1 l2 l3 l4 l5  := by
    intro f
    induction f with
    | zero => intro S σ l1 l2 l3 l4 l5 hR hF h; exact h.elim
    | succ f ih =>
      intro S σ l1 l2 l3 l4 l5 hR hF h
      simp only [bv_X6_summed_6] at h
      simp only [b_X6_summed_6]
      try simp only [hR.1, hR.2.1, hR.2.2.1]
      refine ⟨fun hc3 => ?_, fun hc3 => ?_⟩
      · have h := h.1 hc3
        exact hpost _ _ _ h hR hF
      · have h := h.2 hc3
        refine ⟨hR.2.2.2.1, ?_⟩
        refine vr_X6_viewed hR h (fun r1 σ1 S1 h hR1 hF1 => ?_)
        have hF1 := Fm.tr hF hF1
        try simp only [hR1.1, hR1.2.1, hR1.2.2.1]
        refine ⟨fun hc2 => ?_, fun hc2 => ?_⟩
        · have h := h.1 hc2
          exact g37 _ _ ih _ _ _ _ _ _ _ _ _ _ hR1 hF1 h
        · have h := h.2 hc2
          exact g37 _ _ ih _ _ _ _ _ _ _ _ _ _ hR1 hF1 h
  unfold v_X6_summed at h
  unfold w_X6_summed
  try simp only [hR.1, hR.2.1, hR.2.2.1]
  obtain ⟨f6, h⟩ := h
  exact ⟨f6, g6 f6 _ _ _ _ _ _ _ hR hF h⟩
def v_X6_sum (σ : Sg) (a1 : Int32) (a2 : Int32) (a3 : Int32) (P : Int32 → Sg → Prop) : Prop := v_X6_isRange σ a2 a3 (fun r1 σ1 => v_X6_problem σ1 a1 r1 (fun r2 σ2 => ∀ σ3 : Sg, σ3 = sF σ2 0 r2 → (((σ3.1 0) = 0 → v_X6_recordRange σ3 a1 a2 a3 ((-999)) (fun σ4 => v_X6_summed σ4 a1 a2 a3 (fun r5 σ5 => v_X6_list σ5 a1 2 a2 a3 0 r5 (fun σ6 => P r5 σ6)))) ∧ (¬ (σ3.1 0) = 0 → P 0 σ3))))
set_option maxHeartbeats 4000000 in
theorem vr_X6_sum {m : Nat} {ad : Nat → Nat} {S : MS} {σ : Sg} {a1 : Int32} {a2 : Int32} {a3 : Int32} {P : Int32 → Sg → Prop} {post : Int32 → MS → Prop} (hR : RM m ad S σ) (h : v_X6_sum σ a1 a2 a3 P) (hpost : ∀ (r : Int32) (σ2 : Sg) (S2 : MS), P r σ2 → RM m ad S2 σ2 → Fm m ad S S2 → post r S2) : w_X6_sum S m a1 a2 a3 post := by
  have hpost := fun r σ2 S2 h1 h2 h3 => hpost r σ2 S2 h1 h2 h3
  have hF := Fm.rf m ad S
  obtain ⟨S0, hS0⟩ : ∃ z : MS, z = S := ⟨_, rfl⟩
  rw [← hS0] at hpost
  have hF : Fm m ad S0 S := by rw [hS0]; exact hF
  unfold v_X6_sum at h
  unfold w_X6_sum
  try simp only [hR.1, hR.2.1, hR.2.2.1]
  refine vr_X6_isRange hR h (fun r1 σ1 S1 h hR1 hF1 => ?_)
  have hF1 := Fm.tr hF hF1
  try simp only [hR1.1, hR1.2.1, hR1.2.2.1]
  refine ⟨hR1.2.2.2.1, ?_⟩
  refine vr_X6_problem hR1 h (fun r2 σ2 S2 h hR2 hF2 => ?_)
  have hF2 := Fm.tr hF1 hF2
  try simp only [hR2.1, hR2.2.1, hR2.2.2.1]
  refine ⟨hR2.2.2.2.1, ?_⟩
  intro S3 hS3
  obtain ⟨σ3, hσ3⟩ : ∃ z : Sg, z = sF σ2 0 r2 := ⟨_, rfl⟩
  have h := h σ3 hσ3
  obtain ⟨hR3, hF3⟩ := rm_putF hR2 hS3 hσ3
  have hF3 := Fm.tr hF2 hF3
  try simp only [hR3.1, hR3.2.1, hR3.2.2.1]
  refine ⟨fun hc7 => ?_, fun hc7 => ?_⟩
  · have h := h.1 hc7
    refine vr_X6_recordRange hR3 h (fun σ4 S4 h hR4 hF4 => ?_)
    have hF4 := Fm.tr hF3 hF4
    try simp only [hR4.1, hR4.2.1, hR4.2.2.1]
    refine ⟨hR4.2.2.2.1, ?_⟩
    refine vr_X6_summed hR4 h (fun r5 σ5 S5 h hR5 hF5 => ?_)
    have hF5 := Fm.tr hF4 hF5
    try simp only [hR5.1, hR5.2.1, hR5.2.2.1]
    refine ⟨hR5.2.2.2.1, ?_⟩
    refine vr_X6_list hR5 h (fun σ6 S6 h hR6 hF6 => ?_)
    have hF6 := Fm.tr hF5 hF6
    try simp only [hR6.1, hR6.2.1, hR6.2.2.1]
    exact hpost _ _ _ h hR6 hF6
  · have h := h.2 hc7
    exact hpost _ _ _ h hR3 hF3
def bv_X6_write_63 (P : Sg → Prop) (σ : Sg) (l1 : Int32) (l2 : Int32) (l3 : Int32) : Prop := P σ
def bv_X6_write_28 (P : Sg → Prop) (σ : Sg) (l1 : Int32) (l2 : Int32) (l3 : Int32) (s0 : Int32) (s1 : Int32) : Prop := v_X6_problem σ s1 s0 (fun r1 σ1 => ∀ σ2 : Sg, σ2 = sF σ1 0 r1 → ((¬ (σ2.1 0) = 0 → bv_X6_write_63 P σ2 l1 l2 l3) ∧ ((σ2.1 0) = 0 → vp_in ((32 * l1) + l2) 2560 ∧ ∀ σ4 : Sg, σ4 = sA σ2 10 (ix ((32 * l1) + l2)) l3 → v_X6_list σ4 l1 3 l2 l3 0 0 (fun σ5 => bv_X6_write_63 P σ5 l1 l2 l3))))
def bv_X6_write_27 (P : Sg → Prop) (σ : Sg) (l1 : Int32) (l2 : Int32) (l3 : Int32) (s0 : Int32) : Prop := bv_X6_write_28 P σ l1 l2 l3 0 s0
def v_X6_write (σ : Sg) (a1 : Int32) (a2 : Int32) (a3 : Int32) (P : Sg → Prop) : Prop := v_X6_isKey σ a2 (fun r1 σ1 => ((r1 = 0 → bv_X6_write_27 P σ1 a1 a2 a3 a1) ∧ (¬ r1 = 0 → v_X6_isIn σ1 a3 ((-999)) 999 (fun r2 σ2 => ((r2 = 0 → bv_X6_write_27 P σ2 a1 a2 a3 a1) ∧ (¬ r2 = 0 → bv_X6_write_28 P σ2 a1 a2 a3 1 a1))))))
set_option maxHeartbeats 4000000 in
theorem vr_X6_write {m : Nat} {ad : Nat → Nat} {S : MS} {σ : Sg} {a1 : Int32} {a2 : Int32} {a3 : Int32} {P : Sg → Prop} {post : MS → Prop} (hR : RM m ad S σ) (h : v_X6_write σ a1 a2 a3 P) (hpost : ∀ (σ2 : Sg) (S2 : MS), P σ2 → RM m ad S2 σ2 → Fm m ad S S2 → post S2) : w_X6_write S m a1 a2 a3 post := by
  have hpost := fun σ2 S2 h1 h2 h3 => hpost σ2 S2 h1 h2 h3
  have hF := Fm.rf m ad S
  obtain ⟨S0, hS0⟩ : ∃ z : MS, z = S := ⟨_, rfl⟩
  rw [← hS0] at hpost
  have hF : Fm m ad S0 S := by rw [hS0]; exact hF
  have g63 : ∀ (S : MS) (σ : Sg) (l1 : Int32) (l2 : Int32) (l3 : Int32), RM m ad S σ → Fm m ad S0 S → bv_X6_write_63 P σ l1 l2 l3 → b_X6_write_63 post S m l1 l2 l3  := by
    intro  S σ l1 l2 l3 hR hF h
    unfold bv_X6_write_63 at h
    unfold b_X6_write_63
    try simp only [hR.1, hR.2.1, hR.2.2.1]
    exact hpost _ _ h hR hF
  have g28 : ∀ (S : MS) (σ : Sg) (l1 : Int32) (l2 : Int32) (l3 : Int32) (s0 : Int32) (s1 : Int32), RM m ad S σ → Fm m ad S0 S → bv_X6_write_28 P σ l1 l2 l3 s0 s1 → b_X6_write_28 post S m l1 l2 l3 s0 s1 m m := by
    intro  S σ l1 l2 l3 s0 s1 hR hF h
    unfold bv_X6_write_28 at h
    unfold b_X6_write_28
    try simp only [hR.1, hR.2.1, hR.2.2.1]
    refine ⟨hR.2.2.2.1, ?_⟩
    refine vr_X6_problem hR h (fun r1 σ1 S1 h hR1 hF1 => ?_)
    have hF1 := Fm.tr hF hF1
    try simp only [hR1.1, hR1.2.1, hR1.2.2.1]
    refine ⟨hR1.2.2.2.1, ?_⟩
    intro S2 hS2
    obtain ⟨σ2, hσ2⟩ : ∃ z : Sg, z = sF σ1 0 r1 := ⟨_, rfl⟩
    have h := h σ2 hσ2
    obtain ⟨hR2, hF2⟩ := rm_putF hR1 hS2 hσ2
    have hF2 := Fm.tr hF1 hF2
    try simp only [hR2.1, hR2.2.1, hR2.2.2.1]
    refine ⟨hR2.2.2.2.1, ?_⟩
    refine ⟨fun hc6 => ?_, fun hc6 => ?_⟩
    · have h := h.1 hc6
      exact g63 _ _ _ _ _ hR2 hF2 h
    · have h := h.2 hc6
      refine ⟨rm_kT hR2 (by decide) rfl, ?_⟩
      obtain ⟨hi3, h⟩ := h
      refine ⟨(rm_kL hR2 (k := 10) rfl (by decide)) ▸ hi3, ?_⟩
      intro S4 hS4
      obtain ⟨σ4, hσ4⟩ : ∃ z : Sg, z = sA σ2 10 (ix ((32 * l1) + l2)) l3 := ⟨_, rfl⟩
      have h := h σ4 hσ4
      obtain ⟨hR4, hF4⟩ := rm_putA hR2 (k := 10) (by decide) hS4 hσ4
      have hF4 := Fm.tr hF2 hF4
      try simp only [hR4.1, hR4.2.1, hR4.2.2.1]
      refine vr_X6_list hR4 h (fun σ5 S5 h hR5 hF5 => ?_)
      have hF5 := Fm.tr hF4 hF5
      try simp only [hR5.1, hR5.2.1, hR5.2.2.1]
      exact g63 _ _ _ _ _ hR5 hF5 h
  have g27 : ∀ (S : MS) (σ : Sg) (l1 : Int32) (l2 : Int32) (l3 : Int32) (s0 : Int32), RM m ad S σ → Fm m ad S0 S → bv_X6_write_27 P σ l1 l2 l3 s0 → b_X6_write_27 post S m l1 l2 l3 s0 m m := by
    intro  S σ l1 l2 l3 s0 hR hF h
    unfold bv_X6_write_27 at h
    unfold b_X6_write_27
    try simp only [hR.1, hR.2.1, hR.2.2.1]
    exact g28 _ _ _ _ _ _ _ hR hF h
  unfold v_X6_write at h
  unfold w_X6_write
  try simp only [hR.1, hR.2.1, hR.2.2.1]
  refine vr_X6_isKey hR h (fun r1 σ1 S1 h hR1 hF1 => ?_)
  have hF1 := Fm.tr hF hF1
  try simp only [hR1.1, hR1.2.1, hR1.2.2.1]
  refine ⟨fun hc4 => ?_, fun hc4 => ?_⟩
  · have h := h.1 hc4
    exact g27 _ _ _ _ _ _ hR1 hF1 h
  · have h := h.2 hc4
    refine vr_X6_isIn hR1 h (fun r2 σ2 S2 h hR2 hF2 => ?_)
    have hF2 := Fm.tr hF1 hF2
    try simp only [hR2.1, hR2.2.1, hR2.2.2.1]
    refine ⟨fun hc3 => ?_, fun hc3 => ?_⟩
    · have h := h.1 hc3
      exact g27 _ _ _ _ _ _ hR2 hF2 h
    · have h := h.2 hc3
      exact g28 _ _ _ _ _ _ _ hR2 hF2 h
def bv_X6_remove_44 (P : Sg → Prop) (σ : Sg) (l1 : Int32) (l2 : Int32) : Prop := P σ
def v_X6_remove (σ : Sg) (a1 : Int32) (a2 : Int32) (P : Sg → Prop) : Prop := v_X6_isKey σ a2 (fun r1 σ1 => v_X6_problem σ1 a1 r1 (fun r2 σ2 => ∀ σ3 : Sg, σ3 = sF σ2 0 r2 → ((¬ (σ3.1 0) = 0 → bv_X6_remove_44 P σ3 a1 a2) ∧ ((σ3.1 0) = 0 → vp_in ((32 * a1) + a2) 2560 ∧ ∀ σ5 : Sg, σ5 = sA σ3 10 (ix ((32 * a1) + a2)) ((-1000)) → v_X6_list σ5 a1 4 a2 0 0 0 (fun σ6 => bv_X6_remove_44 P σ6 a1 a2)))))
set_option maxHeartbeats 4000000 in
theorem vr_X6_remove {m : Nat} {ad : Nat → Nat} {S : MS} {σ : Sg} {a1 : Int32} {a2 : Int32} {P : Sg → Prop} {post : MS → Prop} (hR : RM m ad S σ) (h : v_X6_remove σ a1 a2 P) (hpost : ∀ (σ2 : Sg) (S2 : MS), P σ2 → RM m ad S2 σ2 → Fm m ad S S2 → post S2) : w_X6_remove S m a1 a2 post := by
  have hpost := fun σ2 S2 h1 h2 h3 => hpost σ2 S2 h1 h2 h3
  have hF := Fm.rf m ad S
  obtain ⟨S0, hS0⟩ : ∃ z : MS, z = S := ⟨_, rfl⟩
  rw [← hS0] at hpost
  have hF : Fm m ad S0 S := by rw [hS0]; exact hF
  have g44 : ∀ (S : MS) (σ : Sg) (l1 : Int32) (l2 : Int32), RM m ad S σ → Fm m ad S0 S → bv_X6_remove_44 P σ l1 l2 → b_X6_remove_44 post S m l1 l2  := by
    intro  S σ l1 l2 hR hF h
    unfold bv_X6_remove_44 at h
    unfold b_X6_remove_44
    try simp only [hR.1, hR.2.1, hR.2.2.1]
    exact hpost _ _ h hR hF
  unfold v_X6_remove at h
  unfold w_X6_remove
  try simp only [hR.1, hR.2.1, hR.2.2.1]
  refine vr_X6_isKey hR h (fun r1 σ1 S1 h hR1 hF1 => ?_)
  have hF1 := Fm.tr hF hF1
  try simp only [hR1.1, hR1.2.1, hR1.2.2.1]
  refine ⟨hR1.2.2.2.1, ?_⟩
  refine vr_X6_problem hR1 h (fun r2 σ2 S2 h hR2 hF2 => ?_)
  have hF2 := Fm.tr hF1 hF2
  try simp only [hR2.1, hR2.2.1, hR2.2.2.1]
  refine ⟨hR2.2.2.2.1, ?_⟩
  intro S3 hS3
  obtain ⟨σ3, hσ3⟩ : ∃ z : Sg, z = sF σ2 0 r2 := ⟨_, rfl⟩
  have h := h σ3 hσ3
  obtain ⟨hR3, hF3⟩ := rm_putF hR2 hS3 hσ3
  have hF3 := Fm.tr hF2 hF3
  try simp only [hR3.1, hR3.2.1, hR3.2.2.1]
  refine ⟨fun hc7 => ?_, fun hc7 => ?_⟩
  · have h := h.1 hc7
    exact g44 _ _ _ _ hR3 hF3 h
  · have h := h.2 hc7
    refine ⟨rm_kT hR3 (by decide) rfl, ?_⟩
    obtain ⟨hi4, h⟩ := h
    refine ⟨(rm_kL hR3 (k := 10) rfl (by decide)) ▸ hi4, ?_⟩
    intro S5 hS5
    obtain ⟨σ5, hσ5⟩ : ∃ z : Sg, z = sA σ3 10 (ix ((32 * a1) + a2)) ((-1000)) := ⟨_, rfl⟩
    have h := h σ5 hσ5
    obtain ⟨hR5, hF5⟩ := rm_putA hR3 (k := 10) (by decide) hS5 hσ5
    have hF5 := Fm.tr hF3 hF5
    try simp only [hR5.1, hR5.2.1, hR5.2.2.1]
    refine vr_X6_list hR5 h (fun σ6 S6 h hR6 hF6 => ?_)
    have hF6 := Fm.tr hF5 hF6
    try simp only [hR6.1, hR6.2.1, hR6.2.2.1]
    exact g44 _ _ _ _ hR6 hF6 h
def bv_X6_addedTo_12 (P : Int32 → Sg → Prop) (σ : Sg) (l1 : Int32) (l2 : Int32) (s0 : Int32) : Prop := P (s0 + l2) σ
def v_X6_addedTo (σ : Sg) (a1 : Int32) (a2 : Int32) (P : Int32 → Sg → Prop) : Prop := ((¬ a1 = ((-1000)) → bv_X6_addedTo_12 P σ a1 a2 a1) ∧ (a1 = ((-1000)) → bv_X6_addedTo_12 P σ a1 a2 0))
set_option maxHeartbeats 4000000 in
theorem vr_X6_addedTo {m : Nat} {ad : Nat → Nat} {S : MS} {σ : Sg} {a1 : Int32} {a2 : Int32} {P : Int32 → Sg → Prop} {post : Int32 → MS → Prop} (hR : RM m ad S σ) (h : v_X6_addedTo σ a1 a2 P) (hpost : ∀ (r : Int32) (σ2 : Sg) (S2 : MS), P r σ2 → RM m ad S2 σ2 → Fm m ad S S2 → post r S2) : w_X6_addedTo S m a1 a2 post := by
  have hpost := fun r σ2 S2 h1 h2 h3 => hpost r σ2 S2 h1 h2 h3
  have hF := Fm.rf m ad S
  obtain ⟨S0, hS0⟩ : ∃ z : MS, z = S := ⟨_, rfl⟩
  rw [← hS0] at hpost
  have hF : Fm m ad S0 S := by rw [hS0]; exact hF
  have g12 : ∀ (S : MS) (σ : Sg) (l1 : Int32) (l2 : Int32) (s0 : Int32), RM m ad S σ → Fm m ad S0 S → bv_X6_addedTo_12 P σ l1 l2 s0 → b_X6_addedTo_12 post S m l1 l2 s0 := by
    intro  S σ l1 l2 s0 hR hF h
    unfold bv_X6_addedTo_12 at h
    unfold b_X6_addedTo_12
    try simp only [hR.1, hR.2.1, hR.2.2.1]
    exact hpost _ _ _ h hR hF
  unfold v_X6_addedTo at h
  unfold w_X6_addedTo
  try simp only [hR.1, hR.2.1, hR.2.2.1]
  refine ⟨fun hc1 => ?_, fun hc1 => ?_⟩
  · have h := h.1 hc1
    exact g12 _ _ _ _ _ hR hF h
  · have h := h.2 hc1
    exact g12 _ _ _ _ _ hR hF h
def bv_X6_add_28 (P : Int32 → Sg → Prop) (σ : Sg) (l1 : Int32) (l2 : Int32) (l3 : Int32) (s0 : Int32) (s1 : Int32) : Prop := v_X6_problem σ s1 s0 (fun r1 σ1 => ∀ σ2 : Sg, σ2 = sF σ1 0 r1 → (((σ2.1 0) = 0 → v_X6_viewed σ2 l1 l2 (fun r3 σ3 => v_X6_addedTo σ3 r3 l3 (fun r4 σ4 => v_X6_isIn σ4 r4 ((-999)) 999 (fun r5 σ5 => ((¬ r5 = 0 → v_X6_recordKey σ5 l1 l2 (fun σ6 => vp_in ((32 * l1) + l2) 2560 ∧ ∀ σ8 : Sg, σ8 = sA σ6 10 (ix ((32 * l1) + l2)) r4 → v_X6_list σ8 l1 5 l2 l3 0 r4 (fun σ9 => P r4 σ9))) ∧ (r5 = 0 → v_X6_fail σ5 4 (fun r10 σ10 => P r10 σ10))))))) ∧ (¬ (σ2.1 0) = 0 → P 0 σ2)))
def bv_X6_add_27 (P : Int32 → Sg → Prop) (σ : Sg) (l1 : Int32) (l2 : Int32) (l3 : Int32) (s0 : Int32) : Prop := bv_X6_add_28 P σ l1 l2 l3 0 s0
def v_X6_add (σ : Sg) (a1 : Int32) (a2 : Int32) (a3 : Int32) (P : Int32 → Sg → Prop) : Prop := v_X6_isKey σ a2 (fun r1 σ1 => ((r1 = 0 → bv_X6_add_27 P σ1 a1 a2 a3 a1) ∧ (¬ r1 = 0 → v_X6_isIn σ1 a3 ((-999)) 999 (fun r2 σ2 => ((r2 = 0 → bv_X6_add_27 P σ2 a1 a2 a3 a1) ∧ (¬ r2 = 0 → bv_X6_add_28 P σ2 a1 a2 a3 1 a1))))))
set_option maxHeartbeats 4000000 in
theorem vr_X6_add {m : Nat} {ad : Nat → Nat} {S : MS} {σ : Sg} {a1 : Int32} {a2 : Int32} {a3 : Int32} {P : Int32 → Sg → Prop} {post : Int32 → MS → Prop} (hR : RM m ad S σ) (h : v_X6_add σ a1 a2 a3 P) (hpost : ∀ (r : Int32) (σ2 : Sg) (S2 : MS), P r σ2 → RM m ad S2 σ2 → Fm m ad S S2 → post r S2) : w_X6_add S m a1 a2 a3 post := by
  have hpost := fun r σ2 S2 h1 h2 h3 => hpost r σ2 S2 h1 h2 h3
  have hF := Fm.rf m ad S
  obtain ⟨S0, hS0⟩ : ∃ z : MS, z = S := ⟨_, rfl⟩
  rw [← hS0] at hpost
  have hF : Fm m ad S0 S := by rw [hS0]; exact hF
  have g28 : ∀ (S : MS) (σ : Sg) (l1 : Int32) (l2 : Int32) (l3 : Int32) (s0 : Int32) (s1 : Int32), RM m ad S σ → Fm m ad S0 S → bv_X6_add_28 P σ l1 l2 l3 s0 s1 → b_X6_add_28 post S m l1 l2 l3 s0 s1 m m := by
    intro  S σ l1 l2 l3 s0 s1 hR hF h
    unfold bv_X6_add_28 at h
    unfold b_X6_add_28
    try simp only [hR.1, hR.2.1, hR.2.2.1]
    refine ⟨hR.2.2.2.1, ?_⟩
    refine vr_X6_problem hR h (fun r1 σ1 S1 h hR1 hF1 => ?_)
    have hF1 := Fm.tr hF hF1
    try simp only [hR1.1, hR1.2.1, hR1.2.2.1]
    refine ⟨hR1.2.2.2.1, ?_⟩
    intro S2 hS2
    obtain ⟨σ2, hσ2⟩ : ∃ z : Sg, z = sF σ1 0 r1 := ⟨_, rfl⟩
    have h := h σ2 hσ2
    obtain ⟨hR2, hF2⟩ := rm_putF hR1 hS2 hσ2
    have hF2 := Fm.tr hF1 hF2
    try simp only [hR2.1, hR2.2.1, hR2.2.2.1]
    refine ⟨hR2.2.2.2.1, ?_⟩
    refine ⟨fun hc12 => ?_, fun hc12 => ?_⟩
    · have h := h.1 hc12
      refine vr_X6_viewed hR2 h (fun r3 σ3 S3 h hR3 hF3 => ?_)
      have hF3 := Fm.tr hF2 hF3
      try simp only [hR3.1, hR3.2.1, hR3.2.2.1]
      refine ⟨hR3.2.2.2.1, ?_⟩
      refine vr_X6_addedTo hR3 h (fun r4 σ4 S4 h hR4 hF4 => ?_)
      have hF4 := Fm.tr hF3 hF4
      try simp only [hR4.1, hR4.2.1, hR4.2.2.1]
      refine vr_X6_isIn hR4 h (fun r5 σ5 S5 h hR5 hF5 => ?_)
      have hF5 := Fm.tr hF4 hF5
      try simp only [hR5.1, hR5.2.1, hR5.2.2.1]
      refine ⟨fun hc11 => ?_, fun hc11 => ?_⟩
      · have h := h.1 hc11
        refine ⟨hR5.2.2.2.1, ?_⟩
        refine vr_X6_recordKey hR5 h (fun σ6 S6 h hR6 hF6 => ?_)
        have hF6 := Fm.tr hF5 hF6
        try simp only [hR6.1, hR6.2.1, hR6.2.2.1]
        refine ⟨hR6.2.2.2.1, ?_⟩
        refine ⟨rm_kT hR6 (by decide) rfl, ?_⟩
        obtain ⟨hi7, h⟩ := h
        refine ⟨(rm_kL hR6 (k := 10) rfl (by decide)) ▸ hi7, ?_⟩
        intro S8 hS8
        obtain ⟨σ8, hσ8⟩ : ∃ z : Sg, z = sA σ6 10 (ix ((32 * l1) + l2)) r4 := ⟨_, rfl⟩
        have h := h σ8 hσ8
        obtain ⟨hR8, hF8⟩ := rm_putA hR6 (k := 10) (by decide) hS8 hσ8
        have hF8 := Fm.tr hF6 hF8
        try simp only [hR8.1, hR8.2.1, hR8.2.2.1]
        refine vr_X6_list hR8 h (fun σ9 S9 h hR9 hF9 => ?_)
        have hF9 := Fm.tr hF8 hF9
        try simp only [hR9.1, hR9.2.1, hR9.2.2.1]
        exact hpost _ _ _ h hR9 hF9
      · have h := h.2 hc11
        refine ⟨hR5.2.2.2.1, ?_⟩
        refine vr_X6_fail hR5 h (fun r10 σ10 S10 h hR10 hF10 => ?_)
        have hF10 := Fm.tr hF5 hF10
        try simp only [hR10.1, hR10.2.1, hR10.2.2.1]
        exact hpost _ _ _ h hR10 hF10
    · have h := h.2 hc12
      exact hpost _ _ _ h hR2 hF2
  have g27 : ∀ (S : MS) (σ : Sg) (l1 : Int32) (l2 : Int32) (l3 : Int32) (s0 : Int32), RM m ad S σ → Fm m ad S0 S → bv_X6_add_27 P σ l1 l2 l3 s0 → b_X6_add_27 post S m l1 l2 l3 s0 m m := by
    intro  S σ l1 l2 l3 s0 hR hF h
    unfold bv_X6_add_27 at h
    unfold b_X6_add_27
    try simp only [hR.1, hR.2.1, hR.2.2.1]
    exact g28 _ _ _ _ _ _ _ hR hF h
  unfold v_X6_add at h
  unfold w_X6_add
  try simp only [hR.1, hR.2.1, hR.2.2.1]
  refine vr_X6_isKey hR h (fun r1 σ1 S1 h hR1 hF1 => ?_)
  have hF1 := Fm.tr hF hF1
  try simp only [hR1.1, hR1.2.1, hR1.2.2.1]
  refine ⟨fun hc4 => ?_, fun hc4 => ?_⟩
  · have h := h.1 hc4
    exact g27 _ _ _ _ _ _ hR1 hF1 h
  · have h := h.2 hc4
    refine vr_X6_isIn hR1 h (fun r2 σ2 S2 h hR2 hF2 => ?_)
    have hF2 := Fm.tr hF1 hF2
    try simp only [hR2.1, hR2.2.1, hR2.2.2.1]
    refine ⟨fun hc3 => ?_, fun hc3 => ?_⟩
    · have h := h.1 hc3
      exact g27 _ _ _ _ _ _ hR2 hF2 h
    · have h := h.2 hc3
      exact g28 _ _ _ _ _ _ _ hR2 hF2 h
def bv_X6_touches_51 (P : Int32 → Sg → Prop) (σ : Sg) (l1 : Int32) (l2 : Int32) (l3 : Int32) (l4 : Int32) (s0 : Int32) : Prop := narrow .boolean (.int s0) = .int s0 ∧ P s0 σ
def bv_X6_touches_50 (P : Int32 → Sg → Prop) (σ : Sg) (l1 : Int32) (l2 : Int32) (l3 : Int32) (l4 : Int32) : Prop := bv_X6_touches_51 P σ l1 l2 l3 l4 0
def bv_X6_touches_46 (P : Int32 → Sg → Prop) (σ : Sg) (l1 : Int32) (l2 : Int32) (l3 : Int32) (l4 : Int32) : Prop := bv_X6_touches_51 P σ l1 l2 l3 l4 1
def v_X6_touches (σ : Sg) (a1 : Int32) (a2 : Int32) (a3 : Int32) (a4 : Int32) (P : Int32 → Sg → Prop) : Prop := vp_in a1 7680 ∧ vp_in (a1 + 1) 7680 ∧ v_X6_isIn σ a2 (σ.2 11 (ix a1)) (σ.2 11 (ix (a1 + 1))) (fun r3 σ3 => ((r3 = 0 → bv_X6_touches_50 P σ3 a1 a2 a3 a4) ∧ (¬ r3 = 0 → vp_in (a1 + 2) 7680 ∧ (((σ3.2 11 (ix (a1 + 2))) ≤ a3 → bv_X6_touches_46 P σ3 a1 a2 a3 a4) ∧ (¬ (σ3.2 11 (ix (a1 + 2))) ≤ a3 → vp_in (a1 + 2) 7680 ∧ ((a4 < (σ3.2 11 (ix (a1 + 2))) → bv_X6_touches_50 P σ3 a1 a2 a3 a4) ∧ (¬ a4 < (σ3.2 11 (ix (a1 + 2))) → bv_X6_touches_46 P σ3 a1 a2 a3 a4)))))))
set_option maxHeartbeats 4000000 in
theorem vr_X6_touches {m : Nat} {ad : Nat → Nat} {S : MS} {σ : Sg} {a1 : Int32} {a2 : Int32} {a3 : Int32} {a4 : Int32} {P : Int32 → Sg → Prop} {post : Int32 → MS → Prop} (hR : RM m ad S σ) (h : v_X6_touches σ a1 a2 a3 a4 P) (hpost : ∀ (r : Int32) (σ2 : Sg) (S2 : MS), P r σ2 → RM m ad S2 σ2 → Fm m ad S S2 → post r S2) : w_X6_touches S m a1 a2 a3 a4 post := by
  have hpost := fun r σ2 S2 h1 h2 h3 => hpost r σ2 S2 h1 h2 h3
  have hF := Fm.rf m ad S
  obtain ⟨S0, hS0⟩ : ∃ z : MS, z = S := ⟨_, rfl⟩
  rw [← hS0] at hpost
  have hF : Fm m ad S0 S := by rw [hS0]; exact hF
  have g51 : ∀ (S : MS) (σ : Sg) (l1 : Int32) (l2 : Int32) (l3 : Int32) (l4 : Int32) (s0 : Int32), RM m ad S σ → Fm m ad S0 S → bv_X6_touches_51 P σ l1 l2 l3 l4 s0 → b_X6_touches_51 post S m l1 l2 l3 l4 s0 := by
    intro  S σ l1 l2 l3 l4 s0 hR hF h
    unfold bv_X6_touches_51 at h
    unfold b_X6_touches_51
    try simp only [hR.1, hR.2.1, hR.2.2.1]
    obtain ⟨hz, h⟩ := h
    exact ⟨hz, hpost _ _ _ h hR hF⟩
  have g50 : ∀ (S : MS) (σ : Sg) (l1 : Int32) (l2 : Int32) (l3 : Int32) (l4 : Int32), RM m ad S σ → Fm m ad S0 S → bv_X6_touches_50 P σ l1 l2 l3 l4 → b_X6_touches_50 post S m l1 l2 l3 l4  := by
    intro  S σ l1 l2 l3 l4 hR hF h
    unfold bv_X6_touches_50 at h
    unfold b_X6_touches_50
    try simp only [hR.1, hR.2.1, hR.2.2.1]
    exact g51 _ _ _ _ _ _ _ hR hF h
  have g46 : ∀ (S : MS) (σ : Sg) (l1 : Int32) (l2 : Int32) (l3 : Int32) (l4 : Int32), RM m ad S σ → Fm m ad S0 S → bv_X6_touches_46 P σ l1 l2 l3 l4 → b_X6_touches_46 post S m l1 l2 l3 l4  := by
    intro  S σ l1 l2 l3 l4 hR hF h
    unfold bv_X6_touches_46 at h
    unfold b_X6_touches_46
    try simp only [hR.1, hR.2.1, hR.2.2.1]
    exact g51 _ _ _ _ _ _ _ hR hF h
  unfold v_X6_touches at h
  unfold w_X6_touches
  try simp only [hR.1, hR.2.1, hR.2.2.1]
  refine ⟨hR.2.2.2.1, ?_⟩
  refine ⟨rm_kT hR (by decide) rfl, ?_⟩
  obtain ⟨hi1, h⟩ := h
  refine ⟨(rm_kL hR (k := 11) rfl (by decide)) ▸ hi1, ?_⟩
  obtain ⟨hi2, h⟩ := h
  refine ⟨(rm_kL hR (k := 11) rfl (by decide)) ▸ hi2, ?_⟩
  refine vr_X6_isIn hR h (fun r3 σ3 S3 h hR3 hF3 => ?_)
  have hF3 := Fm.tr hF hF3
  try simp only [hR3.1, hR3.2.1, hR3.2.2.1]
  refine ⟨fun hc8 => ?_, fun hc8 => ?_⟩
  · have h := h.1 hc8
    exact g50 _ _ _ _ _ _ hR3 hF3 h
  · have h := h.2 hc8
    refine ⟨hR3.2.2.2.1, ?_⟩
    refine ⟨rm_kT hR3 (by decide) rfl, ?_⟩
    obtain ⟨hi4, h⟩ := h
    refine ⟨(rm_kL hR3 (k := 11) rfl (by decide)) ▸ hi4, ?_⟩
    refine ⟨fun hc7 => ?_, fun hc7 => ?_⟩
    · have h := h.1 hc7
      exact g46 _ _ _ _ _ _ hR3 hF3 h
    · have h := h.2 hc7
      obtain ⟨hi5, h⟩ := h
      refine ⟨(rm_kL hR3 (k := 11) rfl (by decide)) ▸ hi5, ?_⟩
      refine ⟨fun hc6 => ?_, fun hc6 => ?_⟩
      · have h := h.1 hc6
        exact g50 _ _ _ _ _ _ hR3 hF3 h
      · have h := h.2 hc6
        exact g46 _ _ _ _ _ _ hR3 hF3 h
def bv_X6_touchesAny_65 (KV6 : Sg → Int32 → Int32 → Int32 → Int32 → Int32 → Int32 → Int32 → Prop) (P : Int32 → Sg → Prop) (σ : Sg) (l1 : Int32) (l2 : Int32) (l3 : Int32) (l4 : Int32) (l5 : Int32) (l6 : Int32) (l7 : Int32) (l8 : Int32) (s0 : Int32) : Prop := ∀ v1 : Int32, v1 = l7 + 1 → KV6 σ l1 l2 l3 l4 l5 s0 v1
def bv_X6_touchesAny_64 (KV6 : Sg → Int32 → Int32 → Int32 → Int32 → Int32 → Int32 → Int32 → Prop) (P : Int32 → Sg → Prop) (σ : Sg) (l1 : Int32) (l2 : Int32) (l3 : Int32) (l4 : Int32) (l5 : Int32) (l6 : Int32) (l7 : Int32) (l8 : Int32) : Prop := bv_X6_touchesAny_65 KV6 P σ l1 l2 l3 l4 l5 l6 l7 l8 0
def bv_X6_touchesAny_60 (KV6 : Sg → Int32 → Int32 → Int32 → Int32 → Int32 → Int32 → Int32 → Prop) (P : Int32 → Sg → Prop) (σ : Sg) (l1 : Int32) (l2 : Int32) (l3 : Int32) (l4 : Int32) (l5 : Int32) (l6 : Int32) (l7 : Int32) (l8 : Int32) : Prop := bv_X6_touchesAny_65 KV6 P σ l1 l2 l3 l4 l5 l6 l7 l8 1
def bv_X6_touchesAny_6 (P : Int32 → Sg → Prop) : Nat → Sg → Int32 → Int32 → Int32 → Int32 → Int32 → Int32 → Int32 → Prop
  | 0 => fun _ _ _ _ _ _ _ _ => False
  | f + 1 => fun σ l1 l2 l3 l4 l5 l6 l7 => vp_in l1 80 ∧ (((σ.2 12 (ix l1)) ≤ l7 → narrow .boolean (.int l6) = .int l6 ∧ P l6 σ) ∧ (¬ (σ.2 12 (ix l1)) ≤ l7 → ∀ v2 : Int32, v2 = 4 * ((24 * l1) + l7) → ((¬ l6 = 0 → bv_X6_touchesAny_60 (bv_X6_touchesAny_6 P f) P σ l1 l2 l3 l4 l5 l6 l7 v2) ∧ (l6 = 0 → vp_in (v2 + 3) 7680 ∧ ((l2 ≤ (σ.2 11 (ix (v2 + 3))) → bv_X6_touchesAny_64 (bv_X6_touchesAny_6 P f) P σ l1 l2 l3 l4 l5 l6 l7 v2) ∧ (¬ l2 ≤ (σ.2 11 (ix (v2 + 3))) → v_X6_touches σ v2 l3 l4 l5 (fun r4 σ4 => ((r4 = 0 → bv_X6_touchesAny_64 (bv_X6_touchesAny_6 P f) P σ4 l1 l2 l3 l4 l5 l6 l7 v2) ∧ (¬ r4 = 0 → bv_X6_touchesAny_60 (bv_X6_touchesAny_6 P f) P σ4 l1 l2 l3 l4 l5 l6 l7 v2)))))))))
def v_X6_touchesAny (σ : Sg) (a1 : Int32) (a2 : Int32) (a3 : Int32) (a4 : Int32) (a5 : Int32) (P : Int32 → Sg → Prop) : Prop := ∃ f6, bv_X6_touchesAny_6 P f6 σ a1 a2 a3 a4 a5 0 0
set_option maxHeartbeats 4000000 in
theorem vr_X6_touchesAny {m : Nat} {ad : Nat → Nat} {S : MS} {σ : Sg} {a1 : Int32} {a2 : Int32} {a3 : Int32} {a4 : Int32} {a5 : Int32} {P : Int32 → Sg → Prop} {post : Int32 → MS → Prop} (hR : RM m ad S σ) (h : v_X6_touchesAny σ a1 a2 a3 a4 a5 P) (hpost : ∀ (r : Int32) (σ2 : Sg) (S2 : MS), P r σ2 → RM m ad S2 σ2 → Fm m ad S S2 → post r S2) : w_X6_touchesAny S m a1 a2 a3 a4 a5 post := by
  have hpost := fun r σ2 S2 h1 h2 h3 => hpost r σ2 S2 h1 h2 h3
  have hF := Fm.rf m ad S
  obtain ⟨S0, hS0⟩ : ∃ z : MS, z = S := ⟨_, rfl⟩
  rw [← hS0] at hpost
  have hF : Fm m ad S0 S := by rw [hS0]; exact hF
  have g65 : ∀ (KV6 : Sg → Int32 → Int32 → Int32 → Int32 → Int32 → Int32 → Int32 → Prop) (KH6 : MS → Nat → Int32 → Int32 → Int32 → Int32 → Int32 → Int32 → Int32 → Prop) (hKV6 : ∀ (S : MS) (σ : Sg) (l1 : Int32) (l2 : Int32) (l3 : Int32) (l4 : Int32) (l5 : Int32) (l6 : Int32) (l7 : Int32), RM m ad S σ → Fm m ad S0 S → KV6 σ l1 l2 l3 l4 l5 l6 l7 → KH6 S m l1 l2 l3 l4 l5 l6 l7 ) (S : MS) (σ : Sg) (l1 : Int32) (l2 : Int32) (l3 : Int32) (l4 : Int32) (l5 : Int32) (l6 : Int32) (l7 : Int32) (l8 : Int32) (s0 : Int32), RM m ad S σ → Fm m ad S0 S → bv_X6_touchesAny_65 KV6 P σ l1 l2 l3 l4 l5 l6 l7 l8 s0 → b_X6_touchesAny_65 KH6 post S m l1 l2 l3 l4 l5 l6 l7 l8 s0 := by
    intro KV6 KH6 hKV6 S σ l1 l2 l3 l4 l5 l6 l7 l8 s0 hR hF h
    unfold bv_X6_touchesAny_65 at h
    unfold b_X6_touchesAny_65
    try simp only [hR.1, hR.2.1, hR.2.2.1]
    intro v1 hv1
    have h := h v1 hv1
    exact hKV6 _ _ _ _ _ _ _ _ _ hR hF h
  have g64 : ∀ (KV6 : Sg → Int32 → Int32 → Int32 → Int32 → Int32 → Int32 → Int32 → Prop) (KH6 : MS → Nat → Int32 → Int32 → Int32 → Int32 → Int32 → Int32 → Int32 → Prop) (hKV6 : ∀ (S : MS) (σ : Sg) (l1 : Int32) (l2 : Int32) (l3 : Int32) (l4 : Int32) (l5 : Int32) (l6 : Int32) (l7 : Int32), RM m ad S σ → Fm m ad S0 S → KV6 σ l1 l2 l3 l4 l5 l6 l7 → KH6 S m l1 l2 l3 l4 l5 l6 l7 ) (S : MS) (σ : Sg) (l1 : Int32) (l2 : Int32) (l3 : Int32) (l4 : Int32) (l5 : Int32) (l6 : Int32) (l7 : Int32) (l8 : Int32), RM m ad S σ → Fm m ad S0 S → bv_X6_touchesAny_64 KV6 P σ l1 l2 l3 l4 l5 l6 l7 l8 → b_X6_touchesAny_64 KH6 post S m l1 l2 l3 l4 l5 l6 l7 l8  := by
    intro KV6 KH6 hKV6 S σ l1 l2 l3 l4 l5 l6 l7 l8 hR hF h
    unfold bv_X6_touchesAny_64 at h
    unfold b_X6_touchesAny_64
    try simp only [hR.1, hR.2.1, hR.2.2.1]
    exact g65 _ _ hKV6 _ _ _ _ _ _ _ _ _ _ _ hR hF h
  have g60 : ∀ (KV6 : Sg → Int32 → Int32 → Int32 → Int32 → Int32 → Int32 → Int32 → Prop) (KH6 : MS → Nat → Int32 → Int32 → Int32 → Int32 → Int32 → Int32 → Int32 → Prop) (hKV6 : ∀ (S : MS) (σ : Sg) (l1 : Int32) (l2 : Int32) (l3 : Int32) (l4 : Int32) (l5 : Int32) (l6 : Int32) (l7 : Int32), RM m ad S σ → Fm m ad S0 S → KV6 σ l1 l2 l3 l4 l5 l6 l7 → KH6 S m l1 l2 l3 l4 l5 l6 l7 ) (S : MS) (σ : Sg) (l1 : Int32) (l2 : Int32) (l3 : Int32) (l4 : Int32) (l5 : Int32) (l6 : Int32) (l7 : Int32) (l8 : Int32), RM m ad S σ → Fm m ad S0 S → bv_X6_touchesAny_60 KV6 P σ l1 l2 l3 l4 l5 l6 l7 l8 → b_X6_touchesAny_60 KH6 post S m l1 l2 l3 l4 l5 l6 l7 l8  := by
    intro KV6 KH6 hKV6 S σ l1 l2 l3 l4 l5 l6 l7 l8 hR hF h
    unfold bv_X6_touchesAny_60 at h
    unfold b_X6_touchesAny_60
    try simp only [hR.1, hR.2.1, hR.2.2.1]
    exact g65 _ _ hKV6 _ _ _ _ _ _ _ _ _ _ _ hR hF h
  have g6 : ∀ (f : Nat) (S : MS) (σ : Sg) (l1 : Int32) (l2 : Int32) (l3 : Int32) (l4 : Int32) (l5 : Int32) (l6 : Int32) (l7 : Int32), RM m ad S σ → Fm m ad S0 S → bv_X6_touchesAny_6 P f σ l1 l2 l3 l4 l5 l6 l7 → b_X6_touchesAny_6 post f S m l1 l2 l3 l4 l5 l6 l7  := by
    intro f
    induction f with
    | zero => intro S σ l1 l2 l3 l4 l5 l6 l7 hR hF h; exact h.elim
    | succ f ih =>
      intro S σ l1 l2 l3 l4 l5 l6 l7 hR hF h
      simp only [bv_X6_touchesAny_6] at h
      simp only [b_X6_touchesAny_6]
      try simp only [hR.1, hR.2.1, hR.2.2.1]
      refine ⟨hR.2.2.2.1, ?_⟩
      refine ⟨rm_kT hR (by decide) rfl, ?_⟩
      obtain ⟨hi1, h⟩ := h
      refine ⟨(rm_kL hR (k := 12) rfl (by decide)) ▸ hi1, ?_⟩
      refine ⟨fun hc8 => ?_, fun hc8 => ?_⟩
      · have h := h.1 hc8
        obtain ⟨hz, h⟩ := h
        exact ⟨hz, hpost _ _ _ h hR hF⟩
      · have h := h.2 hc8
        intro v2 hv2
        have h := h v2 hv2
        refine ⟨fun hc7 => ?_, fun hc7 => ?_⟩
        · have h := h.1 hc7
          exact g60 _ _ ih _ _ _ _ _ _ _ _ _ _ hR hF h
        · have h := h.2 hc7
          refine ⟨rm_kT hR (by decide) rfl, ?_⟩
          obtain ⟨hi3, h⟩ := h
          refine ⟨(rm_kL hR (k := 11) rfl (by decide)) ▸ hi3, ?_⟩
          refine ⟨fun hc6 => ?_, fun hc6 => ?_⟩
          · have h := h.1 hc6
            exact g64 _ _ ih _ _ _ _ _ _ _ _ _ _ hR hF h
          · have h := h.2 hc6
            refine vr_X6_touches hR h (fun r4 σ4 S4 h hR4 hF4 => ?_)
            have hF4 := Fm.tr hF hF4
            try simp only [hR4.1, hR4.2.1, hR4.2.2.1]
            refine ⟨fun hc5 => ?_, fun hc5 => ?_⟩
            · have h := h.1 hc5
              exact g64 _ _ ih _ _ _ _ _ _ _ _ _ _ hR4 hF4 h
            · have h := h.2 hc5
              exact g60 _ _ ih _ _ _ _ _ _ _ _ _ _ hR4 hF4 h
  unfold v_X6_touchesAny at h
  unfold w_X6_touchesAny
  try simp only [hR.1, hR.2.1, hR.2.2.1]
  obtain ⟨f6, h⟩ := h
  exact ⟨f6, g6 f6 _ _ _ _ _ _ _ _ _ hR hF h⟩
def bv_X6_conflicts_83 (KV5 : Sg → Int32 → Int32 → Int32 → Int32 → Prop) (P : Int32 → Sg → Prop) (σ : Sg) (l1 : Int32) (l2 : Int32) (l3 : Int32) (l4 : Int32) (l5 : Int32) (s0 : Int32) : Prop := ∀ v1 : Int32, v1 = l4 + 1 → KV5 σ l1 l2 s0 v1
def bv_X6_conflicts_82 (KV5 : Sg → Int32 → Int32 → Int32 → Int32 → Prop) (P : Int32 → Sg → Prop) (σ : Sg) (l1 : Int32) (l2 : Int32) (l3 : Int32) (l4 : Int32) (l5 : Int32) : Prop := bv_X6_conflicts_83 KV5 P σ l1 l2 l3 l4 l5 0
def bv_X6_conflicts_78 (KV5 : Sg → Int32 → Int32 → Int32 → Int32 → Prop) (P : Int32 → Sg → Prop) (σ : Sg) (l1 : Int32) (l2 : Int32) (l3 : Int32) (l4 : Int32) (l5 : Int32) : Prop := bv_X6_conflicts_83 KV5 P σ l1 l2 l3 l4 l5 1
def bv_X6_conflicts_5 (P : Int32 → Sg → Prop) : Nat → Sg → Int32 → Int32 → Int32 → Int32 → Prop
  | 0 => fun _ _ _ _ _ => False
  | f + 1 => fun σ l1 l2 l3 l4 => ((32 ≤ l4 → narrow .boolean (.int l3) = .int l3 ∧ P l3 σ) ∧ (¬ 32 ≤ l4 → vp_in ((32 * l1) + l4) 2560 ∧ ∀ v2 : Int32, v2 = σ.2 10 (ix ((32 * l1) + l4)) → ((¬ l3 = 0 → bv_X6_conflicts_78 (bv_X6_conflicts_5 P f) P σ l1 l2 l3 l4 v2) ∧ (l3 = 0 → ((v2 = ((-5000)) → bv_X6_conflicts_82 (bv_X6_conflicts_5 P f) P σ l1 l2 l3 l4 v2) ∧ (¬ v2 = ((-5000)) → vp_in ((32 * l2) + l4) 2560 ∧ ((¬ (σ.2 9 (ix ((32 * l2) + l4))) = ((-1)) → bv_X6_conflicts_78 (bv_X6_conflicts_5 P f) P σ l1 l2 l3 l4 v2) ∧ ((σ.2 9 (ix ((32 * l2) + l4))) = ((-1)) → v_X6_stored σ (σ.1 14) l4 (fun r4 σ4 => v_X6_touchesAny σ4 l2 61 l4 r4 v2 (fun r5 σ5 => ((r5 = 0 → bv_X6_conflicts_82 (bv_X6_conflicts_5 P f) P σ5 l1 l2 l3 l4 v2) ∧ (¬ r5 = 0 → bv_X6_conflicts_78 (bv_X6_conflicts_5 P f) P σ5 l1 l2 l3 l4 v2))))))))))))
def v_X6_conflicts (σ : Sg) (a1 : Int32) (a2 : Int32) (P : Int32 → Sg → Prop) : Prop := ∃ f5, bv_X6_conflicts_5 P f5 σ a1 a2 0 0
set_option maxHeartbeats 4000000 in
theorem vr_X6_conflicts {m : Nat} {ad : Nat → Nat} {S : MS} {σ : Sg} {a1 : Int32} {a2 : Int32} {P : Int32 → Sg → Prop} {post : Int32 → MS → Prop} (hR : RM m ad S σ) (h : v_X6_conflicts σ a1 a2 P) (hpost : ∀ (r : Int32) (σ2 : Sg) (S2 : MS), P r σ2 → RM m ad S2 σ2 → Fm m ad S S2 → post r S2) : w_X6_conflicts S m a1 a2 post := by
  have hpost := fun r σ2 S2 h1 h2 h3 => hpost r σ2 S2 h1 h2 h3
  have hF := Fm.rf m ad S
  obtain ⟨S0, hS0⟩ : ∃ z : MS, z = S := ⟨_, rfl⟩
  rw [← hS0] at hpost
  have hF : Fm m ad S0 S := by rw [hS0]; exact hF
  have g83 : ∀ (KV5 : Sg → Int32 → Int32 → Int32 → Int32 → Prop) (KH5 : MS → Nat → Int32 → Int32 → Int32 → Int32 → Prop) (hKV5 : ∀ (S : MS) (σ : Sg) (l1 : Int32) (l2 : Int32) (l3 : Int32) (l4 : Int32), RM m ad S σ → Fm m ad S0 S → KV5 σ l1 l2 l3 l4 → KH5 S m l1 l2 l3 l4 ) (S : MS) (σ : Sg) (l1 : Int32) (l2 : Int32) (l3 : Int32) (l4 : Int32) (l5 : Int32) (s0 : Int32), RM m ad S σ → Fm m ad S0 S → bv_X6_conflicts_83 KV5 P σ l1 l2 l3 l4 l5 s0 → b_X6_conflicts_83 KH5 post S m l1 l2 l3 l4 l5 s0 := by
    intro KV5 KH5 hKV5 S σ l1 l2 l3 l4 l5 s0 hR hF h
    unfold bv_X6_conflicts_83 at h
    unfold b_X6_conflicts_83
    try simp only [hR.1, hR.2.1, hR.2.2.1]
    intro v1 hv1
    have h := h v1 hv1
    exact hKV5 _ _ _ _ _ _ hR hF h
  have g82 : ∀ (KV5 : Sg → Int32 → Int32 → Int32 → Int32 → Prop) (KH5 : MS → Nat → Int32 → Int32 → Int32 → Int32 → Prop) (hKV5 : ∀ (S : MS) (σ : Sg) (l1 : Int32) (l2 : Int32) (l3 : Int32) (l4 : Int32), RM m ad S σ → Fm m ad S0 S → KV5 σ l1 l2 l3 l4 → KH5 S m l1 l2 l3 l4 ) (S : MS) (σ : Sg) (l1 : Int32) (l2 : Int32) (l3 : Int32) (l4 : Int32) (l5 : Int32), RM m ad S σ → Fm m ad S0 S → bv_X6_conflicts_82 KV5 P σ l1 l2 l3 l4 l5 → b_X6_conflicts_82 KH5 post S m l1 l2 l3 l4 l5  := by
    intro KV5 KH5 hKV5 S σ l1 l2 l3 l4 l5 hR hF h
    unfold bv_X6_conflicts_82 at h
    unfold b_X6_conflicts_82
    try simp only [hR.1, hR.2.1, hR.2.2.1]
    exact g83 _ _ hKV5 _ _ _ _ _ _ _ _ hR hF h
  have g78 : ∀ (KV5 : Sg → Int32 → Int32 → Int32 → Int32 → Prop) (KH5 : MS → Nat → Int32 → Int32 → Int32 → Int32 → Prop) (hKV5 : ∀ (S : MS) (σ : Sg) (l1 : Int32) (l2 : Int32) (l3 : Int32) (l4 : Int32), RM m ad S σ → Fm m ad S0 S → KV5 σ l1 l2 l3 l4 → KH5 S m l1 l2 l3 l4 ) (S : MS) (σ : Sg) (l1 : Int32) (l2 : Int32) (l3 : Int32) (l4 : Int32) (l5 : Int32), RM m ad S σ → Fm m ad S0 S → bv_X6_conflicts_78 KV5 P σ l1 l2 l3 l4 l5 → b_X6_conflicts_78 KH5 post S m l1 l2 l3 l4 l5  := by
    intro KV5 KH5 hKV5 S σ l1 l2 l3 l4 l5 hR hF h
    unfold bv_X6_conflicts_78 at h
    unfold b_X6_conflicts_78
    try simp only [hR.1, hR.2.1, hR.2.2.1]
    exact g83 _ _ hKV5 _ _ _ _ _ _ _ _ hR hF h
  have g5 : ∀ (f : Nat) (S : MS) (σ : Sg) (l1 : Int32) (l2 : Int32) (l3 : Int32) (l4 : Int32), RM m ad S σ → Fm m ad S0 S → bv_X6_conflicts_5 P f σ l1 l2 l3 l4 → b_X6_conflicts_5 post f S m l1 l2 l3 l4  := by
    intro f
    induction f with
    | zero => intro S σ l1 l2 l3 l4 hR hF h; exact h.elim
    | succ f ih =>
      intro S σ l1 l2 l3 l4 hR hF h
      simp only [bv_X6_conflicts_5] at h
      simp only [b_X6_conflicts_5]
      try simp only [hR.1, hR.2.1, hR.2.2.1]
      refine ⟨fun hc10 => ?_, fun hc10 => ?_⟩
      · have h := h.1 hc10
        obtain ⟨hz, h⟩ := h
        exact ⟨hz, hpost _ _ _ h hR hF⟩
      · have h := h.2 hc10
        refine ⟨hR.2.2.2.1, ?_⟩
        refine ⟨rm_kT hR (by decide) rfl, ?_⟩
        obtain ⟨hi1, h⟩ := h
        refine ⟨(rm_kL hR (k := 10) rfl (by decide)) ▸ hi1, ?_⟩
        intro v2 hv2
        have h := h v2 hv2
        refine ⟨fun hc9 => ?_, fun hc9 => ?_⟩
        · have h := h.1 hc9
          exact g78 _ _ ih _ _ _ _ _ _ _ hR hF h
        · have h := h.2 hc9
          refine ⟨fun hc8 => ?_, fun hc8 => ?_⟩
          · have h := h.1 hc8
            exact g82 _ _ ih _ _ _ _ _ _ _ hR hF h
          · have h := h.2 hc8
            refine ⟨rm_kT hR (by decide) rfl, ?_⟩
            obtain ⟨hi3, h⟩ := h
            refine ⟨(rm_kL hR (k := 9) rfl (by decide)) ▸ hi3, ?_⟩
            refine ⟨fun hc7 => ?_, fun hc7 => ?_⟩
            · have h := h.1 hc7
              exact g78 _ _ ih _ _ _ _ _ _ _ hR hF h
            · have h := h.2 hc7
              refine vr_X6_stored hR h (fun r4 σ4 S4 h hR4 hF4 => ?_)
              have hF4 := Fm.tr hF hF4
              try simp only [hR4.1, hR4.2.1, hR4.2.2.1]
              refine ⟨hR4.2.2.2.1, ?_⟩
              refine vr_X6_touchesAny hR4 h (fun r5 σ5 S5 h hR5 hF5 => ?_)
              have hF5 := Fm.tr hF4 hF5
              try simp only [hR5.1, hR5.2.1, hR5.2.2.1]
              refine ⟨fun hc6 => ?_, fun hc6 => ?_⟩
              · have h := h.1 hc6
                exact g82 _ _ ih _ _ _ _ _ _ _ hR5 hF5 h
              · have h := h.2 hc6
                exact g78 _ _ ih _ _ _ _ _ _ _ hR5 hF5 h
  unfold v_X6_conflicts at h
  unfold w_X6_conflicts
  try simp only [hR.1, hR.2.1, hR.2.2.1]
  obtain ⟨f5, h⟩ := h
  exact ⟨f5, g5 f5 _ _ _ _ _ _ hR hF h⟩
def bv_X6_isRival_28 (P : Int32 → Sg → Prop) (σ : Sg) (l1 : Int32) (l2 : Int32) (s0 : Int32) : Prop := narrow .boolean (.int s0) = .int s0 ∧ P s0 σ
def bv_X6_isRival_27 (P : Int32 → Sg → Prop) (σ : Sg) (l1 : Int32) (l2 : Int32) : Prop := bv_X6_isRival_28 P σ l1 l2 0
def v_X6_isRival (σ : Sg) (a1 : Int32) (a2 : Int32) (P : Int32 → Sg → Prop) : Prop := ((a2 = a1 → bv_X6_isRival_27 P σ a1 a2) ∧ (¬ a2 = a1 → vp_in a2 80 ∧ ((¬ (σ.2 2 (ix a2)) = 0 → bv_X6_isRival_27 P σ a1 a2) ∧ ((σ.2 2 (ix a2)) = 0 → v_X6_conflicts σ a1 a2 (fun r2 σ2 => ((r2 = 0 → bv_X6_isRival_27 P σ2 a1 a2) ∧ (¬ r2 = 0 → bv_X6_isRival_28 P σ2 a1 a2 1)))))))
set_option maxHeartbeats 4000000 in
theorem vr_X6_isRival {m : Nat} {ad : Nat → Nat} {S : MS} {σ : Sg} {a1 : Int32} {a2 : Int32} {P : Int32 → Sg → Prop} {post : Int32 → MS → Prop} (hR : RM m ad S σ) (h : v_X6_isRival σ a1 a2 P) (hpost : ∀ (r : Int32) (σ2 : Sg) (S2 : MS), P r σ2 → RM m ad S2 σ2 → Fm m ad S S2 → post r S2) : w_X6_isRival S m a1 a2 post := by
  have hpost := fun r σ2 S2 h1 h2 h3 => hpost r σ2 S2 h1 h2 h3
  have hF := Fm.rf m ad S
  obtain ⟨S0, hS0⟩ : ∃ z : MS, z = S := ⟨_, rfl⟩
  rw [← hS0] at hpost
  have hF : Fm m ad S0 S := by rw [hS0]; exact hF
  have g28 : ∀ (S : MS) (σ : Sg) (l1 : Int32) (l2 : Int32) (s0 : Int32), RM m ad S σ → Fm m ad S0 S → bv_X6_isRival_28 P σ l1 l2 s0 → b_X6_isRival_28 post S m l1 l2 s0 := by
    intro  S σ l1 l2 s0 hR hF h
    unfold bv_X6_isRival_28 at h
    unfold b_X6_isRival_28
    try simp only [hR.1, hR.2.1, hR.2.2.1]
    obtain ⟨hz, h⟩ := h
    exact ⟨hz, hpost _ _ _ h hR hF⟩
  have g27 : ∀ (S : MS) (σ : Sg) (l1 : Int32) (l2 : Int32), RM m ad S σ → Fm m ad S0 S → bv_X6_isRival_27 P σ l1 l2 → b_X6_isRival_27 post S m l1 l2  := by
    intro  S σ l1 l2 hR hF h
    unfold bv_X6_isRival_27 at h
    unfold b_X6_isRival_27
    try simp only [hR.1, hR.2.1, hR.2.2.1]
    exact g28 _ _ _ _ _ hR hF h
  unfold v_X6_isRival at h
  unfold w_X6_isRival
  try simp only [hR.1, hR.2.1, hR.2.2.1]
  refine ⟨fun hc5 => ?_, fun hc5 => ?_⟩
  · have h := h.1 hc5
    exact g27 _ _ _ _ hR hF h
  · have h := h.2 hc5
    refine ⟨hR.2.2.2.1, ?_⟩
    refine ⟨rm_kT hR (by decide) rfl, ?_⟩
    obtain ⟨hi1, h⟩ := h
    refine ⟨(rm_kL hR (k := 2) rfl (by decide)) ▸ hi1, ?_⟩
    refine ⟨fun hc4 => ?_, fun hc4 => ?_⟩
    · have h := h.1 hc4
      exact g27 _ _ _ _ hR hF h
    · have h := h.2 hc4
      refine vr_X6_conflicts hR h (fun r2 σ2 S2 h hR2 hF2 => ?_)
      have hF2 := Fm.tr hF hF2
      try simp only [hR2.1, hR2.2.1, hR2.2.2.1]
      refine ⟨fun hc3 => ?_, fun hc3 => ?_⟩
      · have h := h.1 hc3
        exact g27 _ _ _ _ hR2 hF2 h
      · have h := h.2 hc3
        exact g28 _ _ _ _ _ hR2 hF2 h
def bv_X6_countRivals_27 (KV4 : Sg → Int32 → Int32 → Int32 → Prop) (P : Int32 → Sg → Prop) (σ : Sg) (l1 : Int32) (l2 : Int32) (l3 : Int32) (s0 : Int32) (s1 : Int32) : Prop := ∀ v1 : Int32, v1 = s1 + s0 → ∀ v2 : Int32, v2 = l3 + 1 → KV4 σ l1 v1 v2
def bv_X6_countRivals_4 (P : Int32 → Sg → Prop) : Nat → Sg → Int32 → Int32 → Int32 → Prop
  | 0 => fun _ _ _ _ => False
  | f + 1 => fun σ l1 l2 l3 => (((σ.1 1) ≤ l3 → P l2 σ) ∧ (¬ (σ.1 1) ≤ l3 → v_X6_isRival σ l1 l3 (fun r1 σ1 => ((r1 = 0 → bv_X6_countRivals_27 (bv_X6_countRivals_4 P f) P σ1 l1 l2 l3 0 l2) ∧ (¬ r1 = 0 → bv_X6_countRivals_27 (bv_X6_countRivals_4 P f) P σ1 l1 l2 l3 1 l2)))))
def v_X6_countRivals (σ : Sg) (a1 : Int32) (P : Int32 → Sg → Prop) : Prop := ∃ f4, bv_X6_countRivals_4 P f4 σ a1 0 0
set_option maxHeartbeats 4000000 in
theorem vr_X6_countRivals {m : Nat} {ad : Nat → Nat} {S : MS} {σ : Sg} {a1 : Int32} {P : Int32 → Sg → Prop} {post : Int32 → MS → Prop} (hR : RM m ad S σ) (h : v_X6_countRivals σ a1 P) (hpost : ∀ (r : Int32) (σ2 : Sg) (S2 : MS), P r σ2 → RM m ad S2 σ2 → Fm m ad S S2 → post r S2) : w_X6_countRivals S m a1 post := by
  have hpost := fun r σ2 S2 h1 h2 h3 => hpost r σ2 S2 h1 h2 h3
  have hF := Fm.rf m ad S
  obtain ⟨S0, hS0⟩ : ∃ z : MS, z = S := ⟨_, rfl⟩
  rw [← hS0] at hpost
  have hF : Fm m ad S0 S := by rw [hS0]; exact hF
  have g27 : ∀ (KV4 : Sg → Int32 → Int32 → Int32 → Prop) (KH4 : MS → Nat → Int32 → Int32 → Int32 → Prop) (hKV4 : ∀ (S : MS) (σ : Sg) (l1 : Int32) (l2 : Int32) (l3 : Int32), RM m ad S σ → Fm m ad S0 S → KV4 σ l1 l2 l3 → KH4 S m l1 l2 l3 ) (S : MS) (σ : Sg) (l1 : Int32) (l2 : Int32) (l3 : Int32) (s0 : Int32) (s1 : Int32), RM m ad S σ → Fm m ad S0 S → bv_X6_countRivals_27 KV4 P σ l1 l2 l3 s0 s1 → b_X6_countRivals_27 KH4 post S m l1 l2 l3 s0 s1 := by
    intro KV4 KH4 hKV4 S σ l1 l2 l3 s0 s1 hR hF h
    unfold bv_X6_countRivals_27 at h
    unfold b_X6_countRivals_27
    try simp only [hR.1, hR.2.1, hR.2.2.1]
    intro v1 hv1
    have h := h v1 hv1
    intro v2 hv2
    have h := h v2 hv2
    exact hKV4 _ _ _ _ _ hR hF h
  have g4 : ∀ (f : Nat) (S : MS) (σ : Sg) (l1 : Int32) (l2 : Int32) (l3 : Int32), RM m ad S σ → Fm m ad S0 S → bv_X6_countRivals_4 P f σ l1 l2 l3 → b_X6_countRivals_4 post f S m l1 l2 l3  := by
    intro f
    induction f with
    | zero => intro S σ l1 l2 l3 hR hF h; exact h.elim
    | succ f ih =>
      intro S σ l1 l2 l3 hR hF h
      simp only [bv_X6_countRivals_4] at h
      simp only [b_X6_countRivals_4]
      try simp only [hR.1, hR.2.1, hR.2.2.1]
      refine ⟨hR.2.2.2.1, ?_⟩
      refine ⟨fun hc3 => ?_, fun hc3 => ?_⟩
      · have h := h.1 hc3
        exact hpost _ _ _ h hR hF
      · have h := h.2 hc3
        refine vr_X6_isRival hR h (fun r1 σ1 S1 h hR1 hF1 => ?_)
        have hF1 := Fm.tr hF hF1
        try simp only [hR1.1, hR1.2.1, hR1.2.2.1]
        refine ⟨fun hc2 => ?_, fun hc2 => ?_⟩
        · have h := h.1 hc2
          exact g27 _ _ ih _ _ _ _ _ _ _ hR1 hF1 h
        · have h := h.2 hc2
          exact g27 _ _ ih _ _ _ _ _ _ _ hR1 hF1 h
  unfold v_X6_countRivals at h
  unfold w_X6_countRivals
  try simp only [hR.1, hR.2.1, hR.2.2.1]
  obtain ⟨f4, h⟩ := h
  exact ⟨f4, g4 f4 _ _ _ _ _ hR hF h⟩
