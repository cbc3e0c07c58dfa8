/-! the law's cases: what each method's pair owes (Sp_..), and the loop out of them -/
abbrev TI (S : MS) (l1 l2 l3 l4 : Nat) (σ σ1 : Sg) : Prop := ∃ (loc ow : Nat → Nat) (M C N : Nat), Mid S l1 l2 l3 l4 loc ow σ σ1 M C N
theorem vp5 {i L j : Nat} (hi : i + 5 ≤ L) (hL : L ≤ 2560) (hj : j < 5) {x : Int32} (hx : x = nI (i + j)) : vp_in x L := by rw [hx]; exact vp_in_nI (by omega) (by omega)
theorem tail_th {S : MS} {l1 l2 l3 l4 : Nat} {loc ow : Nat → Nat} {σ : Sg} {M C N : Nat} (h : Inv S l1 l2 l3 l4 loc ow σ M C N) {post : Int32 → MS → Prop} (hp : post (σ.1 0) S) : kT S l2 = 7 ∧ w_X6_thrown S l2 post := by
  obtain ⟨-, -, -, -, -, -, -, -, -, -, -, -, hR, -⟩ := h
  refine ⟨hR.2.2.2.1, ?_⟩
  unfold w_X6_thrown
  refine ⟨hR.2.2.2.1, ?_⟩
  rw [hR.1]
  exact hp
theorem ix0 : ix 0 = 0 := rfl
theorem vp1 : vp_in 0 1 := by unfold vp_in; decide
def Sp_configure : Prop := ∀ (S : MS) (l1 l2 l3 l4 : Nat) (loc ow : Nat → Nat) (σ : Sg) (M C N : Nat) (x0 : Int32) (x1 : Int32) (x2 : Int32) (post : Int32 → MS → Prop), Inv S l1 l2 l3 l4 loc ow σ M C N → (∀ (k : Int32) (S1 : MS) (σ1 : Sg), v_X6_configure σ x0 x1 x2 (fun σ2 => eqv σ2 σ1 ∧ σ2.1 0 = k) → TI S1 l1 l2 l3 l4 σ σ1 → post k S1) → w_L_configure S l1 x0 x1 x2 post
set_option maxHeartbeats 1000000 in
theorem cs_configure (hs : Sp_configure) {xs : Nat → Int32} {L i : Nat} (hi : i + 5 ≤ L) (hL : L ≤ 2560) {KH : MS → Nat → Nat → Nat → Nat → Int32 → Prop} {S : MS} {l1 l2 l3 l4 : Nat} {loc ow : Nat → Nat} {σ : Sg} {M C N : Nat} (h : Inv S l1 l2 l3 l4 loc ow σ M C N) (hK : Nxt KH l1 l2 l3 l4 i) : b_L_law_224 xs L KH S l1 l2 l3 l4 (nI i) := by
  unfold b_L_law_224
  refine ⟨vp5 hi hL (j := 1) (by decide) (nI_add i 1), vp5 hi hL (j := 2) (by decide) (nI_add i 2), vp5 hi hL (j := 3) (by decide) (nI_add i 3), hs S l1 l2 l3 l4 loc ow σ M C N _ _ _ _ h (fun k S1 σ1 hv hA => ?_)⟩
  obtain ⟨loc1, ow1, M1, C1, N1, hM⟩ := hA
  have hR := hM.2.2.2.2.2.2.2.2.2.2.2.2.1
  refine ⟨vp5 hi hL (j := 1) (by decide) (nI_add i 1), vp5 hi hL (j := 2) (by decide) (nI_add i 2), vp5 hi hL (j := 3) (by decide) (nI_add i 3), hR.2.2.2.1, vr_X6_configure hR hv (fun σ2 S2 hP hR2 hF => ?_)⟩
  have hE := mid_end hM hF hR2 hP.1
  refine tail_th hE ?_
  exact ⟨fun _ => fun v hv => by rw [hv, nI5]; exact hK _ _ _ _ _ _ _ hE, fun hne => hne hP.2⟩
def Sp_begin : Prop := ∀ (S : MS) (l1 l2 l3 l4 : Nat) (loc ow : Nat → Nat) (σ : Sg) (M C N : Nat)  (post : Int32 → MS → Prop), Inv S l1 l2 l3 l4 loc ow σ M C N → (∀ (k : Int32) (S1 : MS) (σ1 : Sg) (ans : Int32), v_X6_begin σ  (fun r2 σ2 => eqv σ2 σ1 ∧ σ2.1 0 = k ∧ (k = 0 → r2 = ans)) → TI S1 l1 l2 l3 l4 σ σ1 → (k = 0 → sL S1 l3 0 = ans.toInt64) → post k S1) → w_L_begin S l1  l3 post
set_option maxHeartbeats 1000000 in
theorem cs_begin (hs : Sp_begin) {xs : Nat → Int32} {L i : Nat} (hi : i + 5 ≤ L) (hL : L ≤ 2560) {KH : MS → Nat → Nat → Nat → Nat → Int32 → Prop} {S : MS} {l1 l2 l3 l4 : Nat} {loc ow : Nat → Nat} {σ : Sg} {M C N : Nat} (h : Inv S l1 l2 l3 l4 loc ow σ M C N) (hK : Nxt KH l1 l2 l3 l4 i) : b_L_law_284 xs L KH S l1 l2 l3 l4 (nI i) := by
  unfold b_L_law_284
  refine hs S l1 l2 l3 l4 loc ow σ M C N  _ h (fun k S1 σ1 ans hv hA hans => ?_)
  obtain ⟨loc1, ow1, M1, C1, N1, hM⟩ := hA
  have hR := hM.2.2.2.2.2.2.2.2.2.2.2.2.1
  refine ⟨hR.2.2.2.1, vr_X6_begin hR hv (fun r2 σ2 S2 hP hR2 hF => ?_)⟩
  have hE := mid_end hM hF hR2 hP.1
  refine tail_th hE ?_
  refine ⟨fun hk => ⟨fun _ => fun v hv => by rw [hv, nI5]; exact hK _ _ _ _ _ _ _ hE, fun h0 => ?_⟩, fun hne => hne hP.2.1⟩
  have e4 : sL S2 l3 (ix 0) = ans.toInt64 := by rw [ix0, hF.2.2.1]; exact hans h0
  refine ⟨hE.2.2.2.2.1, by rw [hE.2.2.2.2.2.1]; exact vp1, ?_⟩
  rw [e4, hP.2.2 h0, lg_refl]
  exact ⟨fun _ => fun v hv => by rw [hv, nI5]; exact hK _ _ _ _ _ _ _ hE, fun hne => hne rfl⟩
def Sp_retry : Prop := ∀ (S : MS) (l1 l2 l3 l4 : Nat) (loc ow : Nat → Nat) (σ : Sg) (M C N : Nat) (x0 : Int32) (post : Int32 → MS → Prop), Inv S l1 l2 l3 l4 loc ow σ M C N → (∀ (k : Int32) (S1 : MS) (σ1 : Sg) (ans : Int32), v_X6_retry σ x0 (fun r2 σ2 => eqv σ2 σ1 ∧ σ2.1 0 = k ∧ (k = 0 → r2 = ans)) → TI S1 l1 l2 l3 l4 σ σ1 → (k = 0 → sL S1 l3 0 = ans.toInt64) → post k S1) → w_L_retry S l1 x0 l3 post
set_option maxHeartbeats 1000000 in
theorem cs_retry (hs : Sp_retry) {xs : Nat → Int32} {L i : Nat} (hi : i + 5 ≤ L) (hL : L ≤ 2560) {KH : MS → Nat → Nat → Nat → Nat → Int32 → Prop} {S : MS} {l1 l2 l3 l4 : Nat} {loc ow : Nat → Nat} {σ : Sg} {M C N : Nat} (h : Inv S l1 l2 l3 l4 loc ow σ M C N) (hK : Nxt KH l1 l2 l3 l4 i) : b_L_law_328 xs L KH S l1 l2 l3 l4 (nI i) := by
  unfold b_L_law_328
  refine ⟨vp5 hi hL (j := 1) (by decide) (nI_add i 1), hs S l1 l2 l3 l4 loc ow σ M C N _ _ h (fun k S1 σ1 ans hv hA hans => ?_)⟩
  obtain ⟨loc1, ow1, M1, C1, N1, hM⟩ := hA
  have hR := hM.2.2.2.2.2.2.2.2.2.2.2.2.1
  refine ⟨vp5 hi hL (j := 1) (by decide) (nI_add i 1), hR.2.2.2.1, vr_X6_retry hR hv (fun r2 σ2 S2 hP hR2 hF => ?_)⟩
  have hE := mid_end hM hF hR2 hP.1
  refine tail_th hE ?_
  refine ⟨fun hk => ⟨fun _ => fun v hv => by rw [hv, nI5]; exact hK _ _ _ _ _ _ _ hE, fun h0 => ?_⟩, fun hne => hne hP.2.1⟩
  have e4 : sL S2 l3 (ix 0) = ans.toInt64 := by rw [ix0, hF.2.2.1]; exact hans h0
  refine ⟨hE.2.2.2.2.1, by rw [hE.2.2.2.2.2.1]; exact vp1, ?_⟩
  rw [e4, hP.2.2 h0, lg_refl]
  exact ⟨fun _ => fun v hv => by rw [hv, nI5]; exact hK _ _ _ _ _ _ _ hE, fun hne => hne rfl⟩
def Sp_read : Prop := ∀ (S : MS) (l1 l2 l3 l4 : Nat) (loc ow : Nat → Nat) (σ : Sg) (M C N : Nat) (x0 : Int32) (x1 : Int32) (post : Int32 → MS → Prop), Inv S l1 l2 l3 l4 loc ow σ M C N → (∀ (k : Int32) (S1 : MS) (σ1 : Sg) (ans : Int32), v_X6_read σ x0 x1 (fun r2 σ2 => eqv σ2 σ1 ∧ σ2.1 0 = k ∧ (k = 0 → r2 = ans)) → TI S1 l1 l2 l3 l4 σ σ1 → (k = 0 → sL S1 l3 0 = ans.toInt64) → post k S1) → w_L_read S l1 x0 x1 l3 post
set_option maxHeartbeats 1000000 in
theorem cs_read (hs : Sp_read) {xs : Nat → Int32} {L i : Nat} (hi : i + 5 ≤ L) (hL : L ≤ 2560) {KH : MS → Nat → Nat → Nat → Nat → Int32 → Prop} {S : MS} {l1 l2 l3 l4 : Nat} {loc ow : Nat → Nat} {σ : Sg} {M C N : Nat} (h : Inv S l1 l2 l3 l4 loc ow σ M C N) (hK : Nxt KH l1 l2 l3 l4 i) : b_L_law_384 xs L KH S l1 l2 l3 l4 (nI i) := by
  unfold b_L_law_384
  refine ⟨vp5 hi hL (j := 1) (by decide) (nI_add i 1), vp5 hi hL (j := 2) (by decide) (nI_add i 2), hs S l1 l2 l3 l4 loc ow σ M C N _ _ _ h (fun k S1 σ1 ans hv hA hans => ?_)⟩
  obtain ⟨loc1, ow1, M1, C1, N1, hM⟩ := hA
  have hR := hM.2.2.2.2.2.2.2.2.2.2.2.2.1
  refine ⟨vp5 hi hL (j := 1) (by decide) (nI_add i 1), vp5 hi hL (j := 2) (by decide) (nI_add i 2), hR.2.2.2.1, vr_X6_read hR hv (fun r2 σ2 S2 hP hR2 hF => ?_)⟩
  have hE := mid_end hM hF hR2 hP.1
  refine tail_th hE ?_
  refine ⟨fun hk => ⟨fun _ => fun v hv => by rw [hv, nI5]; exact hK _ _ _ _ _ _ _ hE, fun h0 => ?_⟩, fun hne => hne hP.2.1⟩
  have e4 : sL S2 l3 (ix 0) = ans.toInt64 := by rw [ix0, hF.2.2.1]; exact hans h0
  refine ⟨hE.2.2.2.2.1, by rw [hE.2.2.2.2.2.1]; exact vp1, ?_⟩
  rw [e4, hP.2.2 h0, lg_refl]
  exact ⟨fun _ => fun v hv => by rw [hv, nI5]; exact hK _ _ _ _ _ _ _ hE, fun hne => hne rfl⟩
def Sp_scan : Prop := ∀ (S : MS) (l1 l2 l3 l4 : Nat) (loc ow : Nat → Nat) (σ : Sg) (M C N : Nat) (x0 : Int32) (x1 : Int32) (x2 : Int32) (x3 : Int32) (post : Int32 → MS → Prop), Inv S l1 l2 l3 l4 loc ow σ M C N → (∀ (k : Int32) (S1 : MS) (σ1 : Sg) (ans : Int32), v_X6_scan σ x0 x1 x2 x3 (fun r2 σ2 => eqv σ2 σ1 ∧ σ2.1 0 = k ∧ (k = 0 → r2 = ans)) → TI S1 l1 l2 l3 l4 σ σ1 → (k = 0 → sL S1 l3 0 = ans.toInt64) → post k S1) → w_L_scan S l1 x0 x1 x2 x3 l3 post
set_option maxHeartbeats 1000000 in
theorem cs_scan (hs : Sp_scan) {xs : Nat → Int32} {L i : Nat} (hi : i + 5 ≤ L) (hL : L ≤ 2560) {KH : MS → Nat → Nat → Nat → Nat → Int32 → Prop} {S : MS} {l1 l2 l3 l4 : Nat} {loc ow : Nat → Nat} {σ : Sg} {M C N : Nat} (h : Inv S l1 l2 l3 l4 loc ow σ M C N) (hK : Nxt KH l1 l2 l3 l4 i) : b_L_law_452 xs L KH S l1 l2 l3 l4 (nI i) := by
  unfold b_L_law_452
  refine ⟨vp5 hi hL (j := 1) (by decide) (nI_add i 1), vp5 hi hL (j := 2) (by decide) (nI_add i 2), vp5 hi hL (j := 3) (by decide) (nI_add i 3), vp5 hi hL (j := 4) (by decide) (nI_add i 4), hs S l1 l2 l3 l4 loc ow σ M C N _ _ _ _ _ h (fun k S1 σ1 ans hv hA hans => ?_)⟩
  obtain ⟨loc1, ow1, M1, C1, N1, hM⟩ := hA
  have hR := hM.2.2.2.2.2.2.2.2.2.2.2.2.1
  refine ⟨vp5 hi hL (j := 1) (by decide) (nI_add i 1), vp5 hi hL (j := 2) (by decide) (nI_add i 2), vp5 hi hL (j := 3) (by decide) (nI_add i 3), vp5 hi hL (j := 4) (by decide) (nI_add i 4), hR.2.2.2.1, vr_X6_scan hR hv (fun r2 σ2 S2 hP hR2 hF => ?_)⟩
  have hE := mid_end hM hF hR2 hP.1
  refine tail_th hE ?_
  refine ⟨fun hk => ⟨fun _ => fun v hv => by rw [hv, nI5]; exact hK _ _ _ _ _ _ _ hE, fun h0 => ?_⟩, fun hne => hne hP.2.1⟩
  have e4 : sL S2 l3 (ix 0) = ans.toInt64 := by rw [ix0, hF.2.2.1]; exact hans h0
  refine ⟨hE.2.2.2.2.1, by rw [hE.2.2.2.2.2.1]; exact vp1, ?_⟩
  rw [e4, hP.2.2 h0, lg_refl]
  exact ⟨fun _ => fun v hv => by rw [hv, nI5]; exact hK _ _ _ _ _ _ _ hE, fun hne => hne rfl⟩
def Sp_sum : Prop := ∀ (S : MS) (l1 l2 l3 l4 : Nat) (loc ow : Nat → Nat) (σ : Sg) (M C N : Nat) (x0 : Int32) (x1 : Int32) (x2 : Int32) (post : Int32 → MS → Prop), Inv S l1 l2 l3 l4 loc ow σ M C N → (∀ (k : Int32) (S1 : MS) (σ1 : Sg) (ans : Int32), v_X6_sum σ x0 x1 x2 (fun r2 σ2 => eqv σ2 σ1 ∧ σ2.1 0 = k ∧ (k = 0 → r2 = ans)) → TI S1 l1 l2 l3 l4 σ σ1 → (k = 0 → sL S1 l3 0 = ans.toInt64) → post k S1) → w_L_sum S l1 x0 x1 x2 l3 post
set_option maxHeartbeats 1000000 in
theorem cs_sum (hs : Sp_sum) {xs : Nat → Int32} {L i : Nat} (hi : i + 5 ≤ L) (hL : L ≤ 2560) {KH : MS → Nat → Nat → Nat → Nat → Int32 → Prop} {S : MS} {l1 l2 l3 l4 : Nat} {loc ow : Nat → Nat} {σ : Sg} {M C N : Nat} (h : Inv S l1 l2 l3 l4 loc ow σ M C N) (hK : Nxt KH l1 l2 l3 l4 i) : b_L_law_544 xs L KH S l1 l2 l3 l4 (nI i) := by
  unfold b_L_law_544
  refine ⟨vp5 hi hL (j := 1) (by decide) (nI_add i 1), vp5 hi hL (j := 2) (by decide) (nI_add i 2), vp5 hi hL (j := 3) (by decide) (nI_add i 3), hs S l1 l2 l3 l4 loc ow σ M C N _ _ _ _ h (fun k S1 σ1 ans hv hA hans => ?_)⟩
  obtain ⟨loc1, ow1, M1, C1, N1, hM⟩ := hA
  have hR := hM.2.2.2.2.2.2.2.2.2.2.2.2.1
  refine ⟨vp5 hi hL (j := 1) (by decide) (nI_add i 1), vp5 hi hL (j := 2) (by decide) (nI_add i 2), vp5 hi hL (j := 3) (by decide) (nI_add i 3), hR.2.2.2.1, vr_X6_sum hR hv (fun r2 σ2 S2 hP hR2 hF => ?_)⟩
  have hE := mid_end hM hF hR2 hP.1
  refine tail_th hE ?_
  refine ⟨fun hk => ⟨fun _ => fun v hv => by rw [hv, nI5]; exact hK _ _ _ _ _ _ _ hE, fun h0 => ?_⟩, fun hne => hne hP.2.1⟩
  have e4 : sL S2 l3 (ix 0) = ans.toInt64 := by rw [ix0, hF.2.2.1]; exact hans h0
  refine ⟨hE.2.2.2.2.1, by rw [hE.2.2.2.2.2.1]; exact vp1, ?_⟩
  rw [e4, hP.2.2 h0, lg_refl]
  exact ⟨fun _ => fun v hv => by rw [hv, nI5]; exact hK _ _ _ _ _ _ _ hE, fun hne => hne rfl⟩
def Sp_write : Prop := ∀ (S : MS) (l1 l2 l3 l4 : Nat) (loc ow : Nat → Nat) (σ : Sg) (M C N : Nat) (x0 : Int32) (x1 : Int32) (x2 : Int32) (post : Int32 → MS → Prop), Inv S l1 l2 l3 l4 loc ow σ M C N → (∀ (k : Int32) (S1 : MS) (σ1 : Sg), v_X6_write σ x0 x1 x2 (fun σ2 => eqv σ2 σ1 ∧ σ2.1 0 = k) → TI S1 l1 l2 l3 l4 σ σ1 → post k S1) → w_L_write S l1 x0 x1 x2 post
set_option maxHeartbeats 1000000 in
theorem cs_write (hs : Sp_write) {xs : Nat → Int32} {L i : Nat} (hi : i + 5 ≤ L) (hL : L ≤ 2560) {KH : MS → Nat → Nat → Nat → Nat → Int32 → Prop} {S : MS} {l1 l2 l3 l4 : Nat} {loc ow : Nat → Nat} {σ : Sg} {M C N : Nat} (h : Inv S l1 l2 l3 l4 loc ow σ M C N) (hK : Nxt KH l1 l2 l3 l4 i) : b_L_law_624 xs L KH S l1 l2 l3 l4 (nI i) := by
  unfold b_L_law_624
  refine ⟨vp5 hi hL (j := 1) (by decide) (nI_add i 1), vp5 hi hL (j := 2) (by decide) (nI_add i 2), vp5 hi hL (j := 3) (by decide) (nI_add i 3), hs S l1 l2 l3 l4 loc ow σ M C N _ _ _ _ h (fun k S1 σ1 hv hA => ?_)⟩
  obtain ⟨loc1, ow1, M1, C1, N1, hM⟩ := hA
  have hR := hM.2.2.2.2.2.2.2.2.2.2.2.2.1
  refine ⟨vp5 hi hL (j := 1) (by decide) (nI_add i 1), vp5 hi hL (j := 2) (by decide) (nI_add i 2), vp5 hi hL (j := 3) (by decide) (nI_add i 3), hR.2.2.2.1, vr_X6_write hR hv (fun σ2 S2 hP hR2 hF => ?_)⟩
  have hE := mid_end hM hF hR2 hP.1
  refine tail_th hE ?_
  exact ⟨fun _ => fun v hv => by rw [hv, nI5]; exact hK _ _ _ _ _ _ _ hE, fun hne => hne hP.2⟩
def Sp_remove : Prop := ∀ (S : MS) (l1 l2 l3 l4 : Nat) (loc ow : Nat → Nat) (σ : Sg) (M C N : Nat) (x0 : Int32) (x1 : Int32) (post : Int32 → MS → Prop), Inv S l1 l2 l3 l4 loc ow σ M C N → (∀ (k : Int32) (S1 : MS) (σ1 : Sg), v_X6_remove σ x0 x1 (fun σ2 => eqv σ2 σ1 ∧ σ2.1 0 = k) → TI S1 l1 l2 l3 l4 σ σ1 → post k S1) → w_L_remove S l1 x0 x1 post
set_option maxHeartbeats 1000000 in
theorem cs_remove (hs : Sp_remove) {xs : Nat → Int32} {L i : Nat} (hi : i + 5 ≤ L) (hL : L ≤ 2560) {KH : MS → Nat → Nat → Nat → Nat → Int32 → Prop} {S : MS} {l1 l2 l3 l4 : Nat} {loc ow : Nat → Nat} {σ : Sg} {M C N : Nat} (h : Inv S l1 l2 l3 l4 loc ow σ M C N) (hK : Nxt KH l1 l2 l3 l4 i) : b_L_law_684 xs L KH S l1 l2 l3 l4 (nI i) := by
  unfold b_L_law_684
  refine ⟨vp5 hi hL (j := 1) (by decide) (nI_add i 1), vp5 hi hL (j := 2) (by decide) (nI_add i 2), hs S l1 l2 l3 l4 loc ow σ M C N _ _ _ h (fun k S1 σ1 hv hA => ?_)⟩
  obtain ⟨loc1, ow1, M1, C1, N1, hM⟩ := hA
  have hR := hM.2.2.2.2.2.2.2.2.2.2.2.2.1
  refine ⟨vp5 hi hL (j := 1) (by decide) (nI_add i 1), vp5 hi hL (j := 2) (by decide) (nI_add i 2), hR.2.2.2.1, vr_X6_remove hR hv (fun σ2 S2 hP hR2 hF => ?_)⟩
  have hE := mid_end hM hF hR2 hP.1
  refine tail_th hE ?_
  exact ⟨fun _ => fun v hv => by rw [hv, nI5]; exact hK _ _ _ _ _ _ _ hE, fun hne => hne hP.2⟩
def Sp_add : Prop := ∀ (S : MS) (l1 l2 l3 l4 : Nat) (loc ow : Nat → Nat) (σ : Sg) (M C N : Nat) (x0 : Int32) (x1 : Int32) (x2 : Int32) (post : Int32 → MS → Prop), Inv S l1 l2 l3 l4 loc ow σ M C N → (∀ (k : Int32) (S1 : MS) (σ1 : Sg) (ans : Int32), v_X6_add σ x0 x1 x2 (fun r2 σ2 => eqv σ2 σ1 ∧ σ2.1 0 = k ∧ (k = 0 → r2 = ans)) → TI S1 l1 l2 l3 l4 σ σ1 → (k = 0 → sL S1 l3 0 = ans.toInt64) → post k S1) → w_L_add S l1 x0 x1 x2 l3 post
set_option maxHeartbeats 1000000 in
theorem cs_add (hs : Sp_add) {xs : Nat → Int32} {L i : Nat} (hi : i + 5 ≤ L) (hL : L ≤ 2560) {KH : MS → Nat → Nat → Nat → Nat → Int32 → Prop} {S : MS} {l1 l2 l3 l4 : Nat} {loc ow : Nat → Nat} {σ : Sg} {M C N : Nat} (h : Inv S l1 l2 l3 l4 loc ow σ M C N) (hK : Nxt KH l1 l2 l3 l4 i) : b_L_law_732 xs L KH S l1 l2 l3 l4 (nI i) := by
  unfold b_L_law_732
  refine ⟨vp5 hi hL (j := 1) (by decide) (nI_add i 1), vp5 hi hL (j := 2) (by decide) (nI_add i 2), vp5 hi hL (j := 3) (by decide) (nI_add i 3), hs S l1 l2 l3 l4 loc ow σ M C N _ _ _ _ h (fun k S1 σ1 ans hv hA hans => ?_)⟩
  obtain ⟨loc1, ow1, M1, C1, N1, hM⟩ := hA
  have hR := hM.2.2.2.2.2.2.2.2.2.2.2.2.1
  refine ⟨vp5 hi hL (j := 1) (by decide) (nI_add i 1), vp5 hi hL (j := 2) (by decide) (nI_add i 2), vp5 hi hL (j := 3) (by decide) (nI_add i 3), hR.2.2.2.1, vr_X6_add hR hv (fun r2 σ2 S2 hP hR2 hF => ?_)⟩
  have hE := mid_end hM hF hR2 hP.1
  refine tail_th hE ?_
  refine ⟨fun hk => ⟨fun _ => fun v hv => by rw [hv, nI5]; exact hK _ _ _ _ _ _ _ hE, fun h0 => ?_⟩, fun hne => hne hP.2.1⟩
  have e4 : sL S2 l3 (ix 0) = ans.toInt64 := by rw [ix0, hF.2.2.1]; exact hans h0
  refine ⟨hE.2.2.2.2.1, by rw [hE.2.2.2.2.2.1]; exact vp1, ?_⟩
  rw [e4, hP.2.2 h0, lg_refl]
  exact ⟨fun _ => fun v hv => by rw [hv, nI5]; exact hK _ _ _ _ _ _ _ hE, fun hne => hne rfl⟩
def Sp_commit : Prop := ∀ (S : MS) (l1 l2 l3 l4 : Nat) (loc ow : Nat → Nat) (σ : Sg) (M C N : Nat) (x0 : Int32) (post : Int32 → MS → Prop), Inv S l1 l2 l3 l4 loc ow σ M C N → (∀ (k : Int32) (S1 : MS) (σ1 : Sg) (ans : Int32), v_X6_commit σ x0 (fun r2 σ2 => eqv σ2 σ1 ∧ σ2.1 0 = k ∧ (k = 0 → r2 = ans)) → TI S1 l1 l2 l3 l4 σ σ1 → (k = 0 → sL S1 l3 0 = ans.toInt64) → post k S1) → w_L_commit S l1 x0 l3 post
set_option maxHeartbeats 1000000 in
theorem cs_commit (hs : Sp_commit) {xs : Nat → Int32} {L i : Nat} (hi : i + 5 ≤ L) (hL : L ≤ 2560) {KH : MS → Nat → Nat → Nat → Nat → Int32 → Prop} {S : MS} {l1 l2 l3 l4 : Nat} {loc ow : Nat → Nat} {σ : Sg} {M C N : Nat} (h : Inv S l1 l2 l3 l4 loc ow σ M C N) (hK : Nxt KH l1 l2 l3 l4 i) : b_L_law_812 xs L KH S l1 l2 l3 l4 (nI i) := by
  unfold b_L_law_812
  refine ⟨vp5 hi hL (j := 1) (by decide) (nI_add i 1), hs S l1 l2 l3 l4 loc ow σ M C N _ _ h (fun k S1 σ1 ans hv hA hans => ?_)⟩
  obtain ⟨loc1, ow1, M1, C1, N1, hM⟩ := hA
  have hR := hM.2.2.2.2.2.2.2.2.2.2.2.2.1
  refine ⟨vp5 hi hL (j := 1) (by decide) (nI_add i 1), hR.2.2.2.1, vr_X6_commit hR hv (fun r2 σ2 S2 hP hR2 hF => ?_)⟩
  have hE := mid_end hM hF hR2 hP.1
  refine tail_th hE ?_
  refine ⟨fun hk => ⟨fun _ => fun v hv => by rw [hv, nI5]; exact hK _ _ _ _ _ _ _ hE, fun h0 => ?_⟩, fun hne => hne hP.2.1⟩
  have e4 : sL S2 l3 (ix 0) = ans.toInt64 := by rw [ix0, hF.2.2.1]; exact hans h0
  refine ⟨hE.2.2.2.2.1, by rw [hE.2.2.2.2.2.1]; exact vp1, ?_⟩
  rw [e4, hP.2.2 h0, lg_refl]
  exact ⟨fun _ => fun v hv => by rw [hv, nI5]; exact hK _ _ _ _ _ _ _ hE, fun hne => hne rfl⟩
def Sp_abort : Prop := ∀ (S : MS) (l1 l2 l3 l4 : Nat) (loc ow : Nat → Nat) (σ : Sg) (M C N : Nat) (x0 : Int32) (post : Int32 → MS → Prop), Inv S l1 l2 l3 l4 loc ow σ M C N → (∀ (k : Int32) (S1 : MS) (σ1 : Sg), v_X6_abort σ x0 (fun σ2 => eqv σ2 σ1 ∧ σ2.1 0 = k) → TI S1 l1 l2 l3 l4 σ σ1 → post k S1) → w_L_abort S l1 x0 post
set_option maxHeartbeats 1000000 in
theorem cs_abort (hs : Sp_abort) {xs : Nat → Int32} {L i : Nat} (hi : i + 5 ≤ L) (hL : L ≤ 2560) {KH : MS → Nat → Nat → Nat → Nat → Int32 → Prop} {S : MS} {l1 l2 l3 l4 : Nat} {loc ow : Nat → Nat} {σ : Sg} {M C N : Nat} (h : Inv S l1 l2 l3 l4 loc ow σ M C N) (hK : Nxt KH l1 l2 l3 l4 i) : b_L_law_868 xs L KH S l1 l2 l3 l4 (nI i) := by
  unfold b_L_law_868
  refine ⟨vp5 hi hL (j := 1) (by decide) (nI_add i 1), hs S l1 l2 l3 l4 loc ow σ M C N _ _ h (fun k S1 σ1 hv hA => ?_)⟩
  obtain ⟨loc1, ow1, M1, C1, N1, hM⟩ := hA
  have hR := hM.2.2.2.2.2.2.2.2.2.2.2.2.1
  refine ⟨vp5 hi hL (j := 1) (by decide) (nI_add i 1), hR.2.2.2.1, vr_X6_abort hR hv (fun σ2 S2 hP hR2 hF => ?_)⟩
  have hE := mid_end hM hF hR2 hP.1
  refine tail_th hE ?_
  exact ⟨fun _ => fun v hv => by rw [hv, nI5]; exact hK _ _ _ _ _ _ _ hE, fun hne => hne hP.2⟩
def Sp_clock : Prop := ∀ (S : MS) (l1 l2 l3 l4 : Nat) (loc ow : Nat → Nat) (σ : Sg) (M C N : Nat) (post : Int32 → MS → Prop), Inv S l1 l2 l3 l4 loc ow σ M C N → (∀ (r : Int32) (S1 : MS) (σ1 : Sg), v_X6_clock σ (fun r2 σ2 => eqv σ2 σ1 ∧ r = r2) → TI S1 l1 l2 l3 l4 σ σ1 → post r S1) → w_X5_clock S l1 post
set_option maxHeartbeats 1000000 in
theorem cs_clock (hs : Sp_clock) {xs : Nat → Int32} {L i : Nat} (hi : i + 5 ≤ L) (hL : L ≤ 2560) {KH : MS → Nat → Nat → Nat → Nat → Int32 → Prop} {S : MS} {l1 l2 l3 l4 : Nat} {loc ow : Nat → Nat} {σ : Sg} {M C N : Nat} (h : Inv S l1 l2 l3 l4 loc ow σ M C N) (hK : Nxt KH l1 l2 l3 l4 i) : b_L_law_904 xs L KH S l1 l2 l3 l4 (nI i) := by
  unfold b_L_law_904
  refine ⟨by rw [← h.1]; exact h.2.2.2.2.2.2.2.2.2.2.2.1.1.1, hs S l1 l2 l3 l4 loc ow σ M C N _ h (fun r S1 σ1 hv hA => ?_)⟩
  obtain ⟨loc1, ow1, M1, C1, N1, hM⟩ := hA
  have hR := hM.2.2.2.2.2.2.2.2.2.2.2.2.1
  refine ⟨hR.2.2.2.1, vr_X6_clock hR hv (fun r2 σ2 S2 hP hR2 hF => ?_)⟩
  have hE := mid_end hM hF hR2 hP.1
  exact ⟨fun _ => fun v hv => by rw [hv, nI5]; exact hK _ _ _ _ _ _ _ hE, fun hne => hne hP.2⟩
def Sp_transactionCount : Prop := ∀ (S : MS) (l1 l2 l3 l4 : Nat) (loc ow : Nat → Nat) (σ : Sg) (M C N : Nat) (post : Int32 → MS → Prop), Inv S l1 l2 l3 l4 loc ow σ M C N → (∀ (r : Int32) (S1 : MS) (σ1 : Sg), v_X6_transactionCount σ (fun r2 σ2 => eqv σ2 σ1 ∧ r = r2) → TI S1 l1 l2 l3 l4 σ σ1 → post r S1) → w_X5_transactionCount S l1 post
set_option maxHeartbeats 1000000 in
theorem cs_transactionCount (hs : Sp_transactionCount) {xs : Nat → Int32} {L i : Nat} (hi : i + 5 ≤ L) (hL : L ≤ 2560) {KH : MS → Nat → Nat → Nat → Nat → Int32 → Prop} {S : MS} {l1 l2 l3 l4 : Nat} {loc ow : Nat → Nat} {σ : Sg} {M C N : Nat} (h : Inv S l1 l2 l3 l4 loc ow σ M C N) (hK : Nxt KH l1 l2 l3 l4 i) : b_L_law_917 xs L KH S l1 l2 l3 l4 (nI i) := by
  unfold b_L_law_917
  refine ⟨by rw [← h.1]; exact h.2.2.2.2.2.2.2.2.2.2.2.1.1.1, hs S l1 l2 l3 l4 loc ow σ M C N _ h (fun r S1 σ1 hv hA => ?_)⟩
  obtain ⟨loc1, ow1, M1, C1, N1, hM⟩ := hA
  have hR := hM.2.2.2.2.2.2.2.2.2.2.2.2.1
  refine ⟨hR.2.2.2.1, vr_X6_transactionCount hR hv (fun r2 σ2 S2 hP hR2 hF => ?_)⟩
  have hE := mid_end hM hF hR2 hP.1
  exact ⟨fun _ => fun v hv => by rw [hv, nI5]; exact hK _ _ _ _ _ _ _ hE, fun hne => hne hP.2⟩
def Sp_activeCount : Prop := ∀ (S : MS) (l1 l2 l3 l4 : Nat) (loc ow : Nat → Nat) (σ : Sg) (M C N : Nat) (post : Int32 → MS → Prop), Inv S l1 l2 l3 l4 loc ow σ M C N → (∀ (r : Int32) (S1 : MS) (σ1 : Sg), v_X6_activeCount σ (fun r2 σ2 => eqv σ2 σ1 ∧ r = r2) → TI S1 l1 l2 l3 l4 σ σ1 → post r S1) → w_X5_activeCount S l1 post
set_option maxHeartbeats 1000000 in
theorem cs_activeCount (hs : Sp_activeCount) {xs : Nat → Int32} {L i : Nat} (hi : i + 5 ≤ L) (hL : L ≤ 2560) {KH : MS → Nat → Nat → Nat → Nat → Int32 → Prop} {S : MS} {l1 l2 l3 l4 : Nat} {loc ow : Nat → Nat} {σ : Sg} {M C N : Nat} (h : Inv S l1 l2 l3 l4 loc ow σ M C N) (hK : Nxt KH l1 l2 l3 l4 i) : b_L_law_930 xs L KH S l1 l2 l3 l4 (nI i) := by
  unfold b_L_law_930
  refine ⟨by rw [← h.1]; exact h.2.2.2.2.2.2.2.2.2.2.2.1.1.1, hs S l1 l2 l3 l4 loc ow σ M C N _ h (fun r S1 σ1 hv hA => ?_)⟩
  obtain ⟨loc1, ow1, M1, C1, N1, hM⟩ := hA
  have hR := hM.2.2.2.2.2.2.2.2.2.2.2.2.1
  refine ⟨hR.2.2.2.1, vr_X6_activeCount hR hv (fun r2 σ2 S2 hP hR2 hF => ?_)⟩
  have hE := mid_end hM hF hR2 hP.1
  exact ⟨fun _ => fun v hv => by rw [hv, nI5]; exact hK _ _ _ _ _ _ _ hE, fun hne => hne hP.2⟩
def Sp_ticketHolder : Prop := ∀ (S : MS) (l1 l2 l3 l4 : Nat) (loc ow : Nat → Nat) (σ : Sg) (M C N : Nat)  (post : Int32 → MS → Prop), Inv S l1 l2 l3 l4 loc ow σ M C N → (∀ (k : Int32) (S1 : MS) (σ1 : Sg) (ans : Int32), v_X6_ticketHolder σ  (fun r2 σ2 => eqv σ2 σ1 ∧ σ2.1 0 = k ∧ (k = 0 → r2 = ans)) → TI S1 l1 l2 l3 l4 σ σ1 → (k = 0 → sL S1 l3 0 = ans.toInt64) → post k S1) → w_L_ticketHolder S l1  l3 post
set_option maxHeartbeats 1000000 in
theorem cs_ticketHolder (hs : Sp_ticketHolder) {xs : Nat → Int32} {L i : Nat} (hi : i + 5 ≤ L) (hL : L ≤ 2560) {KH : MS → Nat → Nat → Nat → Nat → Int32 → Prop} {S : MS} {l1 l2 l3 l4 : Nat} {loc ow : Nat → Nat} {σ : Sg} {M C N : Nat} (h : Inv S l1 l2 l3 l4 loc ow σ M C N) (hK : Nxt KH l1 l2 l3 l4 i) : b_L_law_943 xs L KH S l1 l2 l3 l4 (nI i) := by
  unfold b_L_law_943
  refine hs S l1 l2 l3 l4 loc ow σ M C N  _ h (fun k S1 σ1 ans hv hA hans => ?_)
  obtain ⟨loc1, ow1, M1, C1, N1, hM⟩ := hA
  have hR := hM.2.2.2.2.2.2.2.2.2.2.2.2.1
  refine ⟨hR.2.2.2.1, vr_X6_ticketHolder hR hv (fun r2 σ2 S2 hP hR2 hF => ?_)⟩
  have hE := mid_end hM hF hR2 hP.1
  refine tail_th hE ?_
  refine ⟨fun hk => ⟨fun _ => fun v hv => by rw [hv, nI5]; exact hK _ _ _ _ _ _ _ hE, fun h0 => ?_⟩, fun hne => hne hP.2.1⟩
  have e4 : sL S2 l3 (ix 0) = ans.toInt64 := by rw [ix0, hF.2.2.1]; exact hans h0
  refine ⟨hE.2.2.2.2.1, by rw [hE.2.2.2.2.2.1]; exact vp1, ?_⟩
  rw [e4, hP.2.2 h0, lg_refl]
  exact ⟨fun _ => fun v hv => by rw [hv, nI5]; exact hK _ _ _ _ _ _ _ hE, fun hne => hne rfl⟩
def Sp_state : Prop := ∀ (S : MS) (l1 l2 l3 l4 : Nat) (loc ow : Nat → Nat) (σ : Sg) (M C N : Nat) (x0 : Int32) (post : Int32 → MS → Prop), Inv S l1 l2 l3 l4 loc ow σ M C N → (∀ (k : Int32) (S1 : MS) (σ1 : Sg) (ans : Int32), v_X6_state σ x0 (fun r2 σ2 => eqv σ2 σ1 ∧ σ2.1 0 = k ∧ (k = 0 → r2 = ans)) → TI S1 l1 l2 l3 l4 σ σ1 → (k = 0 → sL S1 l3 0 = ans.toInt64) → post k S1) → w_L_state S l1 x0 l3 post
set_option maxHeartbeats 1000000 in
theorem cs_state (hs : Sp_state) {xs : Nat → Int32} {L i : Nat} (hi : i + 5 ≤ L) (hL : L ≤ 2560) {KH : MS → Nat → Nat → Nat → Nat → Int32 → Prop} {S : MS} {l1 l2 l3 l4 : Nat} {loc ow : Nat → Nat} {σ : Sg} {M C N : Nat} (h : Inv S l1 l2 l3 l4 loc ow σ M C N) (hK : Nxt KH l1 l2 l3 l4 i) : b_L_law_987 xs L KH S l1 l2 l3 l4 (nI i) := by
  unfold b_L_law_987
  refine ⟨vp5 hi hL (j := 1) (by decide) (nI_add i 1), hs S l1 l2 l3 l4 loc ow σ M C N _ _ h (fun k S1 σ1 ans hv hA hans => ?_)⟩
  obtain ⟨loc1, ow1, M1, C1, N1, hM⟩ := hA
  have hR := hM.2.2.2.2.2.2.2.2.2.2.2.2.1
  refine ⟨vp5 hi hL (j := 1) (by decide) (nI_add i 1), hR.2.2.2.1, vr_X6_state hR hv (fun r2 σ2 S2 hP hR2 hF => ?_)⟩
  have hE := mid_end hM hF hR2 hP.1
  refine tail_th hE ?_
  refine ⟨fun hk => ⟨fun _ => fun v hv => by rw [hv, nI5]; exact hK _ _ _ _ _ _ _ hE, fun h0 => ?_⟩, fun hne => hne hP.2.1⟩
  have e4 : sL S2 l3 (ix 0) = ans.toInt64 := by rw [ix0, hF.2.2.1]; exact hans h0
  refine ⟨hE.2.2.2.2.1, by rw [hE.2.2.2.2.2.1]; exact vp1, ?_⟩
  rw [e4, hP.2.2 h0, lg_refl]
  exact ⟨fun _ => fun v hv => by rw [hv, nI5]; exact hK _ _ _ _ _ _ _ hE, fun hne => hne rfl⟩
def Sp_attempt : Prop := ∀ (S : MS) (l1 l2 l3 l4 : Nat) (loc ow : Nat → Nat) (σ : Sg) (M C N : Nat) (x0 : Int32) (post : Int32 → MS → Prop), Inv S l1 l2 l3 l4 loc ow σ M C N → (∀ (k : Int32) (S1 : MS) (σ1 : Sg) (ans : Int32), v_X6_attempt σ x0 (fun r2 σ2 => eqv σ2 σ1 ∧ σ2.1 0 = k ∧ (k = 0 → r2 = ans)) → TI S1 l1 l2 l3 l4 σ σ1 → (k = 0 → sL S1 l3 0 = ans.toInt64) → post k S1) → w_L_attempt S l1 x0 l3 post
set_option maxHeartbeats 1000000 in
theorem cs_attempt (hs : Sp_attempt) {xs : Nat → Int32} {L i : Nat} (hi : i + 5 ≤ L) (hL : L ≤ 2560) {KH : MS → Nat → Nat → Nat → Nat → Int32 → Prop} {S : MS} {l1 l2 l3 l4 : Nat} {loc ow : Nat → Nat} {σ : Sg} {M C N : Nat} (h : Inv S l1 l2 l3 l4 loc ow σ M C N) (hK : Nxt KH l1 l2 l3 l4 i) : b_L_law_1043 xs L KH S l1 l2 l3 l4 (nI i) := by
  unfold b_L_law_1043
  refine ⟨vp5 hi hL (j := 1) (by decide) (nI_add i 1), hs S l1 l2 l3 l4 loc ow σ M C N _ _ h (fun k S1 σ1 ans hv hA hans => ?_)⟩
  obtain ⟨loc1, ow1, M1, C1, N1, hM⟩ := hA
  have hR := hM.2.2.2.2.2.2.2.2.2.2.2.2.1
  refine ⟨vp5 hi hL (j := 1) (by decide) (nI_add i 1), hR.2.2.2.1, vr_X6_attempt hR hv (fun r2 σ2 S2 hP hR2 hF => ?_)⟩
  have hE := mid_end hM hF hR2 hP.1
  refine tail_th hE ?_
  refine ⟨fun hk => ⟨fun _ => fun v hv => by rw [hv, nI5]; exact hK _ _ _ _ _ _ _ hE, fun h0 => ?_⟩, fun hne => hne hP.2.1⟩
  have e4 : sL S2 l3 (ix 0) = ans.toInt64 := by rw [ix0, hF.2.2.1]; exact hans h0
  refine ⟨hE.2.2.2.2.1, by rw [hE.2.2.2.2.2.1]; exact vp1, ?_⟩
  rw [e4, hP.2.2 h0, lg_refl]
  exact ⟨fun _ => fun v hv => by rw [hv, nI5]; exact hK _ _ _ _ _ _ _ hE, fun hne => hne rfl⟩
def Sp_reason : Prop := ∀ (S : MS) (l1 l2 l3 l4 : Nat) (loc ow : Nat → Nat) (σ : Sg) (M C N : Nat) (x0 : Int32) (post : Int32 → MS → Prop), Inv S l1 l2 l3 l4 loc ow σ M C N → (∀ (k : Int32) (S1 : MS) (σ1 : Sg) (ans : Int32), v_X6_reason σ x0 (fun r2 σ2 => eqv σ2 σ1 ∧ σ2.1 0 = k ∧ (k = 0 → r2 = ans)) → TI S1 l1 l2 l3 l4 σ σ1 → (k = 0 → sL S1 l3 0 = ans.toInt64) → post k S1) → w_L_reason S l1 x0 l3 post
set_option maxHeartbeats 1000000 in
theorem cs_reason (hs : Sp_reason) {xs : Nat → Int32} {L i : Nat} (hi : i + 5 ≤ L) (hL : L ≤ 2560) {KH : MS → Nat → Nat → Nat → Nat → Int32 → Prop} {S : MS} {l1 l2 l3 l4 : Nat} {loc ow : Nat → Nat} {σ : Sg} {M C N : Nat} (h : Inv S l1 l2 l3 l4 loc ow σ M C N) (hK : Nxt KH l1 l2 l3 l4 i) : b_L_law_1099 xs L KH S l1 l2 l3 l4 (nI i) := by
  unfold b_L_law_1099
  refine ⟨vp5 hi hL (j := 1) (by decide) (nI_add i 1), hs S l1 l2 l3 l4 loc ow σ M C N _ _ h (fun k S1 σ1 ans hv hA hans => ?_)⟩
  obtain ⟨loc1, ow1, M1, C1, N1, hM⟩ := hA
  have hR := hM.2.2.2.2.2.2.2.2.2.2.2.2.1
  refine ⟨vp5 hi hL (j := 1) (by decide) (nI_add i 1), hR.2.2.2.1, vr_X6_reason hR hv (fun r2 σ2 S2 hP hR2 hF => ?_)⟩
  have hE := mid_end hM hF hR2 hP.1
  refine tail_th hE ?_
  refine ⟨fun hk => ⟨fun _ => fun v hv => by rw [hv, nI5]; exact hK _ _ _ _ _ _ _ hE, fun h0 => ?_⟩, fun hne => hne hP.2.1⟩
  have e4 : sL S2 l3 (ix 0) = ans.toInt64 := by rw [ix0, hF.2.2.1]; exact hans h0
  refine ⟨hE.2.2.2.2.1, by rw [hE.2.2.2.2.2.1]; exact vp1, ?_⟩
  rw [e4, hP.2.2 h0, lg_refl]
  exact ⟨fun _ => fun v hv => by rw [hv, nI5]; exact hK _ _ _ _ _ _ _ hE, fun hne => hne rfl⟩
def Sp_commitOf : Prop := ∀ (S : MS) (l1 l2 l3 l4 : Nat) (loc ow : Nat → Nat) (σ : Sg) (M C N : Nat) (x0 : Int32) (post : Int32 → MS → Prop), Inv S l1 l2 l3 l4 loc ow σ M C N → (∀ (k : Int32) (S1 : MS) (σ1 : Sg) (ans : Int32), v_X6_commitOf σ x0 (fun r2 σ2 => eqv σ2 σ1 ∧ σ2.1 0 = k ∧ (k = 0 → r2 = ans)) → TI S1 l1 l2 l3 l4 σ σ1 → (k = 0 → sL S1 l3 0 = ans.toInt64) → post k S1) → w_L_commitOf S l1 x0 l3 post
set_option maxHeartbeats 1000000 in
theorem cs_commitOf (hs : Sp_commitOf) {xs : Nat → Int32} {L i : Nat} (hi : i + 5 ≤ L) (hL : L ≤ 2560) {KH : MS → Nat → Nat → Nat → Nat → Int32 → Prop} {S : MS} {l1 l2 l3 l4 : Nat} {loc ow : Nat → Nat} {σ : Sg} {M C N : Nat} (h : Inv S l1 l2 l3 l4 loc ow σ M C N) (hK : Nxt KH l1 l2 l3 l4 i) : b_L_law_1155 xs L KH S l1 l2 l3 l4 (nI i) := by
  unfold b_L_law_1155
  refine ⟨vp5 hi hL (j := 1) (by decide) (nI_add i 1), hs S l1 l2 l3 l4 loc ow σ M C N _ _ h (fun k S1 σ1 ans hv hA hans => ?_)⟩
  obtain ⟨loc1, ow1, M1, C1, N1, hM⟩ := hA
  have hR := hM.2.2.2.2.2.2.2.2.2.2.2.2.1
  refine ⟨vp5 hi hL (j := 1) (by decide) (nI_add i 1), hR.2.2.2.1, vr_X6_commitOf hR hv (fun r2 σ2 S2 hP hR2 hF => ?_)⟩
  have hE := mid_end hM hF hR2 hP.1
  refine tail_th hE ?_
  refine ⟨fun hk => ⟨fun _ => fun v hv => by rw [hv, nI5]; exact hK _ _ _ _ _ _ _ hE, fun h0 => ?_⟩, fun hne => hne hP.2.1⟩
  have e4 : sL S2 l3 (ix 0) = ans.toInt64 := by rw [ix0, hF.2.2.1]; exact hans h0
  refine ⟨hE.2.2.2.2.1, by rw [hE.2.2.2.2.2.1]; exact vp1, ?_⟩
  rw [e4, hP.2.2 h0, lg_refl]
  exact ⟨fun _ => fun v hv => by rw [hv, nI5]; exact hK _ _ _ _ _ _ _ hE, fun hne => hne rfl⟩
def Sp_operationCount : Prop := ∀ (S : MS) (l1 l2 l3 l4 : Nat) (loc ow : Nat → Nat) (σ : Sg) (M C N : Nat) (x0 : Int32) (post : Int32 → MS → Prop), Inv S l1 l2 l3 l4 loc ow σ M C N → (∀ (k : Int32) (S1 : MS) (σ1 : Sg) (ans : Int32), v_X6_operationCount σ x0 (fun r2 σ2 => eqv σ2 σ1 ∧ σ2.1 0 = k ∧ (k = 0 → r2 = ans)) → TI S1 l1 l2 l3 l4 σ σ1 → (k = 0 → sL S1 l3 0 = ans.toInt64) → post k S1) → w_L_operationCount S l1 x0 l3 post
set_option maxHeartbeats 1000000 in
theorem cs_operationCount (hs : Sp_operationCount) {xs : Nat → Int32} {L i : Nat} (hi : i + 5 ≤ L) (hL : L ≤ 2560) {KH : MS → Nat → Nat → Nat → Nat → Int32 → Prop} {S : MS} {l1 l2 l3 l4 : Nat} {loc ow : Nat → Nat} {σ : Sg} {M C N : Nat} (h : Inv S l1 l2 l3 l4 loc ow σ M C N) (hK : Nxt KH l1 l2 l3 l4 i) : b_L_law_1211 xs L KH S l1 l2 l3 l4 (nI i) := by
  unfold b_L_law_1211
  refine ⟨vp5 hi hL (j := 1) (by decide) (nI_add i 1), hs S l1 l2 l3 l4 loc ow σ M C N _ _ h (fun k S1 σ1 ans hv hA hans => ?_)⟩
  obtain ⟨loc1, ow1, M1, C1, N1, hM⟩ := hA
  have hR := hM.2.2.2.2.2.2.2.2.2.2.2.2.1
  refine ⟨vp5 hi hL (j := 1) (by decide) (nI_add i 1), hR.2.2.2.1, vr_X6_operationCount hR hv (fun r2 σ2 S2 hP hR2 hF => ?_)⟩
  have hE := mid_end hM hF hR2 hP.1
  refine tail_th hE ?_
  refine ⟨fun hk => ⟨fun _ => fun v hv => by rw [hv, nI5]; exact hK _ _ _ _ _ _ _ hE, fun h0 => ?_⟩, fun hne => hne hP.2.1⟩
  have e4 : sL S2 l3 (ix 0) = ans.toInt64 := by rw [ix0, hF.2.2.1]; exact hans h0
  refine ⟨hE.2.2.2.2.1, by rw [hE.2.2.2.2.2.1]; exact vp1, ?_⟩
  rw [e4, hP.2.2 h0, lg_refl]
  exact ⟨fun _ => fun v hv => by rw [hv, nI5]; exact hK _ _ _ _ _ _ _ hE, fun hne => hne rfl⟩
def Sp_recordedKeys : Prop := ∀ (S : MS) (l1 l2 l3 l4 : Nat) (loc ow : Nat → Nat) (σ : Sg) (M C N : Nat) (x0 : Int32) (post : Int32 → MS → Prop), Inv S l1 l2 l3 l4 loc ow σ M C N → (∀ (k : Int32) (S1 : MS) (σ1 : Sg) (ans : Int32), v_X6_recordedKeys σ x0 (fun r2 σ2 => eqv σ2 σ1 ∧ σ2.1 0 = k ∧ (k = 0 → r2 = ans)) → TI S1 l1 l2 l3 l4 σ σ1 → (k = 0 → sL S1 l3 0 = ans.toInt64) → post k S1) → w_L_recordedKeys S l1 x0 l3 post
set_option maxHeartbeats 1000000 in
theorem cs_recordedKeys (hs : Sp_recordedKeys) {xs : Nat → Int32} {L i : Nat} (hi : i + 5 ≤ L) (hL : L ≤ 2560) {KH : MS → Nat → Nat → Nat → Nat → Int32 → Prop} {S : MS} {l1 l2 l3 l4 : Nat} {loc ow : Nat → Nat} {σ : Sg} {M C N : Nat} (h : Inv S l1 l2 l3 l4 loc ow σ M C N) (hK : Nxt KH l1 l2 l3 l4 i) : b_L_law_1267 xs L KH S l1 l2 l3 l4 (nI i) := by
  unfold b_L_law_1267
  refine ⟨vp5 hi hL (j := 1) (by decide) (nI_add i 1), hs S l1 l2 l3 l4 loc ow σ M C N _ _ h (fun k S1 σ1 ans hv hA hans => ?_)⟩
  obtain ⟨loc1, ow1, M1, C1, N1, hM⟩ := hA
  have hR := hM.2.2.2.2.2.2.2.2.2.2.2.2.1
  refine ⟨vp5 hi hL (j := 1) (by decide) (nI_add i 1), hR.2.2.2.1, vr_X6_recordedKeys hR hv (fun r2 σ2 S2 hP hR2 hF => ?_)⟩
  have hE := mid_end hM hF hR2 hP.1
  refine tail_th hE ?_
  refine ⟨fun hk => ⟨fun _ => fun v hv => by rw [hv, nI5]; exact hK _ _ _ _ _ _ _ hE, fun h0 => ?_⟩, fun hne => hne hP.2.1⟩
  have e4 : sL S2 l3 (ix 0) = ans.toInt64 := by rw [ix0, hF.2.2.1]; exact hans h0
  refine ⟨hE.2.2.2.2.1, by rw [hE.2.2.2.2.2.1]; exact vp1, ?_⟩
  rw [e4, hP.2.2 h0, lg_refl]
  exact ⟨fun _ => fun v hv => by rw [hv, nI5]; exact hK _ _ _ _ _ _ _ hE, fun hne => hne rfl⟩
def Sp_predicateCount : Prop := ∀ (S : MS) (l1 l2 l3 l4 : Nat) (loc ow : Nat → Nat) (σ : Sg) (M C N : Nat) (x0 : Int32) (post : Int32 → MS → Prop), Inv S l1 l2 l3 l4 loc ow σ M C N → (∀ (k : Int32) (S1 : MS) (σ1 : Sg) (ans : Int32), v_X6_predicateCount σ x0 (fun r2 σ2 => eqv σ2 σ1 ∧ σ2.1 0 = k ∧ (k = 0 → r2 = ans)) → TI S1 l1 l2 l3 l4 σ σ1 → (k = 0 → sL S1 l3 0 = ans.toInt64) → post k S1) → w_L_predicateCount S l1 x0 l3 post
set_option maxHeartbeats 1000000 in
theorem cs_predicateCount (hs : Sp_predicateCount) {xs : Nat → Int32} {L i : Nat} (hi : i + 5 ≤ L) (hL : L ≤ 2560) {KH : MS → Nat → Nat → Nat → Nat → Int32 → Prop} {S : MS} {l1 l2 l3 l4 : Nat} {loc ow : Nat → Nat} {σ : Sg} {M C N : Nat} (h : Inv S l1 l2 l3 l4 loc ow σ M C N) (hK : Nxt KH l1 l2 l3 l4 i) : b_L_law_1323 xs L KH S l1 l2 l3 l4 (nI i) := by
  unfold b_L_law_1323
  refine ⟨vp5 hi hL (j := 1) (by decide) (nI_add i 1), hs S l1 l2 l3 l4 loc ow σ M C N _ _ h (fun k S1 σ1 ans hv hA hans => ?_)⟩
  obtain ⟨loc1, ow1, M1, C1, N1, hM⟩ := hA
  have hR := hM.2.2.2.2.2.2.2.2.2.2.2.2.1
  refine ⟨vp5 hi hL (j := 1) (by decide) (nI_add i 1), hR.2.2.2.1, vr_X6_predicateCount hR hv (fun r2 σ2 S2 hP hR2 hF => ?_)⟩
  have hE := mid_end hM hF hR2 hP.1
  refine tail_th hE ?_
  refine ⟨fun hk => ⟨fun _ => fun v hv => by rw [hv, nI5]; exact hK _ _ _ _ _ _ _ hE, fun h0 => ?_⟩, fun hne => hne hP.2.1⟩
  have e4 : sL S2 l3 (ix 0) = ans.toInt64 := by rw [ix0, hF.2.2.1]; exact hans h0
  refine ⟨hE.2.2.2.2.1, by rw [hE.2.2.2.2.2.1]; exact vp1, ?_⟩
  rw [e4, hP.2.2 h0, lg_refl]
  exact ⟨fun _ => fun v hv => by rw [hv, nI5]; exact hK _ _ _ _ _ _ _ hE, fun hne => hne rfl⟩
def Sp_writtenKeys : Prop := ∀ (S : MS) (l1 l2 l3 l4 : Nat) (loc ow : Nat → Nat) (σ : Sg) (M C N : Nat) (x0 : Int32) (post : Int32 → MS → Prop), Inv S l1 l2 l3 l4 loc ow σ M C N → (∀ (k : Int32) (S1 : MS) (σ1 : Sg) (ans : Int32), v_X6_writtenKeys σ x0 (fun r2 σ2 => eqv σ2 σ1 ∧ σ2.1 0 = k ∧ (k = 0 → r2 = ans)) → TI S1 l1 l2 l3 l4 σ σ1 → (k = 0 → sL S1 l3 0 = ans.toInt64) → post k S1) → w_L_writtenKeys S l1 x0 l3 post
set_option maxHeartbeats 1000000 in
theorem cs_writtenKeys (hs : Sp_writtenKeys) {xs : Nat → Int32} {L i : Nat} (hi : i + 5 ≤ L) (hL : L ≤ 2560) {KH : MS → Nat → Nat → Nat → Nat → Int32 → Prop} {S : MS} {l1 l2 l3 l4 : Nat} {loc ow : Nat → Nat} {σ : Sg} {M C N : Nat} (h : Inv S l1 l2 l3 l4 loc ow σ M C N) (hK : Nxt KH l1 l2 l3 l4 i) : b_L_law_1379 xs L KH S l1 l2 l3 l4 (nI i) := by
  unfold b_L_law_1379
  refine ⟨vp5 hi hL (j := 1) (by decide) (nI_add i 1), hs S l1 l2 l3 l4 loc ow σ M C N _ _ h (fun k S1 σ1 ans hv hA hans => ?_)⟩
  obtain ⟨loc1, ow1, M1, C1, N1, hM⟩ := hA
  have hR := hM.2.2.2.2.2.2.2.2.2.2.2.2.1
  refine ⟨vp5 hi hL (j := 1) (by decide) (nI_add i 1), hR.2.2.2.1, vr_X6_writtenKeys hR hv (fun r2 σ2 S2 hP hR2 hF => ?_)⟩
  have hE := mid_end hM hF hR2 hP.1
  refine tail_th hE ?_
  refine ⟨fun hk => ⟨fun _ => fun v hv => by rw [hv, nI5]; exact hK _ _ _ _ _ _ _ hE, fun h0 => ?_⟩, fun hne => hne hP.2.1⟩
  have e4 : sL S2 l3 (ix 0) = ans.toInt64 := by rw [ix0, hF.2.2.1]; exact hans h0
  refine ⟨hE.2.2.2.2.1, by rw [hE.2.2.2.2.2.1]; exact vp1, ?_⟩
  rw [e4, hP.2.2 h0, lg_refl]
  exact ⟨fun _ => fun v hv => by rw [hv, nI5]; exact hK _ _ _ _ _ _ _ hE, fun hne => hne rfl⟩
def Sp_isStale : Prop := ∀ (S : MS) (l1 l2 l3 l4 : Nat) (loc ow : Nat → Nat) (σ : Sg) (M C N : Nat) (x0 : Int32) (post : Int32 → MS → Prop), Inv S l1 l2 l3 l4 loc ow σ M C N → (∀ (k : Int32) (S1 : MS) (σ1 : Sg) (ans : Int32), v_X6_isStale σ x0 (fun r2 σ2 => eqv σ2 σ1 ∧ σ2.1 0 = k ∧ (k = 0 → r2 = ans)) → TI S1 l1 l2 l3 l4 σ σ1 → (k = 0 → sL S1 l3 0 = if ans = 0 then 0 else 1) → post k S1) → w_L_isStale S l1 x0 l3 post
set_option maxHeartbeats 1000000 in
theorem cs_isStale (hs : Sp_isStale) {xs : Nat → Int32} {L i : Nat} (hi : i + 5 ≤ L) (hL : L ≤ 2560) {KH : MS → Nat → Nat → Nat → Nat → Int32 → Prop} {S : MS} {l1 l2 l3 l4 : Nat} {loc ow : Nat → Nat} {σ : Sg} {M C N : Nat} (h : Inv S l1 l2 l3 l4 loc ow σ M C N) (hK : Nxt KH l1 l2 l3 l4 i) : b_L_law_1435 xs L KH S l1 l2 l3 l4 (nI i) := by
  unfold b_L_law_1435
  refine ⟨vp5 hi hL (j := 1) (by decide) (nI_add i 1), hs S l1 l2 l3 l4 loc ow σ M C N _ _ h (fun k S1 σ1 ans hv hA hans => ?_)⟩
  obtain ⟨loc1, ow1, M1, C1, N1, hM⟩ := hA
  have hR := hM.2.2.2.2.2.2.2.2.2.2.2.2.1
  refine ⟨vp5 hi hL (j := 1) (by decide) (nI_add i 1), hR.2.2.2.1, vr_X6_isStale hR hv (fun r2 σ2 S2 hP hR2 hF => ?_)⟩
  have hE := mid_end hM hF hR2 hP.1
  refine tail_th hE ?_
  refine ⟨fun hk => ⟨fun _ => fun v hv => by rw [hv, nI5]; exact hK _ _ _ _ _ _ _ hE, fun h0 => ?_⟩, fun hne => hne hP.2.1⟩
  have e4 : sL S2 l3 (ix 0) = (if ans = 0 then 0 else 1) := by rw [ix0, hF.2.2.1]; exact hans h0
  refine ⟨hE.2.2.2.2.1, by rw [hE.2.2.2.2.2.1]; exact vp1, ?_⟩
  rw [e4, hP.2.2 h0]
  refine ⟨fun hz => ?_, fun hz => ?_⟩
  · rw [if_pos hz, lg_refl]
    exact ⟨fun _ => fun v hv => by rw [hv, nI5]; exact hK _ _ _ _ _ _ _ hE, fun hne => hne rfl⟩
  · rw [if_neg hz, lg_refl]
    exact ⟨fun _ => fun v hv => by rw [hv, nI5]; exact hK _ _ _ _ _ _ _ hE, fun hne => hne rfl⟩
def Sp_rivals : Prop := ∀ (S : MS) (l1 l2 l3 l4 : Nat) (loc ow : Nat → Nat) (σ : Sg) (M C N : Nat) (x0 : Int32) (post : Int32 → MS → Prop), Inv S l1 l2 l3 l4 loc ow σ M C N → (∀ (k : Int32) (S1 : MS) (σ1 : Sg) (ans : Int32), v_X6_rivals σ x0 (fun r2 σ2 => eqv σ2 σ1 ∧ σ2.1 0 = k ∧ (k = 0 → r2 = ans)) → TI S1 l1 l2 l3 l4 σ σ1 → (k = 0 → sL S1 l3 0 = ans.toInt64) → post k S1) → w_L_rivals S l1 x0 l3 post
set_option maxHeartbeats 1000000 in
theorem cs_rivals (hs : Sp_rivals) {xs : Nat → Int32} {L i : Nat} (hi : i + 5 ≤ L) (hL : L ≤ 2560) {KH : MS → Nat → Nat → Nat → Nat → Int32 → Prop} {S : MS} {l1 l2 l3 l4 : Nat} {loc ow : Nat → Nat} {σ : Sg} {M C N : Nat} (h : Inv S l1 l2 l3 l4 loc ow σ M C N) (hK : Nxt KH l1 l2 l3 l4 i) : b_L_law_1498 xs L KH S l1 l2 l3 l4 (nI i) := by
  unfold b_L_law_1498
  refine ⟨vp5 hi hL (j := 1) (by decide) (nI_add i 1), hs S l1 l2 l3 l4 loc ow σ M C N _ _ h (fun k S1 σ1 ans hv hA hans => ?_)⟩
  obtain ⟨loc1, ow1, M1, C1, N1, hM⟩ := hA
  have hR := hM.2.2.2.2.2.2.2.2.2.2.2.2.1
  refine ⟨vp5 hi hL (j := 1) (by decide) (nI_add i 1), hR.2.2.2.1, vr_X6_rivals hR hv (fun r2 σ2 S2 hP hR2 hF => ?_)⟩
  have hE := mid_end hM hF hR2 hP.1
  refine tail_th hE ?_
  refine ⟨fun hk => ⟨fun _ => fun v hv => by rw [hv, nI5]; exact hK _ _ _ _ _ _ _ hE, fun h0 => ?_⟩, fun hne => hne hP.2.1⟩
  have e4 : sL S2 l3 (ix 0) = ans.toInt64 := by rw [ix0, hF.2.2.1]; exact hans h0
  refine ⟨hE.2.2.2.2.1, by rw [hE.2.2.2.2.2.1]; exact vp1, ?_⟩
  rw [e4, hP.2.2 h0, lg_refl]
  exact ⟨fun _ => fun v hv => by rw [hv, nI5]; exact hK _ _ _ _ _ _ _ hE, fun hne => hne rfl⟩
def Sp_value : Prop := ∀ (S : MS) (l1 l2 l3 l4 : Nat) (loc ow : Nat → Nat) (σ : Sg) (M C N : Nat) (x0 : Int32) (post : Int32 → MS → Prop), Inv S l1 l2 l3 l4 loc ow σ M C N → (∀ (k : Int32) (S1 : MS) (σ1 : Sg) (ans : Int32), v_X6_value σ x0 (fun r2 σ2 => eqv σ2 σ1 ∧ σ2.1 0 = k ∧ (k = 0 → r2 = ans)) → TI S1 l1 l2 l3 l4 σ σ1 → (k = 0 → sL S1 l3 0 = ans.toInt64) → post k S1) → w_L_value S l1 x0 l3 post
set_option maxHeartbeats 1000000 in
theorem cs_value (hs : Sp_value) {xs : Nat → Int32} {L i : Nat} (hi : i + 5 ≤ L) (hL : L ≤ 2560) {KH : MS → Nat → Nat → Nat → Nat → Int32 → Prop} {S : MS} {l1 l2 l3 l4 : Nat} {loc ow : Nat → Nat} {σ : Sg} {M C N : Nat} (h : Inv S l1 l2 l3 l4 loc ow σ M C N) (hK : Nxt KH l1 l2 l3 l4 i) : b_L_law_1554 xs L KH S l1 l2 l3 l4 (nI i) := by
  unfold b_L_law_1554
  refine ⟨vp5 hi hL (j := 1) (by decide) (nI_add i 1), hs S l1 l2 l3 l4 loc ow σ M C N _ _ h (fun k S1 σ1 ans hv hA hans => ?_)⟩
  obtain ⟨loc1, ow1, M1, C1, N1, hM⟩ := hA
  have hR := hM.2.2.2.2.2.2.2.2.2.2.2.2.1
  refine ⟨vp5 hi hL (j := 1) (by decide) (nI_add i 1), hR.2.2.2.1, vr_X6_value hR hv (fun r2 σ2 S2 hP hR2 hF => ?_)⟩
  have hE := mid_end hM hF hR2 hP.1
  refine tail_th hE ?_
  refine ⟨fun hk => ⟨fun _ => fun v hv => by rw [hv, nI5]; exact hK _ _ _ _ _ _ _ hE, fun h0 => ?_⟩, fun hne => hne hP.2.1⟩
  have e4 : sL S2 l3 (ix 0) = ans.toInt64 := by rw [ix0, hF.2.2.1]; exact hans h0
  refine ⟨hE.2.2.2.2.1, by rw [hE.2.2.2.2.2.1]; exact vp1, ?_⟩
  rw [e4, hP.2.2 h0, lg_refl]
  exact ⟨fun _ => fun v hv => by rw [hv, nI5]; exact hK _ _ _ _ _ _ _ hE, fun hne => hne rfl⟩
def Sp_valueAt : Prop := ∀ (S : MS) (l1 l2 l3 l4 : Nat) (loc ow : Nat → Nat) (σ : Sg) (M C N : Nat) (x0 : Int32) (x1 : Int32) (post : Int32 → MS → Prop), Inv S l1 l2 l3 l4 loc ow σ M C N → (∀ (k : Int32) (S1 : MS) (σ1 : Sg) (ans : Int32), v_X6_valueAt σ x0 x1 (fun r2 σ2 => eqv σ2 σ1 ∧ σ2.1 0 = k ∧ (k = 0 → r2 = ans)) → TI S1 l1 l2 l3 l4 σ σ1 → (k = 0 → sL S1 l3 0 = ans.toInt64) → post k S1) → w_L_valueAt S l1 x0 x1 l3 post
set_option maxHeartbeats 1000000 in
theorem cs_valueAt (hs : Sp_valueAt) {xs : Nat → Int32} {L i : Nat} (hi : i + 5 ≤ L) (hL : L ≤ 2560) {KH : MS → Nat → Nat → Nat → Nat → Int32 → Prop} {S : MS} {l1 l2 l3 l4 : Nat} {loc ow : Nat → Nat} {σ : Sg} {M C N : Nat} (h : Inv S l1 l2 l3 l4 loc ow σ M C N) (hK : Nxt KH l1 l2 l3 l4 i) : b_L_law_1610 xs L KH S l1 l2 l3 l4 (nI i) := by
  unfold b_L_law_1610
  refine ⟨vp5 hi hL (j := 1) (by decide) (nI_add i 1), vp5 hi hL (j := 2) (by decide) (nI_add i 2), hs S l1 l2 l3 l4 loc ow σ M C N _ _ _ h (fun k S1 σ1 ans hv hA hans => ?_)⟩
  obtain ⟨loc1, ow1, M1, C1, N1, hM⟩ := hA
  have hR := hM.2.2.2.2.2.2.2.2.2.2.2.2.1
  refine ⟨vp5 hi hL (j := 1) (by decide) (nI_add i 1), vp5 hi hL (j := 2) (by decide) (nI_add i 2), hR.2.2.2.1, vr_X6_valueAt hR hv (fun r2 σ2 S2 hP hR2 hF => ?_)⟩
  have hE := mid_end hM hF hR2 hP.1
  refine tail_th hE ?_
  refine ⟨fun hk => ⟨fun _ => fun v hv => by rw [hv, nI5]; exact hK _ _ _ _ _ _ _ hE, fun h0 => ?_⟩, fun hne => hne hP.2.1⟩
  have e4 : sL S2 l3 (ix 0) = ans.toInt64 := by rw [ix0, hF.2.2.1]; exact hans h0
  refine ⟨hE.2.2.2.2.1, by rw [hE.2.2.2.2.2.1]; exact vp1, ?_⟩
  rw [e4, hP.2.2 h0, lg_refl]
  exact ⟨fun _ => fun v hv => by rw [hv, nI5]; exact hK _ _ _ _ _ _ _ hE, fun hne => hne rfl⟩
def Sp_writerOf : Prop := ∀ (S : MS) (l1 l2 l3 l4 : Nat) (loc ow : Nat → Nat) (σ : Sg) (M C N : Nat) (x0 : Int32) (post : Int32 → MS → Prop), Inv S l1 l2 l3 l4 loc ow σ M C N → (∀ (k : Int32) (S1 : MS) (σ1 : Sg) (ans : Int32), v_X6_writerOf σ x0 (fun r2 σ2 => eqv σ2 σ1 ∧ σ2.1 0 = k ∧ (k = 0 → r2 = ans)) → TI S1 l1 l2 l3 l4 σ σ1 → (k = 0 → sL S1 l3 0 = ans.toInt64) → post k S1) → w_L_writerOf S l1 x0 l3 post
set_option maxHeartbeats 1000000 in
theorem cs_writerOf (hs : Sp_writerOf) {xs : Nat → Int32} {L i : Nat} (hi : i + 5 ≤ L) (hL : L ≤ 2560) {KH : MS → Nat → Nat → Nat → Nat → Int32 → Prop} {S : MS} {l1 l2 l3 l4 : Nat} {loc ow : Nat → Nat} {σ : Sg} {M C N : Nat} (h : Inv S l1 l2 l3 l4 loc ow σ M C N) (hK : Nxt KH l1 l2 l3 l4 i) : b_L_law_1678 xs L KH S l1 l2 l3 l4 (nI i) := by
  unfold b_L_law_1678
  refine ⟨vp5 hi hL (j := 1) (by decide) (nI_add i 1), hs S l1 l2 l3 l4 loc ow σ M C N _ _ h (fun k S1 σ1 ans hv hA hans => ?_)⟩
  obtain ⟨loc1, ow1, M1, C1, N1, hM⟩ := hA
  have hR := hM.2.2.2.2.2.2.2.2.2.2.2.2.1
  refine ⟨vp5 hi hL (j := 1) (by decide) (nI_add i 1), hR.2.2.2.1, vr_X6_writerOf hR hv (fun r2 σ2 S2 hP hR2 hF => ?_)⟩
  have hE := mid_end hM hF hR2 hP.1
  refine tail_th hE ?_
  refine ⟨fun hk => ⟨fun _ => fun v hv => by rw [hv, nI5]; exact hK _ _ _ _ _ _ _ hE, fun h0 => ?_⟩, fun hne => hne hP.2.1⟩
  have e4 : sL S2 l3 (ix 0) = ans.toInt64 := by rw [ix0, hF.2.2.1]; exact hans h0
  refine ⟨hE.2.2.2.2.1, by rw [hE.2.2.2.2.2.1]; exact vp1, ?_⟩
  rw [e4, hP.2.2 h0, lg_refl]
  exact ⟨fun _ => fun v hv => by rw [hv, nI5]; exact hK _ _ _ _ _ _ _ hE, fun hne => hne rfl⟩
def Sp_transactionOf : Prop := ∀ (S : MS) (l1 l2 l3 l4 : Nat) (loc ow : Nat → Nat) (σ : Sg) (M C N : Nat) (x0 : Int32) (post : Int32 → MS → Prop), Inv S l1 l2 l3 l4 loc ow σ M C N → (∀ (k : Int32) (S1 : MS) (σ1 : Sg) (ans : Int32), v_X6_transactionOf σ x0 (fun r2 σ2 => eqv σ2 σ1 ∧ σ2.1 0 = k ∧ (k = 0 → r2 = ans)) → TI S1 l1 l2 l3 l4 σ σ1 → (k = 0 → sL S1 l3 0 = ans.toInt64) → post k S1) → w_L_transactionOf S l1 x0 l3 post
set_option maxHeartbeats 1000000 in
theorem cs_transactionOf (hs : Sp_transactionOf) {xs : Nat → Int32} {L i : Nat} (hi : i + 5 ≤ L) (hL : L ≤ 2560) {KH : MS → Nat → Nat → Nat → Nat → Int32 → Prop} {S : MS} {l1 l2 l3 l4 : Nat} {loc ow : Nat → Nat} {σ : Sg} {M C N : Nat} (h : Inv S l1 l2 l3 l4 loc ow σ M C N) (hK : Nxt KH l1 l2 l3 l4 i) : b_L_law_1734 xs L KH S l1 l2 l3 l4 (nI i) := by
  unfold b_L_law_1734
  refine ⟨vp5 hi hL (j := 1) (by decide) (nI_add i 1), hs S l1 l2 l3 l4 loc ow σ M C N _ _ h (fun k S1 σ1 ans hv hA hans => ?_)⟩
  obtain ⟨loc1, ow1, M1, C1, N1, hM⟩ := hA
  have hR := hM.2.2.2.2.2.2.2.2.2.2.2.2.1
  refine ⟨vp5 hi hL (j := 1) (by decide) (nI_add i 1), hR.2.2.2.1, vr_X6_transactionOf hR hv (fun r2 σ2 S2 hP hR2 hF => ?_)⟩
  have hE := mid_end hM hF hR2 hP.1
  refine tail_th hE ?_
  refine ⟨fun hk => ⟨fun _ => fun v hv => by rw [hv, nI5]; exact hK _ _ _ _ _ _ _ hE, fun h0 => ?_⟩, fun hne => hne hP.2.1⟩
  have e4 : sL S2 l3 (ix 0) = ans.toInt64 := by rw [ix0, hF.2.2.1]; exact hans h0
  refine ⟨hE.2.2.2.2.1, by rw [hE.2.2.2.2.2.1]; exact vp1, ?_⟩
  rw [e4, hP.2.2 h0, lg_refl]
  exact ⟨fun _ => fun v hv => by rw [hv, nI5]; exact hK _ _ _ _ _ _ _ hE, fun hne => hne rfl⟩
def Sp_dependency : Prop := ∀ (S : MS) (l1 l2 l3 l4 : Nat) (loc ow : Nat → Nat) (σ : Sg) (M C N : Nat) (x0 : Int32) (x1 : Int32) (post : Int32 → MS → Prop), Inv S l1 l2 l3 l4 loc ow σ M C N → (∀ (k : Int32) (S1 : MS) (σ1 : Sg) (ans : Int32), v_X6_dependency σ x0 x1 (fun r2 σ2 => eqv σ2 σ1 ∧ σ2.1 0 = k ∧ (k = 0 → r2 = ans)) → TI S1 l1 l2 l3 l4 σ σ1 → (k = 0 → sL S1 l3 0 = ans.toInt64) → post k S1) → w_L_dependency S l1 x0 x1 l3 post
set_option maxHeartbeats 1000000 in
theorem cs_dependency (hs : Sp_dependency) {xs : Nat → Int32} {L i : Nat} (hi : i + 5 ≤ L) (hL : L ≤ 2560) {KH : MS → Nat → Nat → Nat → Nat → Int32 → Prop} {S : MS} {l1 l2 l3 l4 : Nat} {loc ow : Nat → Nat} {σ : Sg} {M C N : Nat} (h : Inv S l1 l2 l3 l4 loc ow σ M C N) (hK : Nxt KH l1 l2 l3 l4 i) : b_L_law_1790 xs L KH S l1 l2 l3 l4 (nI i) := by
  unfold b_L_law_1790
  refine ⟨vp5 hi hL (j := 1) (by decide) (nI_add i 1), vp5 hi hL (j := 2) (by decide) (nI_add i 2), hs S l1 l2 l3 l4 loc ow σ M C N _ _ _ h (fun k S1 σ1 ans hv hA hans => ?_)⟩
  obtain ⟨loc1, ow1, M1, C1, N1, hM⟩ := hA
  have hR := hM.2.2.2.2.2.2.2.2.2.2.2.2.1
  refine ⟨vp5 hi hL (j := 1) (by decide) (nI_add i 1), vp5 hi hL (j := 2) (by decide) (nI_add i 2), hR.2.2.2.1, vr_X6_dependency hR hv (fun r2 σ2 S2 hP hR2 hF => ?_)⟩
  have hE := mid_end hM hF hR2 hP.1
  refine tail_th hE ?_
  refine ⟨fun hk => ⟨fun _ => fun v hv => by rw [hv, nI5]; exact hK _ _ _ _ _ _ _ hE, fun h0 => ?_⟩, fun hne => hne hP.2.1⟩
  have e4 : sL S2 l3 (ix 0) = ans.toInt64 := by rw [ix0, hF.2.2.1]; exact hans h0
  refine ⟨hE.2.2.2.2.1, by rw [hE.2.2.2.2.2.1]; exact vp1, ?_⟩
  rw [e4, hP.2.2 h0, lg_refl]
  exact ⟨fun _ => fun v hv => by rw [hv, nI5]; exact hK _ _ _ _ _ _ _ hE, fun hne => hne rfl⟩
def Sp_longestChain : Prop := ∀ (S : MS) (l1 l2 l3 l4 : Nat) (loc ow : Nat → Nat) (σ : Sg) (M C N : Nat) (post : Int32 → MS → Prop), Inv S l1 l2 l3 l4 loc ow σ M C N → (∀ (r : Int32) (S1 : MS) (σ1 : Sg), v_X6_longestChain σ (fun r2 σ2 => eqv σ2 σ1 ∧ r = r2) → TI S1 l1 l2 l3 l4 σ σ1 → post r S1) → w_X5_longestChain S l1 post
set_option maxHeartbeats 1000000 in
theorem cs_longestChain (hs : Sp_longestChain) {xs : Nat → Int32} {L i : Nat} (hi : i + 5 ≤ L) (hL : L ≤ 2560) {KH : MS → Nat → Nat → Nat → Nat → Int32 → Prop} {S : MS} {l1 l2 l3 l4 : Nat} {loc ow : Nat → Nat} {σ : Sg} {M C N : Nat} (h : Inv S l1 l2 l3 l4 loc ow σ M C N) (hK : Nxt KH l1 l2 l3 l4 i) : b_L_law_1858 xs L KH S l1 l2 l3 l4 (nI i) := by
  unfold b_L_law_1858
  refine ⟨by rw [← h.1]; exact h.2.2.2.2.2.2.2.2.2.2.2.1.1.1, hs S l1 l2 l3 l4 loc ow σ M C N _ h (fun r S1 σ1 hv hA => ?_)⟩
  obtain ⟨loc1, ow1, M1, C1, N1, hM⟩ := hA
  have hR := hM.2.2.2.2.2.2.2.2.2.2.2.2.1
  refine ⟨hR.2.2.2.1, vr_X6_longestChain hR hv (fun r2 σ2 S2 hP hR2 hF => ?_)⟩
  have hE := mid_end hM hF hR2 hP.1
  exact ⟨fun _ => fun v hv => by rw [hv, nI5]; exact hK _ _ _ _ _ _ _ hE, fun hne => hne hP.2⟩
def Sp_serialFaults : Prop := ∀ (S : MS) (l1 l2 l3 l4 : Nat) (loc ow : Nat → Nat) (σ : Sg) (M C N : Nat) (post : Int32 → MS → Prop), Inv S l1 l2 l3 l4 loc ow σ M C N → (∀ (r : Int32) (S1 : MS) (σ1 : Sg), v_X6_serialFaults σ (fun r2 σ2 => eqv σ2 σ1 ∧ r = r2) → TI S1 l1 l2 l3 l4 σ σ1 → post r S1) → w_X5_serialFaults S l1 post
set_option maxHeartbeats 1000000 in
theorem cs_serialFaults (hs : Sp_serialFaults) {xs : Nat → Int32} {L i : Nat} (hi : i + 5 ≤ L) (hL : L ≤ 2560) {KH : MS → Nat → Nat → Nat → Nat → Int32 → Prop} {S : MS} {l1 l2 l3 l4 : Nat} {loc ow : Nat → Nat} {σ : Sg} {M C N : Nat} (h : Inv S l1 l2 l3 l4 loc ow σ M C N) (hK : Nxt KH l1 l2 l3 l4 i) : b_L_law_1871 xs L KH S l1 l2 l3 l4 (nI i) := by
  unfold b_L_law_1871
  refine ⟨by rw [← h.1]; exact h.2.2.2.2.2.2.2.2.2.2.2.1.1.1, hs S l1 l2 l3 l4 loc ow σ M C N _ h (fun r S1 σ1 hv hA => ?_)⟩
  obtain ⟨loc1, ow1, M1, C1, N1, hM⟩ := hA
  have hR := hM.2.2.2.2.2.2.2.2.2.2.2.2.1
  refine ⟨hR.2.2.2.1, vr_X6_serialFaults hR hv (fun r2 σ2 S2 hP hR2 hF => ?_)⟩
  have hE := mid_end hM hF hR2 hP.1
  exact ⟨fun _ => fun v hv => by rw [hv, nI5]; exact hK _ _ _ _ _ _ _ hE, fun hne => hne hP.2⟩
def Sp_rewind : Prop := ∀ (S : MS) (l1 l2 l3 l4 : Nat) (loc ow : Nat → Nat) (σ : Sg) (M C N : Nat) (x0 : Int32) (post : Int32 → MS → Prop), Inv S l1 l2 l3 l4 loc ow σ M C N → (∀ (k : Int32) (S1 : MS) (σ1 : Sg) (ans : Int32), v_X6_rewind σ x0 (fun r2 σ2 => eqv σ2 σ1 ∧ σ2.1 0 = k ∧ (k = 0 → r2 = ans)) → TI S1 l1 l2 l3 l4 σ σ1 → (k = 0 → sL S1 l3 0 = ans.toInt64) → post k S1) → w_L_rewind S l1 x0 l3 post
set_option maxHeartbeats 1000000 in
theorem cs_rewind (hs : Sp_rewind) {xs : Nat → Int32} {L i : Nat} (hi : i + 5 ≤ L) (hL : L ≤ 2560) {KH : MS → Nat → Nat → Nat → Nat → Int32 → Prop} {S : MS} {l1 l2 l3 l4 : Nat} {loc ow : Nat → Nat} {σ : Sg} {M C N : Nat} (h : Inv S l1 l2 l3 l4 loc ow σ M C N) (hK : Nxt KH l1 l2 l3 l4 i) : b_L_law_1884 xs L KH S l1 l2 l3 l4 (nI i) := by
  unfold b_L_law_1884
  refine ⟨vp5 hi hL (j := 1) (by decide) (nI_add i 1), hs S l1 l2 l3 l4 loc ow σ M C N _ _ h (fun k S1 σ1 ans hv hA hans => ?_)⟩
  obtain ⟨loc1, ow1, M1, C1, N1, hM⟩ := hA
  have hR := hM.2.2.2.2.2.2.2.2.2.2.2.2.1
  refine ⟨vp5 hi hL (j := 1) (by decide) (nI_add i 1), hR.2.2.2.1, vr_X6_rewind hR hv (fun r2 σ2 S2 hP hR2 hF => ?_)⟩
  have hE := mid_end hM hF hR2 hP.1
  refine tail_th hE ?_
  refine ⟨fun hk => ⟨fun _ => fun v hv => by rw [hv, nI5]; exact hK _ _ _ _ _ _ _ hE, fun h0 => ?_⟩, fun hne => hne hP.2.1⟩
  have e4 : sL S2 l3 (ix 0) = ans.toInt64 := by rw [ix0, hF.2.2.1]; exact hans h0
  refine ⟨hE.2.2.2.2.1, by rw [hE.2.2.2.2.2.1]; exact vp1, ?_⟩
  rw [e4, hP.2.2 h0, lg_refl]
  exact ⟨fun _ => fun v hv => by rw [hv, nI5]; exact hK _ _ _ _ _ _ _ hE, fun hne => hne rfl⟩
def Sp_addConstraint : Prop := ∀ (S : MS) (l1 l2 l3 l4 : Nat) (loc ow : Nat → Nat) (σ : Sg) (M C N : Nat) (x0 : Int32) (x1 : Int32) (x2 : Int32) (x3 : Int32) (post : Int32 → MS → Prop), Inv S l1 l2 l3 l4 loc ow σ M C N → (∀ (k : Int32) (S1 : MS) (σ1 : Sg) (ans : Int32), v_X6_addConstraint σ x0 x1 x2 x3 (fun r2 σ2 => eqv σ2 σ1 ∧ σ2.1 0 = k ∧ (k = 0 → r2 = ans)) → TI S1 l1 l2 l3 l4 σ σ1 → (k = 0 → sL S1 l3 0 = ans.toInt64) → post k S1) → w_L_addConstraint S l1 x0 x1 x2 x3 l3 post
set_option maxHeartbeats 1000000 in
theorem cs_addConstraint (hs : Sp_addConstraint) {xs : Nat → Int32} {L i : Nat} (hi : i + 5 ≤ L) (hL : L ≤ 2560) {KH : MS → Nat → Nat → Nat → Nat → Int32 → Prop} {S : MS} {l1 l2 l3 l4 : Nat} {loc ow : Nat → Nat} {σ : Sg} {M C N : Nat} (h : Inv S l1 l2 l3 l4 loc ow σ M C N) (hK : Nxt KH l1 l2 l3 l4 i) : b_L_law_1940 xs L KH S l1 l2 l3 l4 (nI i) := by
  unfold b_L_law_1940
  refine ⟨vp5 hi hL (j := 1) (by decide) (nI_add i 1), vp5 hi hL (j := 2) (by decide) (nI_add i 2), vp5 hi hL (j := 3) (by decide) (nI_add i 3), vp5 hi hL (j := 4) (by decide) (nI_add i 4), hs S l1 l2 l3 l4 loc ow σ M C N _ _ _ _ _ h (fun k S1 σ1 ans hv hA hans => ?_)⟩
  obtain ⟨loc1, ow1, M1, C1, N1, hM⟩ := hA
  have hR := hM.2.2.2.2.2.2.2.2.2.2.2.2.1
  refine ⟨vp5 hi hL (j := 1) (by decide) (nI_add i 1), vp5 hi hL (j := 2) (by decide) (nI_add i 2), vp5 hi hL (j := 3) (by decide) (nI_add i 3), vp5 hi hL (j := 4) (by decide) (nI_add i 4), hR.2.2.2.1, vr_X6_addConstraint hR hv (fun r2 σ2 S2 hP hR2 hF => ?_)⟩
  have hE := mid_end hM hF hR2 hP.1
  refine tail_th hE ?_
  refine ⟨fun hk => ⟨fun _ => fun v hv => by rw [hv, nI5]; exact hK _ _ _ _ _ _ _ hE, fun h0 => ?_⟩, fun hne => hne hP.2.1⟩
  have e4 : sL S2 l3 (ix 0) = ans.toInt64 := by rw [ix0, hF.2.2.1]; exact hans h0
  refine ⟨hE.2.2.2.2.1, by rw [hE.2.2.2.2.2.1]; exact vp1, ?_⟩
  rw [e4, hP.2.2 h0, lg_refl]
  exact ⟨fun _ => fun v hv => by rw [hv, nI5]; exact hK _ _ _ _ _ _ _ hE, fun hne => hne rfl⟩
def Sp_clearConstraints : Prop := ∀ (S : MS) (l1 l2 l3 l4 : Nat) (loc ow : Nat → Nat) (σ : Sg) (M C N : Nat) (post : Int32 → MS → Prop), Inv S l1 l2 l3 l4 loc ow σ M C N → (∀ (r : Int32) (S1 : MS) (σ1 : Sg), v_X6_clearConstraints σ (fun r2 σ2 => eqv σ2 σ1 ∧ r = r2) → TI S1 l1 l2 l3 l4 σ σ1 → post r S1) → w_X5_clearConstraints S l1 post
set_option maxHeartbeats 1000000 in
theorem cs_clearConstraints (hs : Sp_clearConstraints) {xs : Nat → Int32} {L i : Nat} (hi : i + 5 ≤ L) (hL : L ≤ 2560) {KH : MS → Nat → Nat → Nat → Nat → Int32 → Prop} {S : MS} {l1 l2 l3 l4 : Nat} {loc ow : Nat → Nat} {σ : Sg} {M C N : Nat} (h : Inv S l1 l2 l3 l4 loc ow σ M C N) (hK : Nxt KH l1 l2 l3 l4 i) : b_L_law_2032 xs L KH S l1 l2 l3 l4 (nI i) := by
  unfold b_L_law_2032
  refine ⟨by rw [← h.1]; exact h.2.2.2.2.2.2.2.2.2.2.2.1.1.1, hs S l1 l2 l3 l4 loc ow σ M C N _ h (fun r S1 σ1 hv hA => ?_)⟩
  obtain ⟨loc1, ow1, M1, C1, N1, hM⟩ := hA
  have hR := hM.2.2.2.2.2.2.2.2.2.2.2.2.1
  refine ⟨hR.2.2.2.1, vr_X6_clearConstraints hR hv (fun r2 σ2 S2 hP hR2 hF => ?_)⟩
  have hE := mid_end hM hF hR2 hP.1
  exact ⟨fun _ => fun v hv => by rw [hv, nI5]; exact hK _ _ _ _ _ _ _ hE, fun hne => hne hP.2⟩
def Sp_aborts : Prop := ∀ (S : MS) (l1 l2 l3 l4 : Nat) (loc ow : Nat → Nat) (σ : Sg) (M C N : Nat) (x0 : Int32) (post : Int32 → MS → Prop), Inv S l1 l2 l3 l4 loc ow σ M C N → (∀ (k : Int32) (S1 : MS) (σ1 : Sg) (ans : Int32), v_X6_aborts σ x0 (fun r2 σ2 => eqv σ2 σ1 ∧ σ2.1 0 = k ∧ (k = 0 → r2 = ans)) → TI S1 l1 l2 l3 l4 σ σ1 → (k = 0 → sL S1 l3 0 = ans.toInt64) → post k S1) → w_L_aborts S l1 x0 l3 post
set_option maxHeartbeats 1000000 in
theorem cs_aborts (hs : Sp_aborts) {xs : Nat → Int32} {L i : Nat} (hi : i + 5 ≤ L) (hL : L ≤ 2560) {KH : MS → Nat → Nat → Nat → Nat → Int32 → Prop} {S : MS} {l1 l2 l3 l4 : Nat} {loc ow : Nat → Nat} {σ : Sg} {M C N : Nat} (h : Inv S l1 l2 l3 l4 loc ow σ M C N) (hK : Nxt KH l1 l2 l3 l4 i) : b_L_law_2045 xs L KH S l1 l2 l3 l4 (nI i) := by
  unfold b_L_law_2045
  refine ⟨vp5 hi hL (j := 1) (by decide) (nI_add i 1), hs S l1 l2 l3 l4 loc ow σ M C N _ _ h (fun k S1 σ1 ans hv hA hans => ?_)⟩
  obtain ⟨loc1, ow1, M1, C1, N1, hM⟩ := hA
  have hR := hM.2.2.2.2.2.2.2.2.2.2.2.2.1
  refine ⟨vp5 hi hL (j := 1) (by decide) (nI_add i 1), hR.2.2.2.1, vr_X6_aborts hR hv (fun r2 σ2 S2 hP hR2 hF => ?_)⟩
  have hE := mid_end hM hF hR2 hP.1
  refine tail_th hE ?_
  refine ⟨fun hk => ⟨fun _ => fun v hv => by rw [hv, nI5]; exact hK _ _ _ _ _ _ _ hE, fun h0 => ?_⟩, fun hne => hne hP.2.1⟩
  have e4 : sL S2 l3 (ix 0) = ans.toInt64 := by rw [ix0, hF.2.2.1]; exact hans h0
  refine ⟨hE.2.2.2.2.1, by rw [hE.2.2.2.2.2.1]; exact vp1, ?_⟩
  rw [e4, hP.2.2 h0, lg_refl]
  exact ⟨fun _ => fun v hv => by rw [hv, nI5]; exact hK _ _ _ _ _ _ _ hE, fun hne => hne rfl⟩
def Sp_averageAttempts : Prop := ∀ (S : MS) (l1 l2 l3 l4 : Nat) (loc ow : Nat → Nat) (σ : Sg) (M C N : Nat) (post : Int32 → MS → Prop), Inv S l1 l2 l3 l4 loc ow σ M C N → (∀ (k : Int32) (S1 : MS) (σ1 : Sg) (ans : UInt64), v_X6_averageAttempts σ (fun r2 σ2 => eqv σ2 σ1 ∧ σ2.1 0 = k ∧ (k = 0 → r2 = ans)) → TI S1 l1 l2 l3 l4 σ σ1 → (k = 0 → sD S1 l4 0 = ans) → post k S1) → w_L_averageAttempts S l1 l4 post
set_option maxHeartbeats 1000000 in
theorem cs_averageAttempts (hs : Sp_averageAttempts) {xs : Nat → Int32} {L i : Nat} (hi : i + 5 ≤ L) (hL : L ≤ 2560) {KH : MS → Nat → Nat → Nat → Nat → Int32 → Prop} {S : MS} {l1 l2 l3 l4 : Nat} {loc ow : Nat → Nat} {σ : Sg} {M C N : Nat} (h : Inv S l1 l2 l3 l4 loc ow σ M C N) (hK : Nxt KH l1 l2 l3 l4 i) : b_L_law_2101 xs L KH S l1 l2 l3 l4 (nI i) := by
  unfold b_L_law_2101
  refine hs S l1 l2 l3 l4 loc ow σ M C N  _ h (fun k S1 σ1 ans hv hA hans => ?_)
  obtain ⟨loc1, ow1, M1, C1, N1, hM⟩ := hA
  have hR := hM.2.2.2.2.2.2.2.2.2.2.2.2.1
  refine ⟨hR.2.2.2.1, vr_X6_averageAttempts hR hv (fun r2 σ2 S2 hP hR2 hF => ?_)⟩
  have hE := mid_end hM hF hR2 hP.1
  refine tail_th hE ?_
  refine ⟨fun hk => ⟨fun _ => fun v hv => by rw [hv, nI5]; exact hK _ _ _ _ _ _ _ hE, fun h0 => ?_⟩, fun hne => hne hP.2.1⟩
  have e4 : sD S2 l4 (ix 0) = ans := by rw [ix0, hF.2.2.2.1]; exact hans h0
  refine ⟨hE.2.2.2.2.2.2.1, by rw [hE.2.2.2.2.2.2.2.1]; exact vp1, ?_⟩
  rw [e4, hP.2.2 h0]
  refine ⟨fun _ => fun v hv => by rw [hv, nI5]; exact hK _ _ _ _ _ _ _ hE, fun hne => ⟨by rw [hE.2.2.2.2.2.2.2.1]; exact vp1, by rw [hE.2.2.2.2.2.2.2.1]; exact vp1, fun h1 => hne h1, fun _ => ⟨fun _ => fun v hv => by rw [hv, nI5]; exact hK _ _ _ _ _ _ _ hE, fun h1 => hne h1⟩⟩⟩
def Sp_abortRate : Prop := ∀ (S : MS) (l1 l2 l3 l4 : Nat) (loc ow : Nat → Nat) (σ : Sg) (M C N : Nat) (post : Int32 → MS → Prop), Inv S l1 l2 l3 l4 loc ow σ M C N → (∀ (k : Int32) (S1 : MS) (σ1 : Sg) (ans : UInt32), v_X6_abortRate σ (fun r2 σ2 => eqv σ2 σ1 ∧ σ2.1 0 = k ∧ (k = 0 → r2 = ans) ∧ (k = 0 → vf_n64 (FP.f2d r2) ∧ (Op.cmpValue (FP.dcmp (FP.f2d r2) (FP.f2d r2)) .l) = 0)) → TI S1 l1 l2 l3 l4 σ σ1 → (k = 0 → sD S1 l4 0 = FP.f2d ans) → post k S1) → w_L_abortRate S l1 l4 post
set_option maxHeartbeats 1000000 in
theorem cs_abortRate (hs : Sp_abortRate) {xs : Nat → Int32} {L i : Nat} (hi : i + 5 ≤ L) (hL : L ≤ 2560) {KH : MS → Nat → Nat → Nat → Nat → Int32 → Prop} {S : MS} {l1 l2 l3 l4 : Nat} {loc ow : Nat → Nat} {σ : Sg} {M C N : Nat} (h : Inv S l1 l2 l3 l4 loc ow σ M C N) (hK : Nxt KH l1 l2 l3 l4 i) : b_L_law_2166 xs L KH S l1 l2 l3 l4 (nI i) := by
  unfold b_L_law_2166
  refine hs S l1 l2 l3 l4 loc ow σ M C N  _ h (fun k S1 σ1 ans hv hA hans => ?_)
  obtain ⟨loc1, ow1, M1, C1, N1, hM⟩ := hA
  have hR := hM.2.2.2.2.2.2.2.2.2.2.2.2.1
  refine ⟨hR.2.2.2.1, vr_X6_abortRate hR hv (fun r2 σ2 S2 hP hR2 hF => ?_)⟩
  have hE := mid_end hM hF hR2 hP.1
  refine tail_th hE ?_
  refine ⟨fun hk => ⟨fun _ => fun v hv => by rw [hv, nI5]; exact hK _ _ _ _ _ _ _ hE, fun h0 => ?_⟩, fun hne => hne hP.2.1⟩
  have e4 : sD S2 l4 (ix 0) = FP.f2d ans := by rw [ix0, hF.2.2.2.1]; exact hans h0
  refine ⟨hE.2.2.2.2.2.2.1, by rw [hE.2.2.2.2.2.2.2.1]; exact vp1, ?_⟩
  rw [e4]
  have e5 := hP.2.2.1 h0
  obtain ⟨e6, e7⟩ := hP.2.2.2 h0
  rw [e5] at e6 e7
  rw [e5]
  refine ⟨e6, fun _ => fun v hv => by rw [hv, nI5]; exact hK _ _ _ _ _ _ _ hE, fun hne => absurd e7 hne⟩
def Sp_appendCharacter : Prop := ∀ (S : MS) (l1 l2 l3 l4 : Nat) (loc ow : Nat → Nat) (σ : Sg) (M C N : Nat) (x0 : Int32) (post : Int32 → MS → Prop), Inv S l1 l2 l3 l4 loc ow σ M C N → (∀ (k : Int32) (S1 : MS) (σ1 : Sg) (ans : Int32), v_X6_appendCharacter σ x0 (fun r2 σ2 => eqv σ2 σ1 ∧ σ2.1 0 = k ∧ (k = 0 → r2 = ans)) → TI S1 l1 l2 l3 l4 σ σ1 → (k = 0 → sL S1 l3 0 = ans.toInt64) → post k S1) → w_L_appendCharacter S l1 x0 l3 post
set_option maxHeartbeats 1000000 in
theorem cs_appendCharacter (hs : Sp_appendCharacter) {xs : Nat → Int32} {L i : Nat} (hi : i + 5 ≤ L) (hL : L ≤ 2560) {KH : MS → Nat → Nat → Nat → Nat → Int32 → Prop} {S : MS} {l1 l2 l3 l4 : Nat} {loc ow : Nat → Nat} {σ : Sg} {M C N : Nat} (h : Inv S l1 l2 l3 l4 loc ow σ M C N) (hK : Nxt KH l1 l2 l3 l4 i) : b_L_law_2232 xs L KH S l1 l2 l3 l4 (nI i) := by
  unfold b_L_law_2232
  refine ⟨vp5 hi hL (j := 1) (by decide) (nI_add i 1), hs S l1 l2 l3 l4 loc ow σ M C N _ _ h (fun k S1 σ1 ans hv hA hans => ?_)⟩
  obtain ⟨loc1, ow1, M1, C1, N1, hM⟩ := hA
  have hR := hM.2.2.2.2.2.2.2.2.2.2.2.2.1
  refine ⟨vp5 hi hL (j := 1) (by decide) (nI_add i 1), hR.2.2.2.1, vr_X6_appendCharacter hR hv (fun r2 σ2 S2 hP hR2 hF => ?_)⟩
  have hE := mid_end hM hF hR2 hP.1
  refine tail_th hE ?_
  refine ⟨fun hk => ⟨fun _ => fun v hv => by rw [hv, nI5]; exact hK _ _ _ _ _ _ _ hE, fun h0 => ?_⟩, fun hne => hne hP.2.1⟩
  have e4 : sL S2 l3 (ix 0) = ans.toInt64 := by rw [ix0, hF.2.2.1]; exact hans h0
  refine ⟨hE.2.2.2.2.1, by rw [hE.2.2.2.2.2.1]; exact vp1, ?_⟩
  rw [e4, hP.2.2 h0, lg_refl]
  exact ⟨fun _ => fun v hv => by rw [hv, nI5]; exact hK _ _ _ _ _ _ _ hE, fun hne => hne rfl⟩
def Sp_runScript : Prop := ∀ (S : MS) (l1 l2 l3 l4 : Nat) (loc ow : Nat → Nat) (σ : Sg) (M C N : Nat)  (post : Int32 → MS → Prop), Inv S l1 l2 l3 l4 loc ow σ M C N → (∀ (k : Int32) (S1 : MS) (σ1 : Sg) (ans : Int32), v_X6_runScript σ  (fun r2 σ2 => eqv σ2 σ1 ∧ σ2.1 0 = k ∧ (k = 0 → r2 = ans)) → TI S1 l1 l2 l3 l4 σ σ1 → (k = 0 → sL S1 l3 0 = ans.toInt64) → post k S1) → w_L_runScript S l1  l3 post
set_option maxHeartbeats 1000000 in
theorem cs_runScript (hs : Sp_runScript) {xs : Nat → Int32} {L i : Nat} (hi : i + 5 ≤ L) (hL : L ≤ 2560) {KH : MS → Nat → Nat → Nat → Nat → Int32 → Prop} {S : MS} {l1 l2 l3 l4 : Nat} {loc ow : Nat → Nat} {σ : Sg} {M C N : Nat} (h : Inv S l1 l2 l3 l4 loc ow σ M C N) (hK : Nxt KH l1 l2 l3 l4 i) : b_L_law_2288 xs L KH S l1 l2 l3 l4 (nI i) := by
  unfold b_L_law_2288
  refine hs S l1 l2 l3 l4 loc ow σ M C N  _ h (fun k S1 σ1 ans hv hA hans => ?_)
  obtain ⟨loc1, ow1, M1, C1, N1, hM⟩ := hA
  have hR := hM.2.2.2.2.2.2.2.2.2.2.2.2.1
  refine ⟨hR.2.2.2.1, vr_X6_runScript hR hv (fun r2 σ2 S2 hP hR2 hF => ?_)⟩
  have hE := mid_end hM hF hR2 hP.1
  refine tail_th hE ?_
  refine ⟨fun hk => ⟨fun _ => fun v hv => by rw [hv, nI5]; exact hK _ _ _ _ _ _ _ hE, fun h0 => ?_⟩, fun hne => hne hP.2.1⟩
  have e4 : sL S2 l3 (ix 0) = ans.toInt64 := by rw [ix0, hF.2.2.1]; exact hans h0
  refine ⟨hE.2.2.2.2.1, by rw [hE.2.2.2.2.2.1]; exact vp1, ?_⟩
  rw [e4, hP.2.2 h0, lg_refl]
  exact ⟨fun _ => fun v hv => by rw [hv, nI5]; exact hK _ _ _ _ _ _ _ hE, fun hne => hne rfl⟩
def Sp_faultPosition : Prop := ∀ (S : MS) (l1 l2 l3 l4 : Nat) (loc ow : Nat → Nat) (σ : Sg) (M C N : Nat) (post : Int32 → MS → Prop), Inv S l1 l2 l3 l4 loc ow σ M C N → (∀ (r : Int32) (S1 : MS) (σ1 : Sg), v_X6_faultPosition σ (fun r2 σ2 => eqv σ2 σ1 ∧ r = r2) → TI S1 l1 l2 l3 l4 σ σ1 → post r S1) → w_X5_faultPosition S l1 post
set_option maxHeartbeats 1000000 in
theorem cs_faultPosition (hs : Sp_faultPosition) {xs : Nat → Int32} {L i : Nat} (hi : i + 5 ≤ L) (hL : L ≤ 2560) {KH : MS → Nat → Nat → Nat → Nat → Int32 → Prop} {S : MS} {l1 l2 l3 l4 : Nat} {loc ow : Nat → Nat} {σ : Sg} {M C N : Nat} (h : Inv S l1 l2 l3 l4 loc ow σ M C N) (hK : Nxt KH l1 l2 l3 l4 i) : b_L_law_2332 xs L KH S l1 l2 l3 l4 (nI i) := by
  unfold b_L_law_2332
  refine ⟨by rw [← h.1]; exact h.2.2.2.2.2.2.2.2.2.2.2.1.1.1, hs S l1 l2 l3 l4 loc ow σ M C N _ h (fun r S1 σ1 hv hA => ?_)⟩
  obtain ⟨loc1, ow1, M1, C1, N1, hM⟩ := hA
  have hR := hM.2.2.2.2.2.2.2.2.2.2.2.2.1
  refine ⟨hR.2.2.2.1, vr_X6_faultPosition hR hv (fun r2 σ2 S2 hP hR2 hF => ?_)⟩
  have hE := mid_end hM hF hR2 hP.1
  exact ⟨fun _ => fun v hv => by rw [hv, nI5]; exact hK _ _ _ _ _ _ _ hE, fun hne => hne hP.2⟩
def SpAll : Prop := Sp_configure ∧ Sp_begin ∧ Sp_retry ∧ Sp_read ∧ Sp_scan ∧ Sp_sum ∧ Sp_write ∧ Sp_remove ∧ Sp_add ∧ Sp_commit ∧ Sp_abort ∧ Sp_clock ∧ Sp_transactionCount ∧ Sp_activeCount ∧ Sp_ticketHolder ∧ Sp_state ∧ Sp_attempt ∧ Sp_reason ∧ Sp_commitOf ∧ Sp_operationCount ∧ Sp_recordedKeys ∧ Sp_predicateCount ∧ Sp_writtenKeys ∧ Sp_isStale ∧ Sp_rivals ∧ Sp_value ∧ Sp_valueAt ∧ Sp_writerOf ∧ Sp_transactionOf ∧ Sp_dependency ∧ Sp_longestChain ∧ Sp_serialFaults ∧ Sp_rewind ∧ Sp_addConstraint ∧ Sp_clearConstraints ∧ Sp_aborts ∧ Sp_averageAttempts ∧ Sp_abortRate ∧ Sp_appendCharacter ∧ Sp_runScript ∧ Sp_faultPosition
set_option maxHeartbeats 2000000 in
theorem loop_true (hs : SpAll) (xs : Nat → Int32) (L : Nat) (hL : L ≤ 2560) (l1 l2 l3 l4 : Nat) : ∀ (f i : Nat) (S : MS) (loc ow : Nat → Nat) (σ : Sg) (M C N : Nat), i + 5 * f = 2560 → Inv S l1 l2 l3 l4 loc ow σ M C N → b_L_law_28 xs L (f + 1) S l1 l2 l3 l4 (nI i) := by
  intro f
  induction f with
  | zero =>
    intro i S loc ow σ M C N hi h
    simp only [b_L_law_28]
    refine ⟨fun _ => trivial, fun hn => ?_⟩
    exfalso
    apply hn
    have e : i = 2560 := by omega
    subst e
    rw [fa_lt, fb_subI] <;> rw [show (Int32.ofNat L) = nI L from rfl, nI_toInt (by omega)]
    · rw [nI_toInt (by omega)]
      show (L : Int) - 5 < _
      omega
    · show -2147483648 ≤ (L : Int) - 5
      omega
    · show (L : Int) - 5 < 2147483648
      omega
  | succ f ih =>
    intro i S loc ow σ M C N hi h
    simp only [b_L_law_28]
    refine ⟨fun _ => trivial, fun hn => ?_⟩
    have hiL : i + 5 ≤ L := by
      rw [fa_lt, fb_subI] at hn
      · rw [show (Int32.ofNat L) = nI L from rfl, nI_toInt (by omega), nI_toInt (by omega)] at hn
        have hn2 : ¬ ((L : Int) - 5 < (i : Int)) := hn
        omega
      · rw [show (Int32.ofNat L) = nI L from rfl, nI_toInt (by omega)]
        show -2147483648 ≤ (L : Int) - 5
        omega
      · rw [show (Int32.ofNat L) = nI L from rfl, nI_toInt (by omega)]
        show (L : Int) - 5 < 2147483648
        omega
    have hK : Nxt (b_L_law_28 xs L (f + 1)) l1 l2 l3 l4 i := fun S2 loc2 ow2 σ2 M2 C2 N2 h2 => ih (i + 5) S2 loc2 ow2 σ2 M2 C2 N2 (by omega) h2
    refine ⟨vp_in_nI (by omega) (by omega), ?_⟩
    exact ⟨fun _ => cs_configure hs.1 hiL hL h hK, fun _ => cs_begin hs.2.1 hiL hL h hK, fun _ => cs_retry hs.2.2.1 hiL hL h hK, fun _ => cs_read hs.2.2.2.1 hiL hL h hK, fun _ => cs_scan hs.2.2.2.2.1 hiL hL h hK, fun _ => cs_sum hs.2.2.2.2.2.1 hiL hL h hK, fun _ => cs_write hs.2.2.2.2.2.2.1 hiL hL h hK, fun _ => cs_remove hs.2.2.2.2.2.2.2.1 hiL hL h hK, fun _ => cs_add hs.2.2.2.2.2.2.2.2.1 hiL hL h hK, fun _ => cs_commit hs.2.2.2.2.2.2.2.2.2.1 hiL hL h hK, fun _ => cs_abort hs.2.2.2.2.2.2.2.2.2.2.1 hiL hL h hK, fun _ => cs_clock hs.2.2.2.2.2.2.2.2.2.2.2.1 hiL hL h hK, fun _ => cs_transactionCount hs.2.2.2.2.2.2.2.2.2.2.2.2.1 hiL hL h hK, fun _ => cs_activeCount hs.2.2.2.2.2.2.2.2.2.2.2.2.2.1 hiL hL h hK, fun _ => cs_ticketHolder hs.2.2.2.2.2.2.2.2.2.2.2.2.2.2.1 hiL hL h hK, fun _ => cs_state hs.2.2.2.2.2.2.2.2.2.2.2.2.2.2.2.1 hiL hL h hK, fun _ => cs_attempt hs.2.2.2.2.2.2.2.2.2.2.2.2.2.2.2.2.1 hiL hL h hK, fun _ => cs_reason hs.2.2.2.2.2.2.2.2.2.2.2.2.2.2.2.2.2.1 hiL hL h hK, fun _ => cs_commitOf hs.2.2.2.2.2.2.2.2.2.2.2.2.2.2.2.2.2.2.1 hiL hL h hK, fun _ => cs_operationCount hs.2.2.2.2.2.2.2.2.2.2.2.2.2.2.2.2.2.2.2.1 hiL hL h hK, fun _ => cs_recordedKeys hs.2.2.2.2.2.2.2.2.2.2.2.2.2.2.2.2.2.2.2.2.1 hiL hL h hK, fun _ => cs_predicateCount hs.2.2.2.2.2.2.2.2.2.2.2.2.2.2.2.2.2.2.2.2.2.1 hiL hL h hK, fun _ => cs_writtenKeys hs.2.2.2.2.2.2.2.2.2.2.2.2.2.2.2.2.2.2.2.2.2.2.1 hiL hL h hK, fun _ => cs_isStale hs.2.2.2.2.2.2.2.2.2.2.2.2.2.2.2.2.2.2.2.2.2.2.2.1 hiL hL h hK, fun _ => cs_rivals hs.2.2.2.2.2.2.2.2.2.2.2.2.2.2.2.2.2.2.2.2.2.2.2.2.1 hiL hL h hK, fun _ => cs_value hs.2.2.2.2.2.2.2.2.2.2.2.2.2.2.2.2.2.2.2.2.2.2.2.2.2.1 hiL hL h hK, fun _ => cs_valueAt hs.2.2.2.2.2.2.2.2.2.2.2.2.2.2.2.2.2.2.2.2.2.2.2.2.2.2.1 hiL hL h hK, fun _ => cs_writerOf hs.2.2.2.2.2.2.2.2.2.2.2.2.2.2.2.2.2.2.2.2.2.2.2.2.2.2.2.1 hiL hL h hK, fun _ => cs_transactionOf hs.2.2.2.2.2.2.2.2.2.2.2.2.2.2.2.2.2.2.2.2.2.2.2.2.2.2.2.2.1 hiL hL h hK, fun _ => cs_dependency hs.2.2.2.2.2.2.2.2.2.2.2.2.2.2.2.2.2.2.2.2.2.2.2.2.2.2.2.2.2.1 hiL hL h hK, fun _ => cs_longestChain hs.2.2.2.2.2.2.2.2.2.2.2.2.2.2.2.2.2.2.2.2.2.2.2.2.2.2.2.2.2.2.1 hiL hL h hK, fun _ => cs_serialFaults hs.2.2.2.2.2.2.2.2.2.2.2.2.2.2.2.2.2.2.2.2.2.2.2.2.2.2.2.2.2.2.2.1 hiL hL h hK, fun _ => cs_rewind hs.2.2.2.2.2.2.2.2.2.2.2.2.2.2.2.2.2.2.2.2.2.2.2.2.2.2.2.2.2.2.2.2.1 hiL hL h hK, fun _ => cs_addConstraint hs.2.2.2.2.2.2.2.2.2.2.2.2.2.2.2.2.2.2.2.2.2.2.2.2.2.2.2.2.2.2.2.2.2.1 hiL hL h hK, fun _ => cs_clearConstraints hs.2.2.2.2.2.2.2.2.2.2.2.2.2.2.2.2.2.2.2.2.2.2.2.2.2.2.2.2.2.2.2.2.2.2.1 hiL hL h hK, fun _ => cs_aborts hs.2.2.2.2.2.2.2.2.2.2.2.2.2.2.2.2.2.2.2.2.2.2.2.2.2.2.2.2.2.2.2.2.2.2.2.1 hiL hL h hK, fun _ => cs_averageAttempts hs.2.2.2.2.2.2.2.2.2.2.2.2.2.2.2.2.2.2.2.2.2.2.2.2.2.2.2.2.2.2.2.2.2.2.2.2.1 hiL hL h hK, fun _ => cs_abortRate hs.2.2.2.2.2.2.2.2.2.2.2.2.2.2.2.2.2.2.2.2.2.2.2.2.2.2.2.2.2.2.2.2.2.2.2.2.2.1 hiL hL h hK, fun _ => cs_appendCharacter hs.2.2.2.2.2.2.2.2.2.2.2.2.2.2.2.2.2.2.2.2.2.2.2.2.2.2.2.2.2.2.2.2.2.2.2.2.2.2.1 hiL hL h hK, fun _ => cs_runScript hs.2.2.2.2.2.2.2.2.2.2.2.2.2.2.2.2.2.2.2.2.2.2.2.2.2.2.2.2.2.2.2.2.2.2.2.2.2.2.2.1 hiL hL h hK, fun _ => cs_faultPosition hs.2.2.2.2.2.2.2.2.2.2.2.2.2.2.2.2.2.2.2.2.2.2.2.2.2.2.2.2.2.2.2.2.2.2.2.2.2.2.2.2 hiL hL h hK, fun _ v hv => by rw [hv, nI5]; exact hK _ _ _ _ _ _ _ h⟩
