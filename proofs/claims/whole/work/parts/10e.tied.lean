set_option maxRecDepth 100000 in
theorem rx_e65 : rx_Ext none 65 := rx_Ext_plain (by decide +kernel)
set_option maxRecDepth 100000 in
set_option maxHeartbeats 4000000 in
theorem f_rea_parseRule_208_ok_w0 {p0 p1 p3 p4 : Nat} {o : rx_St} : ∀ (v2 : Int32) (v3 : Int32) (σ : rx_St), f_rea_parseRule_208 0 v2 v3 σ = some o → rx_AtP none 65 208 [(0, .ref 35), (2, .int v2), (3, .int v3)] [] (rx_D [p0, p1, 7, p3, p4] σ) (none, rx_D [p0, p1, 7, p3, p4] o) := by
  intro v2 v3 σ h
  refine rx_walk [56, 81, 142, 152, 173, 208] 2000 (by decide) rx_e65 ?_
  unfold f_rea_parseRule_208 at h
  refine rr_callS h (fun y hy => f_rea_take_ok _ hy) (fun y1 hy1 h => ?_)
  refine rr_callV h (fun y hy => f_wor_aimTests_ok_w0 _ hy) (fun y2 hy2 h => ?_)
  refine rr_if h (fun c234 h => ?_) (fun c234 h => ?_)
  · skip
    refine rr_g h (fun c249 h => ?_)
    refine rr_g h (fun c252 h => ?_)
    cases h
    exact And.intro (rfl) rfl
  · skip
    cases h
    exact And.intro (rfl) rfl
set_option maxRecDepth 100000 in
set_option maxHeartbeats 4000000 in
theorem f_rea_parseRule_173_ok_w0 {p0 p1 p3 p4 : Nat} {o : rx_St} : ∀ (n : Nat) (v2 : Int32) (v3 : Int32) (v4 : Int32) (σ : rx_St), f_rea_parseRule_173 0 n v2 v3 v4 σ = some o → rx_AtP none 65 173 [(0, .ref 35), (2, .int v2), (3, .int v3), (4, .int v4)] [] (rx_D [p0, p1, 7, p3, p4] σ) (none, rx_D [p0, p1, 7, p3, p4] o) := by
  intro n
  induction n with
  | zero => intro _ _ _ _ h; cases h
  | succ n ih =>
  intro v2 v3 v4 σ h
  refine rx_walk [56, 81, 142, 152, 173, 208] 2000 (by decide) rx_e65 ?_
  rw [f_rea_parseRule_173] at h
  refine rr_if h (fun c177 h => ?_) (fun c177 h => ?_)
  · skip
    exact rx_sub (f_rea_parseRule_208_ok_w0 _ _ _ h) [0, 1, 2] rfl
  · skip
    refine rr_callP h (fun y hy => f_rea_next_ok _ hy) (fun y1 hy1 h => ?_)
    refine rr_callT (f_rea_isWish_ok _ rfl) ?_
    refine rr_if h (fun c187 h => ?_) (fun c187 h => ?_)
    · skip
      exact rx_sub (f_rea_parseRule_208_ok_w0 _ _ _ h) [0, 1, 2] rfl
    · skip
      refine rr_callV h (fun y hy => f_rea_needRoom_ok _ hy) (fun y2 hy2 h => ?_)
      refine rr_callV h (fun y hy => f_rea_parseWish_ok_w0 _ hy) (fun y3 hy3 h => ?_)
      exact rx_sub (ih _ _ _ _ h) [1, 2, 3, 0] rfl
set_option maxRecDepth 100000 in
set_option maxHeartbeats 4000000 in
theorem f_rea_parseRule_152_ok_w0 {p0 p1 p3 p4 : Nat} {o : rx_St} : ∀ (v1 : Int32) (v2 : Int32) (σ : rx_St), f_rea_parseRule_152 0 v1 v2 σ = some o → rx_AtP none 65 152 [(0, .ref 35), (1, .int v1), (2, .int v2)] [] (rx_D [p0, p1, 7, p3, p4] σ) (none, rx_D [p0, p1, 7, p3, p4] o) := by
  intro v1 v2 σ h
  refine rx_walk [56, 81, 142, 152, 173, 208] 2000 (by decide) rx_e65 ?_
  unfold f_rea_parseRule_152 at h
  refine rr_callV h (fun y hy => f_wor_aimOrs_ok_w0 _ hy) (fun y2 hy2 h => ?_)
  exact rx_sub (f_rea_parseRule_173_ok_w0 rx_fu _ _ _ _ h) [2, 4, 1, 0] rfl
set_option maxRecDepth 100000 in
set_option maxHeartbeats 4000000 in
theorem f_rea_parseRule_142_ok_w0 {p0 p1 p3 p4 : Nat} {o : rx_St} {k56 : Int32 → Int32 → Int32 → rx_St → Option (rx_St)} (hk56 : ∀ (v1 : Int32) (v2 : Int32) (v3 : Int32) (σ : rx_St), k56 v1 v2 v3 σ = some o → rx_AtP none 65 56 [(0, .ref 35), (1, .int v1), (2, .int v2), (3, .int v3)] [] (rx_D [p0, p1, 7, p3, p4] σ) (none, rx_D [p0, p1, 7, p3, p4] o)) : ∀ (v1 : Int32) (v2 : Int32) (v3 : Int32) (σ : rx_St), f_rea_parseRule_142 0 k56 v1 v2 v3 σ = some o → rx_AtP none 65 142 [(0, .ref 35), (1, .int v1), (2, .int v2), (3, .int v3)] [] (rx_D [p0, p1, 7, p3, p4] σ) (none, rx_D [p0, p1, 7, p3, p4] o) := by
  intro v1 v2 v3 σ h
  refine rx_walk [56, 81, 142, 152, 173, 208] 2000 (by decide) rx_e65 ?_
  unfold f_rea_parseRule_142 at h
  refine rr_callV h (fun y hy => f_rea_parseLit_ok_w0 _ hy) (fun y1 hy1 h => ?_)
  exact rx_sub (hk56 _ _ _ _ h) [1, 2, 3, 0] rfl
set_option maxRecDepth 100000 in
set_option maxHeartbeats 4000000 in
theorem f_rea_parseRule_81_ok_w0 {p0 p1 p3 p4 : Nat} {o : rx_St} {k56 : Int32 → Int32 → Int32 → rx_St → Option (rx_St)} (hk56 : ∀ (v1 : Int32) (v2 : Int32) (v3 : Int32) (σ : rx_St), k56 v1 v2 v3 σ = some o → rx_AtP none 65 56 [(0, .ref 35), (1, .int v1), (2, .int v2), (3, .int v3)] [] (rx_D [p0, p1, 7, p3, p4] σ) (none, rx_D [p0, p1, 7, p3, p4] o)) : ∀ (v1 : Int32) (v2 : Int32) (v3 : Int32) (σ : rx_St), f_rea_parseRule_81 0 k56 v1 v2 v3 σ = some o → rx_AtP none 65 81 [(0, .ref 35), (1, .int v1), (2, .int v2), (3, .int v3)] [] (rx_D [p0, p1, 7, p3, p4] σ) (none, rx_D [p0, p1, 7, p3, p4] o) := by
  intro v1 v2 v3 σ h
  refine rx_walk [56, 81, 142, 152, 173, 208] 2000 (by decide) rx_e65 ?_
  unfold f_rea_parseRule_81 at h
  refine rr_callP h (fun y hy => f_rea_next_ok _ hy) (fun y1 hy1 h => ?_)
  refine rr_callS h (fun y hy => f_rea_take_ok _ hy) (fun y2 hy2 h => ?_)
  refine rr_if h (fun c98 h => ?_) (fun c98 h => ?_)
  · skip
    refine rr_callV h (fun y hy => f_wor_emit_ok_w0 _ hy) (fun y3 hy3 h => ?_)
    refine rr_callV h (fun y hy => f_wor_aimTests_ok_w0 _ hy) (fun y4 hy4 h => ?_)
    exact rx_sub (f_rea_parseRule_142_ok_w0 hk56 _ _ _ _ h) [2, 3, 0, 4] rfl
  · skip
    exact rx_sub (f_rea_parseRule_142_ok_w0 hk56 _ _ _ _ h) [1, 2, 3, 4] rfl
set_option maxRecDepth 100000 in
set_option maxHeartbeats 4000000 in
theorem f_rea_parseRule_56_ok_w0 {p0 p1 p3 p4 : Nat} {o : rx_St} : ∀ (n : Nat) (v1 : Int32) (v2 : Int32) (v3 : Int32) (σ : rx_St), f_rea_parseRule_56 0 n v1 v2 v3 σ = some o → rx_AtP none 65 56 [(0, .ref 35), (1, .int v1), (2, .int v2), (3, .int v3)] [] (rx_D [p0, p1, 7, p3, p4] σ) (none, rx_D [p0, p1, 7, p3, p4] o) := by
  intro n
  induction n with
  | zero => intro _ _ _ _ h; cases h
  | succ n ih =>
  intro v1 v2 v3 σ h
  refine rx_walk [56, 81, 142, 152, 173, 208] 2000 (by decide) rx_e65 ?_
  rw [f_rea_parseRule_56] at h
  refine rr_if h (fun c60 h => ?_) (fun c60 h => ?_)
  · skip
    exact rx_sub (f_rea_parseRule_152_ok_w0 _ _ _ h) [0, 1, 2] rfl
  · skip
    refine rr_callP h (fun y hy => f_rea_next_ok _ hy) (fun y1 hy1 h => ?_)
    refine rr_if h (fun c69 h => ?_) (fun c69 h => ?_)
    · skip
      exact rx_sub (f_rea_parseRule_81_ok_w0 ih _ _ _ _ h) [0, 1, 2, 3] rfl
    · skip
      refine rr_callP h (fun y hy => f_rea_next_ok _ hy) (fun y2 hy2 h => ?_)
      refine rr_if h (fun c78 h => ?_) (fun c78 h => ?_)
      · skip
        exact rx_sub (f_rea_parseRule_81_ok_w0 ih _ _ _ _ h) [0, 1, 2, 3] rfl
      · skip
        exact rx_sub (f_rea_parseRule_152_ok_w0 _ _ _ h) [0, 1, 2] rfl
set_option maxRecDepth 100000 in
set_option maxHeartbeats 4000000 in
theorem f_rea_parseRule_ok_w0 {p0 p1 p3 p4 : Nat} {σ : rx_St} : ∀ o, f_rea_parseRule 0 σ = some o → rx_OK 65 [.ref 35] 162 [] [p0, p1, 7, p3, p4] σ (none, rx_D [p0, p1, 7, p3, p4] o) := by
  intro o h
  refine rx_OK_of (by decide) (Nat.le_of_ble_eq_true rfl) ?_
  refine rx_walk [56, 81, 142, 152, 173, 208] 2000 (by decide) rx_e65 ?_
  unfold f_rea_parseRule at h
  refine rr_g h (fun c12 h => ?_)
  refine rr_callV h (fun y hy => f_rea_needRoom_ok _ hy) (fun y1 hy1 h => ?_)
  refine rr_callS h (fun y hy => f_rea_take_ok _ hy) (fun y2 hy2 h => ?_)
  refine rr_callP h (fun y hy => f_rea_next_ok _ hy) (fun y4 hy4 h => ?_)
  refine rr_if h (fun c40 h => ?_) (fun c40 h => ?_)
  · skip
    refine rr_callS h (fun y hy => f_rea_take_ok _ hy) (fun y5 hy5 h => ?_)
    refine rr_callV h (fun y hy => f_rea_parseLit_ok_w0 _ hy) (fun y6 hy6 h => ?_)
    exact rx_sub (f_rea_parseRule_56_ok_w0 rx_fu _ _ _ _ h) [3, 2, 1, 0] rfl
  · skip
    exact rx_sub (f_rea_parseRule_152_ok_w0 _ _ _ h) [2, 1, 0] rfl
set_option maxRecDepth 100000 in
set_option maxHeartbeats 4000000 in
theorem f_rea_parseRule_208_ok_w1 {p0 p1 p3 p4 : Nat} {o : rx_St} : ∀ (v2 : Int32) (v3 : Int32) (σ : rx_St), f_rea_parseRule_208 1 v2 v3 σ = some o → rx_AtP none 65 208 [(0, .ref 35), (2, .int v2), (3, .int v3)] [] (rx_D [p0, p1, 21, p3, p4] σ) (none, rx_D [p0, p1, 21, p3, p4] o) := by
  intro v2 v3 σ h
  refine rx_walk [56, 81, 142, 152, 173, 208] 2000 (by decide) rx_e65 ?_
  unfold f_rea_parseRule_208 at h
  refine rr_callS h (fun y hy => f_rea_take_ok _ hy) (fun y1 hy1 h => ?_)
  refine rr_callV h (fun y hy => f_wor_aimTests_ok_w1 _ hy) (fun y2 hy2 h => ?_)
  refine rr_if h (fun c234 h => ?_) (fun c234 h => ?_)
  · skip
    refine rr_g h (fun c249 h => ?_)
    refine rr_g h (fun c252 h => ?_)
    cases h
    exact And.intro (rfl) rfl
  · skip
    cases h
    exact And.intro (rfl) rfl
set_option maxRecDepth 100000 in
set_option maxHeartbeats 4000000 in
theorem f_rea_parseRule_173_ok_w1 {p0 p1 p3 p4 : Nat} {o : rx_St} : ∀ (n : Nat) (v2 : Int32) (v3 : Int32) (v4 : Int32) (σ : rx_St), f_rea_parseRule_173 1 n v2 v3 v4 σ = some o → rx_AtP none 65 173 [(0, .ref 35), (2, .int v2), (3, .int v3), (4, .int v4)] [] (rx_D [p0, p1, 21, p3, p4] σ) (none, rx_D [p0, p1, 21, p3, p4] o) := by
  intro n
  induction n with
  | zero => intro _ _ _ _ h; cases h
  | succ n ih =>
  intro v2 v3 v4 σ h
  refine rx_walk [56, 81, 142, 152, 173, 208] 2000 (by decide) rx_e65 ?_
  rw [f_rea_parseRule_173] at h
  refine rr_if h (fun c177 h => ?_) (fun c177 h => ?_)
  · skip
    exact rx_sub (f_rea_parseRule_208_ok_w1 _ _ _ h) [0, 1, 2] rfl
  · skip
    refine rr_callP h (fun y hy => f_rea_next_ok _ hy) (fun y1 hy1 h => ?_)
    refine rr_callT (f_rea_isWish_ok _ rfl) ?_
    refine rr_if h (fun c187 h => ?_) (fun c187 h => ?_)
    · skip
      exact rx_sub (f_rea_parseRule_208_ok_w1 _ _ _ h) [0, 1, 2] rfl
    · skip
      refine rr_callV h (fun y hy => f_rea_needRoom_ok _ hy) (fun y2 hy2 h => ?_)
      refine rr_callV h (fun y hy => f_rea_parseWish_ok_w1 _ hy) (fun y3 hy3 h => ?_)
      exact rx_sub (ih _ _ _ _ h) [1, 2, 3, 0] rfl
set_option maxRecDepth 100000 in
set_option maxHeartbeats 4000000 in
theorem f_rea_parseRule_152_ok_w1 {p0 p1 p3 p4 : Nat} {o : rx_St} : ∀ (v1 : Int32) (v2 : Int32) (σ : rx_St), f_rea_parseRule_152 1 v1 v2 σ = some o → rx_AtP none 65 152 [(0, .ref 35), (1, .int v1), (2, .int v2)] [] (rx_D [p0, p1, 21, p3, p4] σ) (none, rx_D [p0, p1, 21, p3, p4] o) := by
  intro v1 v2 σ h
  refine rx_walk [56, 81, 142, 152, 173, 208] 2000 (by decide) rx_e65 ?_
  unfold f_rea_parseRule_152 at h
  refine rr_callV h (fun y hy => f_wor_aimOrs_ok_w1 _ hy) (fun y2 hy2 h => ?_)
  exact rx_sub (f_rea_parseRule_173_ok_w1 rx_fu _ _ _ _ h) [2, 4, 1, 0] rfl
set_option maxRecDepth 100000 in
set_option maxHeartbeats 4000000 in
theorem f_rea_parseRule_142_ok_w1 {p0 p1 p3 p4 : Nat} {o : rx_St} {k56 : Int32 → Int32 → Int32 → rx_St → Option (rx_St)} (hk56 : ∀ (v1 : Int32) (v2 : Int32) (v3 : Int32) (σ : rx_St), k56 v1 v2 v3 σ = some o → rx_AtP none 65 56 [(0, .ref 35), (1, .int v1), (2, .int v2), (3, .int v3)] [] (rx_D [p0, p1, 21, p3, p4] σ) (none, rx_D [p0, p1, 21, p3, p4] o)) : ∀ (v1 : Int32) (v2 : Int32) (v3 : Int32) (σ : rx_St), f_rea_parseRule_142 1 k56 v1 v2 v3 σ = some o → rx_AtP none 65 142 [(0, .ref 35), (1, .int v1), (2, .int v2), (3, .int v3)] [] (rx_D [p0, p1, 21, p3, p4] σ) (none, rx_D [p0, p1, 21, p3, p4] o) := by
  intro v1 v2 v3 σ h
  refine rx_walk [56, 81, 142, 152, 173, 208] 2000 (by decide) rx_e65 ?_
  unfold f_rea_parseRule_142 at h
  refine rr_callV h (fun y hy => f_rea_parseLit_ok_w1 _ hy) (fun y1 hy1 h => ?_)
  exact rx_sub (hk56 _ _ _ _ h) [1, 2, 3, 0] rfl
set_option maxRecDepth 100000 in
set_option maxHeartbeats 4000000 in
theorem f_rea_parseRule_81_ok_w1 {p0 p1 p3 p4 : Nat} {o : rx_St} {k56 : Int32 → Int32 → Int32 → rx_St → Option (rx_St)} (hk56 : ∀ (v1 : Int32) (v2 : Int32) (v3 : Int32) (σ : rx_St), k56 v1 v2 v3 σ = some o → rx_AtP none 65 56 [(0, .ref 35), (1, .int v1), (2, .int v2), (3, .int v3)] [] (rx_D [p0, p1, 21, p3, p4] σ) (none, rx_D [p0, p1, 21, p3, p4] o)) : ∀ (v1 : Int32) (v2 : Int32) (v3 : Int32) (σ : rx_St), f_rea_parseRule_81 1 k56 v1 v2 v3 σ = some o → rx_AtP none 65 81 [(0, .ref 35), (1, .int v1), (2, .int v2), (3, .int v3)] [] (rx_D [p0, p1, 21, p3, p4] σ) (none, rx_D [p0, p1, 21, p3, p4] o) := by
  intro v1 v2 v3 σ h
  refine rx_walk [56, 81, 142, 152, 173, 208] 2000 (by decide) rx_e65 ?_
  unfold f_rea_parseRule_81 at h
  refine rr_callP h (fun y hy => f_rea_next_ok _ hy) (fun y1 hy1 h => ?_)
  refine rr_callS h (fun y hy => f_rea_take_ok _ hy) (fun y2 hy2 h => ?_)
  refine rr_if h (fun c98 h => ?_) (fun c98 h => ?_)
  · skip
    refine rr_callV h (fun y hy => f_wor_emit_ok_w1 _ hy) (fun y3 hy3 h => ?_)
    refine rr_callV h (fun y hy => f_wor_aimTests_ok_w1 _ hy) (fun y4 hy4 h => ?_)
    exact rx_sub (f_rea_parseRule_142_ok_w1 hk56 _ _ _ _ h) [2, 3, 0, 4] rfl
  · skip
    exact rx_sub (f_rea_parseRule_142_ok_w1 hk56 _ _ _ _ h) [1, 2, 3, 4] rfl
set_option maxRecDepth 100000 in
set_option maxHeartbeats 4000000 in
theorem f_rea_parseRule_56_ok_w1 {p0 p1 p3 p4 : Nat} {o : rx_St} : ∀ (n : Nat) (v1 : Int32) (v2 : Int32) (v3 : Int32) (σ : rx_St), f_rea_parseRule_56 1 n v1 v2 v3 σ = some o → rx_AtP none 65 56 [(0, .ref 35), (1, .int v1), (2, .int v2), (3, .int v3)] [] (rx_D [p0, p1, 21, p3, p4] σ) (none, rx_D [p0, p1, 21, p3, p4] o) := by
  intro n
  induction n with
  | zero => intro _ _ _ _ h; cases h
  | succ n ih =>
  intro v1 v2 v3 σ h
  refine rx_walk [56, 81, 142, 152, 173, 208] 2000 (by decide) rx_e65 ?_
  rw [f_rea_parseRule_56] at h
  refine rr_if h (fun c60 h => ?_) (fun c60 h => ?_)
  · skip
    exact rx_sub (f_rea_parseRule_152_ok_w1 _ _ _ h) [0, 1, 2] rfl
  · skip
    refine rr_callP h (fun y hy => f_rea_next_ok _ hy) (fun y1 hy1 h => ?_)
    refine rr_if h (fun c69 h => ?_) (fun c69 h => ?_)
    · skip
      exact rx_sub (f_rea_parseRule_81_ok_w1 ih _ _ _ _ h) [0, 1, 2, 3] rfl
    · skip
      refine rr_callP h (fun y hy => f_rea_next_ok _ hy) (fun y2 hy2 h => ?_)
      refine rr_if h (fun c78 h => ?_) (fun c78 h => ?_)
      · skip
        exact rx_sub (f_rea_parseRule_81_ok_w1 ih _ _ _ _ h) [0, 1, 2, 3] rfl
      · skip
        exact rx_sub (f_rea_parseRule_152_ok_w1 _ _ _ h) [0, 1, 2] rfl
set_option maxRecDepth 100000 in
set_option maxHeartbeats 4000000 in
theorem f_rea_parseRule_ok_w1 {p0 p1 p3 p4 : Nat} {σ : rx_St} : ∀ o, f_rea_parseRule 1 σ = some o → rx_OK 65 [.ref 35] 162 [] [p0, p1, 21, p3, p4] σ (none, rx_D [p0, p1, 21, p3, p4] o) := by
  intro o h
  refine rx_OK_of (by decide) (Nat.le_of_ble_eq_true rfl) ?_
  refine rx_walk [56, 81, 142, 152, 173, 208] 2000 (by decide) rx_e65 ?_
  unfold f_rea_parseRule at h
  refine rr_g h (fun c12 h => ?_)
  refine rr_callV h (fun y hy => f_rea_needRoom_ok _ hy) (fun y1 hy1 h => ?_)
  refine rr_callS h (fun y hy => f_rea_take_ok _ hy) (fun y2 hy2 h => ?_)
  refine rr_callP h (fun y hy => f_rea_next_ok _ hy) (fun y4 hy4 h => ?_)
  refine rr_if h (fun c40 h => ?_) (fun c40 h => ?_)
  · skip
    refine rr_callS h (fun y hy => f_rea_take_ok _ hy) (fun y5 hy5 h => ?_)
    refine rr_callV h (fun y hy => f_rea_parseLit_ok_w1 _ hy) (fun y6 hy6 h => ?_)
    exact rx_sub (f_rea_parseRule_56_ok_w1 rx_fu _ _ _ _ h) [3, 2, 1, 0] rfl
  · skip
    exact rx_sub (f_rea_parseRule_152_ok_w1 _ _ _ h) [2, 1, 0] rfl
set_option maxRecDepth 100000 in
theorem rx_e57 : rx_Ext none 57 := rx_Ext_plain (by decide +kernel)
set_option maxRecDepth 100000 in
set_option maxHeartbeats 4000000 in
theorem f_rea_parse_162_ok_w0 {p0 p1 p3 p4 : Nat} {o : Int32 × rx_St} : ∀ (σ : rx_St), f_rea_parse_162 0 σ = some o → rx_AtP none 57 162 [(0, .ref 35)] [] (rx_D [p0, p1, 7, p3, p4] σ) (some (.int o.1), rx_D [p0, p1, 7, p3, p4] o.2) := by
  intro σ h
  refine rx_walk [29, 52, 54, 73, 95, 105, 107, 131, 162] 2000 (by decide) rx_e57 ?_
  unfold f_rea_parse_162 at h
  refine rr_if h (fun c166 h => ?_) (fun c166 h => ?_)
  · skip
    refine rr_callP h (fun y hy => f_rea_next_ok _ hy) (fun y1 hy1 h => ?_)
    refine rr_if h (fun c175 h => ?_) (fun c175 h => ?_)
    · skip
      cases h
      exact And.intro (trivial) rfl
    · skip
      cases h
      exact And.intro (trivial) rfl
  · skip
    cases h
    exact And.intro (trivial) rfl
set_option maxRecDepth 100000 in
set_option maxHeartbeats 4000000 in
theorem f_rea_parse_131_ok_w0 {p0 p1 p3 p4 : Nat} {o : Int32 × rx_St} {k54 : Int32 → rx_St → Option (Int32 × rx_St)} (hk54 : ∀ (v2 : Int32) (σ : rx_St), k54 v2 σ = some o → rx_AtP none 57 54 [(0, .ref 35), (2, .int v2)] [] (rx_D [p0, p1, 7, p3, p4] σ) (some (.int o.1), rx_D [p0, p1, 7, p3, p4] o.2)) : ∀ (v2 : Int32) (σ : rx_St), f_rea_parse_131 0 k54 v2 σ = some o → rx_AtP none 57 131 [(0, .ref 35), (2, .int v2)] [] (rx_D [p0, p1, 7, p3, p4] σ) (some (.int o.1), rx_D [p0, p1, 7, p3, p4] o.2) := by
  intro v2 σ h
  refine rx_walk [29, 52, 54, 73, 95, 105, 107, 131, 162] 2000 (by decide) rx_e57 ?_
  unfold f_rea_parse_131 at h
  refine rr_callS h (fun y hy => f_rea_take_ok _ hy) (fun y1 hy1 h => ?_)
  refine rr_g h (fun c155 h => ?_)
  exact rx_sub (hk54 _ _ h) [1, 0] rfl
set_option maxRecDepth 100000 in
set_option maxHeartbeats 4000000 in
theorem f_rea_parse_107_ok_w0 {p0 p1 p3 p4 : Nat} {o : Int32 × rx_St} {k54 : Int32 → rx_St → Option (Int32 × rx_St)} (hk54 : ∀ (v2 : Int32) (σ : rx_St), k54 v2 σ = some o → rx_AtP none 57 54 [(0, .ref 35), (2, .int v2)] [] (rx_D [p0, p1, 7, p3, p4] σ) (some (.int o.1), rx_D [p0, p1, 7, p3, p4] o.2)) : ∀ (n : Nat) (v2 : Int32) (v3 : Int32) (σ : rx_St), f_rea_parse_107 0 k54 n v2 v3 σ = some o → rx_AtP none 57 107 [(0, .ref 35), (2, .int v2), (3, .int v3)] [] (rx_D [p0, p1, 7, p3, p4] σ) (some (.int o.1), rx_D [p0, p1, 7, p3, p4] o.2) := by
  intro n
  induction n with
  | zero => intro _ _ _ h; cases h
  | succ n ih =>
  intro v2 v3 σ h
  refine rx_walk [29, 52, 54, 73, 95, 105, 107, 131, 162] 2000 (by decide) rx_e57 ?_
  rw [f_rea_parse_107] at h
  refine rr_if h (fun c110 h => ?_) (fun c110 h => ?_)
  · skip
    exact rx_sub (f_rea_parse_131_ok_w0 hk54 _ _ h) [0, 1] rfl
  · skip
    refine rr_callP h (fun y hy => f_rea_next_ok _ hy) (fun y1 hy1 h => ?_)
    refine rr_if h (fun c118 h => ?_) (fun c118 h => ?_)
    · skip
      refine rr_callV h (fun y hy => f_rea_parseRule_ok_w0 _ hy) (fun y2 hy2 h => ?_)
      exact rx_sub (ih _ _ _ h) [1, 2, 0] rfl
    · skip
      exact rx_sub (f_rea_parse_131_ok_w0 hk54 _ _ h) [0, 1] rfl
set_option maxRecDepth 100000 in
set_option maxHeartbeats 4000000 in
theorem f_rea_parse_105_ok_w0 {p0 p1 p3 p4 : Nat} {o : Int32 × rx_St} {k54 : Int32 → rx_St → Option (Int32 × rx_St)} (hk54 : ∀ (v2 : Int32) (σ : rx_St), k54 v2 σ = some o → rx_AtP none 57 54 [(0, .ref 35), (2, .int v2)] [] (rx_D [p0, p1, 7, p3, p4] σ) (some (.int o.1), rx_D [p0, p1, 7, p3, p4] o.2)) : ∀ (v2 : Int32) (σ : rx_St), f_rea_parse_105 0 k54 v2 σ = some o → rx_AtP none 57 105 [(0, .ref 35), (2, .int v2)] [] (rx_D [p0, p1, 7, p3, p4] σ) (some (.int o.1), rx_D [p0, p1, 7, p3, p4] o.2) := by
  intro v2 σ h
  refine rx_walk [29, 52, 54, 73, 95, 105, 107, 131, 162] 2000 (by decide) rx_e57 ?_
  unfold f_rea_parse_105 at h
  exact rx_sub (f_rea_parse_107_ok_w0 hk54 rx_fu _ _ _ h) [1, 2, 0] rfl
set_option maxRecDepth 100000 in
set_option maxHeartbeats 4000000 in
theorem f_rea_parse_95_ok_w0 {p0 p1 p3 p4 : Nat} {o : Int32 × rx_St} {k54 : Int32 → rx_St → Option (Int32 × rx_St)} {k73 : Int32 → Int32 → rx_St → Option (Int32 × rx_St)} (hk54 : ∀ (v2 : Int32) (σ : rx_St), k54 v2 σ = some o → rx_AtP none 57 54 [(0, .ref 35), (2, .int v2)] [] (rx_D [p0, p1, 7, p3, p4] σ) (some (.int o.1), rx_D [p0, p1, 7, p3, p4] o.2)) (hk73 : ∀ (v2 : Int32) (v3 : Int32) (σ : rx_St), k73 v2 v3 σ = some o → rx_AtP none 57 73 [(0, .ref 35), (2, .int v2), (3, .int v3)] [] (rx_D [p0, p1, 7, p3, p4] σ) (some (.int o.1), rx_D [p0, p1, 7, p3, p4] o.2)) : ∀ (v2 : Int32) (v3 : Int32) (σ : rx_St), f_rea_parse_95 0 k54 k73 v2 v3 σ = some o → rx_AtP none 57 95 [(0, .ref 35), (2, .int v2), (3, .int v3)] [] (rx_D [p0, p1, 7, p3, p4] σ) (some (.int o.1), rx_D [p0, p1, 7, p3, p4] o.2) := by
  intro v2 v3 σ h
  refine rx_walk [29, 52, 54, 73, 95, 105, 107, 131, 162] 2000 (by decide) rx_e57 ?_
  unfold f_rea_parse_95 at h
  refine rr_callV h (fun y hy => f_rea_parseHas_ok_w0 _ hy) (fun y1 hy1 h => ?_)
  exact rx_sub (hk73 _ _ _ h) [1, 2, 0] rfl
set_option maxRecDepth 100000 in
set_option maxHeartbeats 4000000 in
theorem f_rea_parse_73_ok_w0 {p0 p1 p3 p4 : Nat} {o : Int32 × rx_St} {k54 : Int32 → rx_St → Option (Int32 × rx_St)} (hk54 : ∀ (v2 : Int32) (σ : rx_St), k54 v2 σ = some o → rx_AtP none 57 54 [(0, .ref 35), (2, .int v2)] [] (rx_D [p0, p1, 7, p3, p4] σ) (some (.int o.1), rx_D [p0, p1, 7, p3, p4] o.2)) : ∀ (n : Nat) (v2 : Int32) (v3 : Int32) (σ : rx_St), f_rea_parse_73 0 k54 n v2 v3 σ = some o → rx_AtP none 57 73 [(0, .ref 35), (2, .int v2), (3, .int v3)] [] (rx_D [p0, p1, 7, p3, p4] σ) (some (.int o.1), rx_D [p0, p1, 7, p3, p4] o.2) := by
  intro n
  induction n with
  | zero => intro _ _ _ h; cases h
  | succ n ih =>
  intro v2 v3 σ h
  refine rx_walk [29, 52, 54, 73, 95, 105, 107, 131, 162] 2000 (by decide) rx_e57 ?_
  rw [f_rea_parse_73] at h
  refine rr_if h (fun c76 h => ?_) (fun c76 h => ?_)
  · skip
    exact rx_sub (f_rea_parse_105_ok_w0 hk54 _ _ h) [0, 1] rfl
  · skip
    refine rr_callP h (fun y hy => f_rea_next_ok _ hy) (fun y1 hy1 h => ?_)
    refine rr_if h (fun c84 h => ?_) (fun c84 h => ?_)
    · skip
      exact rx_sub (f_rea_parse_95_ok_w0 hk54 ih _ _ _ h) [0, 1, 2] rfl
    · skip
      refine rr_callP h (fun y hy => f_rea_next_ok _ hy) (fun y2 hy2 h => ?_)
      refine rr_if h (fun c92 h => ?_) (fun c92 h => ?_)
      · skip
        exact rx_sub (f_rea_parse_95_ok_w0 hk54 ih _ _ _ h) [0, 1, 2] rfl
      · skip
        exact rx_sub (f_rea_parse_105_ok_w0 hk54 _ _ h) [0, 1] rfl
set_option maxRecDepth 100000 in
set_option maxHeartbeats 4000000 in
theorem f_rea_parse_54_ok_w0 {p0 p1 p3 p4 : Nat} {o : Int32 × rx_St} : ∀ (n : Nat) (v2 : Int32) (σ : rx_St), f_rea_parse_54 0 n v2 σ = some o → rx_AtP none 57 54 [(0, .ref 35), (2, .int v2)] [] (rx_D [p0, p1, 7, p3, p4] σ) (some (.int o.1), rx_D [p0, p1, 7, p3, p4] o.2) := by
  intro n
  induction n with
  | zero => intro _ _ h; cases h
  | succ n ih =>
  intro v2 σ h
  refine rx_walk [29, 52, 54, 73, 95, 105, 107, 131, 162] 2000 (by decide) rx_e57 ?_
  rw [f_rea_parse_54] at h
  refine rr_if h (fun c56 h => ?_) (fun c56 h => ?_)
  · skip
    exact rx_sub (f_rea_parse_162_ok_w0 _ h) [0] rfl
  · skip
    refine rr_callP h (fun y hy => f_rea_next_ok _ hy) (fun y1 hy1 h => ?_)
    refine rr_if h (fun c64 h => ?_) (fun c64 h => ?_)
    · skip
      refine rr_callV h (fun y hy => f_rea_openKind_ok_w0 _ hy) (fun y2 hy2 h => ?_)
      exact rx_sub (f_rea_parse_73_ok_w0 ih rx_fu _ _ _ h) [1, 2, 0] rfl
    · skip
      exact rx_sub (f_rea_parse_162_ok_w0 _ h) [0] rfl
set_option maxRecDepth 100000 in
set_option maxHeartbeats 4000000 in
theorem f_rea_parse_52_ok_w0 {p0 p1 p3 p4 : Nat} {o : Int32 × rx_St} : ∀ (σ : rx_St), f_rea_parse_52 0 σ = some o → rx_AtP none 57 52 [(0, .ref 35)] [] (rx_D [p0, p1, 7, p3, p4] σ) (some (.int o.1), rx_D [p0, p1, 7, p3, p4] o.2) := by
  intro σ h
  refine rx_walk [29, 52, 54, 73, 95, 105, 107, 131, 162] 2000 (by decide) rx_e57 ?_
  unfold f_rea_parse_52 at h
  exact rx_sub (f_rea_parse_54_ok_w0 rx_fu _ _ h) [1, 0] rfl
set_option maxRecDepth 100000 in
set_option maxHeartbeats 4000000 in
theorem f_rea_parse_29_ok_w0 {p0 p1 p3 p4 : Nat} {o : Int32 × rx_St} : ∀ (n : Nat) (v2 : Int32) (σ : rx_St), f_rea_parse_29 0 n v2 σ = some o → rx_AtP none 57 29 [(0, .ref 35), (2, .int v2)] [] (rx_D [p0, p1, 7, p3, p4] σ) (some (.int o.1), rx_D [p0, p1, 7, p3, p4] o.2) := by
  intro n
  induction n with
  | zero => intro _ _ h; cases h
  | succ n ih =>
  intro v2 σ h
  refine rx_walk [29, 52, 54, 73, 95, 105, 107, 131, 162] 2000 (by decide) rx_e57 ?_
  rw [f_rea_parse_29] at h
  refine rr_if h (fun c32 h => ?_) (fun c32 h => ?_)
  · skip
    exact rx_sub (f_rea_parse_52_ok_w0 _ h) [0] rfl
  · skip
    refine rr_callP h (fun y hy => f_rea_next_ok _ hy) (fun y1 hy1 h => ?_)
    refine rr_if h (fun c39 h => ?_) (fun c39 h => ?_)
    · skip
      refine rr_callV h (fun y hy => f_rea_parseSetting_ok_w0 _ hy) (fun y2 hy2 h => ?_)
      exact rx_sub (ih _ _ h) [1, 0] rfl
    · skip
      exact rx_sub (f_rea_parse_52_ok_w0 _ h) [0] rfl
set_option maxRecDepth 100000 in
set_option maxHeartbeats 4000000 in
theorem f_rea_parse_ok_w0 {p0 p1 p2 p3 p4 : Nat} {σ : rx_St} : ∀ o, f_rea_parse 0 σ = some o → rx_OK 57 [.ref 35, .ref 7] 162 [] [p0, p1, p2, p3, p4] σ (some (.int o.1), rx_D [p0, p1, 7, p3, p4] o.2) := by
  intro o h
  refine rx_OK_of (by decide) (Nat.le_of_ble_eq_true rfl) ?_
  refine rx_walk [29, 52, 54, 73, 95, 105, 107, 131, 162] 2000 (by decide) rx_e57 ?_
  unfold f_rea_parse at h
  refine rr_callV h (fun y hy => f_wor_empty_ok_w0 _ hy) (fun y1 hy1 h => ?_)
  exact rx_sub (f_rea_parse_29_ok_w0 rx_fu _ _ h) [1, 0] rfl
set_option maxRecDepth 100000 in
set_option maxHeartbeats 4000000 in
theorem f_rea_parse_162_ok_w1 {p0 p1 p3 p4 : Nat} {o : Int32 × rx_St} : ∀ (σ : rx_St), f_rea_parse_162 1 σ = some o → rx_AtP none 57 162 [(0, .ref 35)] [] (rx_D [p0, p1, 21, p3, p4] σ) (some (.int o.1), rx_D [p0, p1, 21, p3, p4] o.2) := by
  intro σ h
  refine rx_walk [29, 52, 54, 73, 95, 105, 107, 131, 162] 2000 (by decide) rx_e57 ?_
  unfold f_rea_parse_162 at h
  refine rr_if h (fun c166 h => ?_) (fun c166 h => ?_)
  · skip
    refine rr_callP h (fun y hy => f_rea_next_ok _ hy) (fun y1 hy1 h => ?_)
    refine rr_if h (fun c175 h => ?_) (fun c175 h => ?_)
    · skip
      cases h
      exact And.intro (trivial) rfl
    · skip
      cases h
      exact And.intro (trivial) rfl
  · skip
    cases h
    exact And.intro (trivial) rfl
set_option maxRecDepth 100000 in
set_option maxHeartbeats 4000000 in
theorem f_rea_parse_131_ok_w1 {p0 p1 p3 p4 : Nat} {o : Int32 × rx_St} {k54 : Int32 → rx_St → Option (Int32 × rx_St)} (hk54 : ∀ (v2 : Int32) (σ : rx_St), k54 v2 σ = some o → rx_AtP none 57 54 [(0, .ref 35), (2, .int v2)] [] (rx_D [p0, p1, 21, p3, p4] σ) (some (.int o.1), rx_D [p0, p1, 21, p3, p4] o.2)) : ∀ (v2 : Int32) (σ : rx_St), f_rea_parse_131 1 k54 v2 σ = some o → rx_AtP none 57 131 [(0, .ref 35), (2, .int v2)] [] (rx_D [p0, p1, 21, p3, p4] σ) (some (.int o.1), rx_D [p0, p1, 21, p3, p4] o.2) := by
  intro v2 σ h
  refine rx_walk [29, 52, 54, 73, 95, 105, 107, 131, 162] 2000 (by decide) rx_e57 ?_
  unfold f_rea_parse_131 at h
  refine rr_callS h (fun y hy => f_rea_take_ok _ hy) (fun y1 hy1 h => ?_)
  refine rr_g h (fun c155 h => ?_)
  exact rx_sub (hk54 _ _ h) [1, 0] rfl
set_option maxRecDepth 100000 in
set_option maxHeartbeats 4000000 in
theorem f_rea_parse_107_ok_w1 {p0 p1 p3 p4 : Nat} {o : Int32 × rx_St} {k54 : Int32 → rx_St → Option (Int32 × rx_St)} (hk54 : ∀ (v2 : Int32) (σ : rx_St), k54 v2 σ = some o → rx_AtP none 57 54 [(0, .ref 35), (2, .int v2)] [] (rx_D [p0, p1, 21, p3, p4] σ) (some (.int o.1), rx_D [p0, p1, 21, p3, p4] o.2)) : ∀ (n : Nat) (v2 : Int32) (v3 : Int32) (σ : rx_St), f_rea_parse_107 1 k54 n v2 v3 σ = some o → rx_AtP none 57 107 [(0, .ref 35), (2, .int v2), (3, .int v3)] [] (rx_D [p0, p1, 21, p3, p4] σ) (some (.int o.1), rx_D [p0, p1, 21, p3, p4] o.2) := by
  intro n
  induction n with
  | zero => intro _ _ _ h; cases h
  | succ n ih =>
  intro v2 v3 σ h
  refine rx_walk [29, 52, 54, 73, 95, 105, 107, 131, 162] 2000 (by decide) rx_e57 ?_
  rw [f_rea_parse_107] at h
  refine rr_if h (fun c110 h => ?_) (fun c110 h => ?_)
  · skip
    exact rx_sub (f_rea_parse_131_ok_w1 hk54 _ _ h) [0, 1] rfl
  · skip
    refine rr_callP h (fun y hy => f_rea_next_ok _ hy) (fun y1 hy1 h => ?_)
    refine rr_if h (fun c118 h => ?_) (fun c118 h => ?_)
    · skip
      refine rr_callV h (fun y hy => f_rea_parseRule_ok_w1 _ hy) (fun y2 hy2 h => ?_)
      exact rx_sub (ih _ _ _ h) [1, 2, 0] rfl
    · skip
      exact rx_sub (f_rea_parse_131_ok_w1 hk54 _ _ h) [0, 1] rfl
set_option maxRecDepth 100000 in
set_option maxHeartbeats 4000000 in
theorem f_rea_parse_105_ok_w1 {p0 p1 p3 p4 : Nat} {o : Int32 × rx_St} {k54 : Int32 → rx_St → Option (Int32 × rx_St)} (hk54 : ∀ (v2 : Int32) (σ : rx_St), k54 v2 σ = some o → rx_AtP none 57 54 [(0, .ref 35), (2, .int v2)] [] (rx_D [p0, p1, 21, p3, p4] σ) (some (.int o.1), rx_D [p0, p1, 21, p3, p4] o.2)) : ∀ (v2 : Int32) (σ : rx_St), f_rea_parse_105 1 k54 v2 σ = some o → rx_AtP none 57 105 [(0, .ref 35), (2, .int v2)] [] (rx_D [p0, p1, 21, p3, p4] σ) (some (.int o.1), rx_D [p0, p1, 21, p3, p4] o.2) := by
  intro v2 σ h
  refine rx_walk [29, 52, 54, 73, 95, 105, 107, 131, 162] 2000 (by decide) rx_e57 ?_
  unfold f_rea_parse_105 at h
  exact rx_sub (f_rea_parse_107_ok_w1 hk54 rx_fu _ _ _ h) [1, 2, 0] rfl
set_option maxRecDepth 100000 in
set_option maxHeartbeats 4000000 in
theorem f_rea_parse_95_ok_w1 {p0 p1 p3 p4 : Nat} {o : Int32 × rx_St} {k54 : Int32 → rx_St → Option (Int32 × rx_St)} {k73 : Int32 → Int32 → rx_St → Option (Int32 × rx_St)} (hk54 : ∀ (v2 : Int32) (σ : rx_St), k54 v2 σ = some o → rx_AtP none 57 54 [(0, .ref 35), (2, .int v2)] [] (rx_D [p0, p1, 21, p3, p4] σ) (some (.int o.1), rx_D [p0, p1, 21, p3, p4] o.2)) (hk73 : ∀ (v2 : Int32) (v3 : Int32) (σ : rx_St), k73 v2 v3 σ = some o → rx_AtP none 57 73 [(0, .ref 35), (2, .int v2), (3, .int v3)] [] (rx_D [p0, p1, 21, p3, p4] σ) (some (.int o.1), rx_D [p0, p1, 21, p3, p4] o.2)) : ∀ (v2 : Int32) (v3 : Int32) (σ : rx_St), f_rea_parse_95 1 k54 k73 v2 v3 σ = some o → rx_AtP none 57 95 [(0, .ref 35), (2, .int v2), (3, .int v3)] [] (rx_D [p0, p1, 21, p3, p4] σ) (some (.int o.1), rx_D [p0, p1, 21, p3, p4] o.2) := by
  intro v2 v3 σ h
  refine rx_walk [29, 52, 54, 73, 95, 105, 107, 131, 162] 2000 (by decide) rx_e57 ?_
  unfold f_rea_parse_95 at h
  refine rr_callV h (fun y hy => f_rea_parseHas_ok_w1 _ hy) (fun y1 hy1 h => ?_)
  exact rx_sub (hk73 _ _ _ h) [1, 2, 0] rfl
set_option maxRecDepth 100000 in
set_option maxHeartbeats 4000000 in
theorem f_rea_parse_73_ok_w1 {p0 p1 p3 p4 : Nat} {o : Int32 × rx_St} {k54 : Int32 → rx_St → Option (Int32 × rx_St)} (hk54 : ∀ (v2 : Int32) (σ : rx_St), k54 v2 σ = some o → rx_AtP none 57 54 [(0, .ref 35), (2, .int v2)] [] (rx_D [p0, p1, 21, p3, p4] σ) (some (.int o.1), rx_D [p0, p1, 21, p3, p4] o.2)) : ∀ (n : Nat) (v2 : Int32) (v3 : Int32) (σ : rx_St), f_rea_parse_73 1 k54 n v2 v3 σ = some o → rx_AtP none 57 73 [(0, .ref 35), (2, .int v2), (3, .int v3)] [] (rx_D [p0, p1, 21, p3, p4] σ) (some (.int o.1), rx_D [p0, p1, 21, p3, p4] o.2) := by
  intro n
  induction n with
  | zero => intro _ _ _ h; cases h
  | succ n ih =>
  intro v2 v3 σ h
  refine rx_walk [29, 52, 54, 73, 95, 105, 107, 131, 162] 2000 (by decide) rx_e57 ?_
  rw [f_rea_parse_73] at h
  refine rr_if h (fun c76 h => ?_) (fun c76 h => ?_)
  · skip
    exact rx_sub (f_rea_parse_105_ok_w1 hk54 _ _ h) [0, 1] rfl
  · skip
    refine rr_callP h (fun y hy => f_rea_next_ok _ hy) (fun y1 hy1 h => ?_)
    refine rr_if h (fun c84 h => ?_) (fun c84 h => ?_)
    · skip
      exact rx_sub (f_rea_parse_95_ok_w1 hk54 ih _ _ _ h) [0, 1, 2] rfl
    · skip
      refine rr_callP h (fun y hy => f_rea_next_ok _ hy) (fun y2 hy2 h => ?_)
      refine rr_if h (fun c92 h => ?_) (fun c92 h => ?_)
      · skip
        exact rx_sub (f_rea_parse_95_ok_w1 hk54 ih _ _ _ h) [0, 1, 2] rfl
      · skip
        exact rx_sub (f_rea_parse_105_ok_w1 hk54 _ _ h) [0, 1] rfl
set_option maxRecDepth 100000 in
set_option maxHeartbeats 4000000 in
theorem f_rea_parse_54_ok_w1 {p0 p1 p3 p4 : Nat} {o : Int32 × rx_St} : ∀ (n : Nat) (v2 : Int32) (σ : rx_St), f_rea_parse_54 1 n v2 σ = some o → rx_AtP none 57 54 [(0, .ref 35), (2, .int v2)] [] (rx_D [p0, p1, 21, p3, p4] σ) (some (.int o.1), rx_D [p0, p1, 21, p3, p4] o.2) := by
  intro n
  induction n with
  | zero => intro _ _ h; cases h
  | succ n ih =>
  intro v2 σ h
  refine rx_walk [29, 52, 54, 73, 95, 105, 107, 131, 162] 2000 (by decide) rx_e57 ?_
  rw [f_rea_parse_54] at h
  refine rr_if h (fun c56 h => ?_) (fun c56 h => ?_)
  · skip
    exact rx_sub (f_rea_parse_162_ok_w1 _ h) [0] rfl
  · skip
    refine rr_callP h (fun y hy => f_rea_next_ok _ hy) (fun y1 hy1 h => ?_)
    refine rr_if h (fun c64 h => ?_) (fun c64 h => ?_)
    · skip
      refine rr_callV h (fun y hy => f_rea_openKind_ok_w1 _ hy) (fun y2 hy2 h => ?_)
      exact rx_sub (f_rea_parse_73_ok_w1 ih rx_fu _ _ _ h) [1, 2, 0] rfl
    · skip
      exact rx_sub (f_rea_parse_162_ok_w1 _ h) [0] rfl
set_option maxRecDepth 100000 in
set_option maxHeartbeats 4000000 in
theorem f_rea_parse_52_ok_w1 {p0 p1 p3 p4 : Nat} {o : Int32 × rx_St} : ∀ (σ : rx_St), f_rea_parse_52 1 σ = some o → rx_AtP none 57 52 [(0, .ref 35)] [] (rx_D [p0, p1, 21, p3, p4] σ) (some (.int o.1), rx_D [p0, p1, 21, p3, p4] o.2) := by
  intro σ h
  refine rx_walk [29, 52, 54, 73, 95, 105, 107, 131, 162] 2000 (by decide) rx_e57 ?_
  unfold f_rea_parse_52 at h
  exact rx_sub (f_rea_parse_54_ok_w1 rx_fu _ _ h) [1, 0] rfl
set_option maxRecDepth 100000 in
set_option maxHeartbeats 4000000 in
theorem f_rea_parse_29_ok_w1 {p0 p1 p3 p4 : Nat} {o : Int32 × rx_St} : ∀ (n : Nat) (v2 : Int32) (σ : rx_St), f_rea_parse_29 1 n v2 σ = some o → rx_AtP none 57 29 [(0, .ref 35), (2, .int v2)] [] (rx_D [p0, p1, 21, p3, p4] σ) (some (.int o.1), rx_D [p0, p1, 21, p3, p4] o.2) := by
  intro n
  induction n with
  | zero => intro _ _ h; cases h
  | succ n ih =>
  intro v2 σ h
  refine rx_walk [29, 52, 54, 73, 95, 105, 107, 131, 162] 2000 (by decide) rx_e57 ?_
  rw [f_rea_parse_29] at h
  refine rr_if h (fun c32 h => ?_) (fun c32 h => ?_)
  · skip
    exact rx_sub (f_rea_parse_52_ok_w1 _ h) [0] rfl
  · skip
    refine rr_callP h (fun y hy => f_rea_next_ok _ hy) (fun y1 hy1 h => ?_)
    refine rr_if h (fun c39 h => ?_) (fun c39 h => ?_)
    · skip
      refine rr_callV h (fun y hy => f_rea_parseSetting_ok_w1 _ hy) (fun y2 hy2 h => ?_)
      exact rx_sub (ih _ _ h) [1, 0] rfl
    · skip
      exact rx_sub (f_rea_parse_52_ok_w1 _ h) [0] rfl
set_option maxRecDepth 100000 in
set_option maxHeartbeats 4000000 in
theorem f_rea_parse_ok_w1 {p0 p1 p2 p3 p4 : Nat} {σ : rx_St} : ∀ o, f_rea_parse 1 σ = some o → rx_OK 57 [.ref 35, .ref 21] 162 [] [p0, p1, p2, p3, p4] σ (some (.int o.1), rx_D [p0, p1, 21, p3, p4] o.2) := by
  intro o h
  refine rx_OK_of (by decide) (Nat.le_of_ble_eq_true rfl) ?_
  refine rx_walk [29, 52, 54, 73, 95, 105, 107, 131, 162] 2000 (by decide) rx_e57 ?_
  unfold f_rea_parse at h
  refine rr_callV h (fun y hy => f_wor_empty_ok_w1 _ hy) (fun y1 hy1 h => ?_)
  exact rx_sub (f_rea_parse_29_ok_w1 rx_fu _ _ h) [1, 0] rfl
set_option maxRecDepth 100000 in
theorem rx_e58 : rx_Ext none 58 := rx_Ext_plain (by decide +kernel)
set_option maxRecDepth 100000 in
set_option maxHeartbeats 4000000 in
theorem f_rea_faultPlace_ok {P : List Nat} {σ : rx_St} : ∀ o, f_rea_faultPlace σ = some o → rx_OK 58 [.ref 35] 162 [] P σ (some (.int o), rx_D P σ) := by
  intro o h
  refine rx_OK_of (by decide) (Nat.le_of_ble_eq_true rfl) ?_
  refine rx_walk [] 2000 (by decide) rx_e58 ?_
  unfold f_rea_faultPlace at h
  refine rr_if h (fun c4 h => ?_) (fun c4 h => ?_)
  · skip
    cases h
    exact And.intro (trivial) rfl
  · skip
    refine rr_callP h (fun y hy => f_tap_placeOf_ok _ hy) (fun y1 hy1 h => ?_)
    cases h
    exact And.intro (trivial) rfl
set_option maxRecDepth 100000 in
theorem rx_e75 : rx_Ext none 75 := rx_Ext_plain (by decide +kernel)
set_option maxRecDepth 100000 in
set_option maxHeartbeats 4000000 in
theorem f_run_goPlain_ok_r0w1 {p0 p1 p2 p3 : Nat} {a0 : Int32} {a1 : Int32} {σ : rx_St} : ∀ o, f_run_goPlain 0 1 a0 a1 σ = some o → rx_OK 75 [.ref 57, .int a0, .int a1] 162 [] [p0, p1, p2, p3, 21] σ (none, rx_D [p0, p1, p2, p3, 21] o) := by
  intro o h
  refine rx_OK_of (by decide) (Nat.le_of_ble_eq_true rfl) ?_
  refine rx_walk [] 2000 (by decide) rx_e75 ?_
  unfold f_run_goPlain at h
  refine rr_callV h (fun y hy => f_run_restart_ok_r0w1 _ hy) (fun y1 hy1 h => ?_)
  refine rr_callV h (fun y hy => f_run_goOn_ok_r0w1 _ hy) (fun y2 hy2 h => ?_)
  cases h
  exact And.intro (rfl) rfl
set_option maxRecDepth 100000 in
set_option maxHeartbeats 4000000 in
theorem f_run_goPlain_ok_r0w0 {p0 p1 p2 p3 : Nat} {a0 : Int32} {a1 : Int32} {σ : rx_St} : ∀ o, f_run_goPlain 0 0 a0 a1 σ = some o → rx_OK 75 [.ref 57, .int a0, .int a1] 162 [] [p0, p1, p2, p3, 7] σ (none, rx_D [p0, p1, p2, p3, 7] o) := by
  intro o h
  refine rx_OK_of (by decide) (Nat.le_of_ble_eq_true rfl) ?_
  refine rx_walk [] 2000 (by decide) rx_e75 ?_
  unfold f_run_goPlain at h
  refine rr_callV h (fun y hy => f_run_restart_ok_r0w0 _ hy) (fun y1 hy1 h => ?_)
  refine rr_callV h (fun y hy => f_run_goOn_ok_r0w0 _ hy) (fun y2 hy2 h => ?_)
  cases h
  exact And.intro (rfl) rfl
set_option maxRecDepth 100000 in
theorem rx_e83 : rx_Ext none 83 := rx_Ext_plain (by decide +kernel)
set_option maxRecDepth 100000 in
set_option maxHeartbeats 4000000 in
theorem f_run_differs_37_ok_q1r0 {P : List Nat} {o : Int32} : ∀ (n : Nat) (v2 : Int32) (v3 : Int32) (σ : rx_St), f_run_differs_37 1 0 n v2 v3 σ = some o → rx_AtP none 83 37 [(0, .ref 57), (1, .ref 64), (2, .int v2), (3, .int v3)] [] (rx_D P σ) (some (.int o), rx_D P σ) := by
  intro n
  induction n with
  | zero => intro _ _ _ h; cases h
  | succ n ih =>
  intro v2 v3 σ h
  refine rx_walk [37] 2000 (by decide) rx_e83 ?_
  rw [f_run_differs_37] at h
  refine rr_if h (fun c44 h => ?_) (fun c44 h => ?_)
  · skip
    cases h
    exact And.intro (Or.inl rfl) rfl
  · skip
    refine rr_g h (fun c52 h => ?_)
    refine rr_g h (fun c58 h => ?_)
    refine rr_if h (fun c59 h => ?_) (fun c59 h => ?_)
    · skip
      exact rx_sub (ih _ _ _ h) [1, 2, 3, 0] rfl
    · skip
      cases h
      exact And.intro (Or.inr rfl) rfl
set_option maxRecDepth 100000 in
set_option maxHeartbeats 4000000 in
theorem f_run_differs_ok_q1r0 {P : List Nat} {a1 : Int32} {σ : rx_St} : ∀ o, f_run_differs 1 0 a1 σ = some o → rx_OK 83 [.ref 57, .ref 64, .int a1] 162 [] P σ (some (.int o), rx_D P σ) := by
  intro o h
  refine rx_OK_of (by decide) (Nat.le_of_ble_eq_true rfl) ?_
  refine rx_walk [37] 2000 (by decide) rx_e83 ?_
  unfold f_run_differs at h
  refine rr_g h (fun c5 h => ?_)
  refine rr_g h (fun c11 h => ?_)
  refine rr_if h (fun c12 h => ?_) (fun c12 h => ?_)
  · skip
    refine rr_g h (fun c20 h => ?_)
    refine rr_g h (fun c26 h => ?_)
    refine rr_if h (fun c27 h => ?_) (fun c27 h => ?_)
    · skip
      exact rx_sub (f_run_differs_37_ok_q1r0 rx_fu _ _ _ h) [1, 2, 3, 0] rfl
    · skip
      cases h
      exact And.intro (Or.inr rfl) rfl
  · skip
    cases h
    exact And.intro (Or.inr rfl) rfl
set_option maxRecDepth 100000 in
theorem rx_e86 : rx_Ext none 86 := rx_Ext_plain (by decide +kernel)
set_option maxRecDepth 100000 in
set_option maxHeartbeats 4000000 in
theorem f_tap_pack_ok {P : List Nat} {σ : rx_St} {a0 : Int64} {a1 : Int32} : ∀ o, f_tap_pack a0 a1 = o → rx_OK 86 [.long a0, .int a1] 162 [] P σ (some (.long o), rx_D P σ) := by
  intro o h
  refine rx_OK_of (by decide) (Nat.le_of_ble_eq_true rfl) ?_
  refine rx_walk [] 2000 (by decide) rx_e86 ?_
  unfold f_tap_pack at h
  cases h
  exact And.intro (rfl) rfl
set_option maxRecDepth 100000 in
theorem rx_e87 : rx_Ext none 87 := rx_Ext_plain (by decide +kernel)
set_option maxRecDepth 100000 in
set_option maxHeartbeats 4000000 in
theorem f_tap_append_3_ok {P : List Nat} {o : rx_St} : ∀ (n : Nat) (v1 : Int32) (v2 : Int32) (σ : rx_St), f_tap_append_3 n v1 v2 σ = some o → rx_AtP none 87 3 [(0, .ref 1), (1, .int v1), (2, .int v2)] [] (rx_D P σ) (none, rx_D P o) := by
  intro n
  induction n with
  | zero => intro _ _ _ h; cases h
  | succ n ih =>
  intro v1 v2 σ h
  refine rx_walk [3] 2000 (by decide) rx_e87 ?_
  rw [f_tap_append_3] at h
  refine rr_if h (fun c4 h => ?_) (fun c4 h => ?_)
  · skip
    cases h
    exact And.intro (rfl) rfl
  · skip
    refine rr_if h (fun c16 h => ?_) (fun c16 h => ?_)
    · skip
      cases h
      exact And.intro (rfl) rfl
    · skip
      refine rr_g h (fun c34 h => ?_)
      exact rx_sub (ih _ _ _ h) [1, 2, 0] rfl
set_option maxRecDepth 100000 in
set_option maxHeartbeats 4000000 in
theorem f_tap_append_ok {P : List Nat} {a0 : Int32} {σ : rx_St} : ∀ o, f_tap_append a0 σ = some o → rx_OK 87 [.ref 1, .int a0] 162 [] P σ (none, rx_D P o) := by
  intro o h
  refine rx_OK_of (by decide) (Nat.le_of_ble_eq_true rfl) ?_
  refine rx_walk [3] 2000 (by decide) rx_e87 ?_
  unfold f_tap_append at h
  exact rx_sub (f_tap_append_3_ok rx_fu _ _ _ h) [1, 2, 0] rfl
set_option maxRecDepth 100000 in
theorem rx_e91 : rx_Ext none 91 := rx_Ext_plain (by decide +kernel)
set_option maxRecDepth 100000 in
set_option maxHeartbeats 4000000 in
theorem f_tap_byteAt_ok {P : List Nat} {a0 : Int32} {σ : rx_St} : ∀ o, f_tap_byteAt a0 σ = some o → rx_OK 91 [.ref 1, .int a0] 162 [] P σ (some (.int o), rx_D P σ) := by
  intro o h
  refine rx_OK_of (by decide) (Nat.le_of_ble_eq_true rfl) ?_
  refine rx_walk [] 2000 (by decide) rx_e91 ?_
  unfold f_tap_byteAt at h
  refine rr_if h (fun c1 h => ?_) (fun c1 h => ?_)
  · skip
    cases h
    exact And.intro (trivial) rfl
  · skip
    refine rr_if h (fun c9 h => ?_) (fun c9 h => ?_)
    · skip
      cases h
      exact And.intro (trivial) rfl
    · skip
      refine rr_if h (fun c18 h => ?_) (fun c18 h => ?_)
      · skip
        cases h
        exact And.intro (trivial) rfl
      · skip
        refine rr_g h (fun c26 h => ?_)
        cases h
        exact And.intro (trivial) rfl
set_option maxRecDepth 100000 in
theorem rx_e92 : rx_Ext none 92 := rx_Ext_plain (by decide +kernel)
set_option maxRecDepth 100000 in
set_option maxHeartbeats 4000000 in
theorem f_tap_isBlank_24_ok {P : List Nat} {σ : rx_St} {o : Int32} : f_tap_isBlank_24  = o → rx_AtP none 92 24 [] [] (rx_D P σ) (some (.int o), rx_D P σ) := by
  intro h
  refine rx_walk [24] 2000 (by decide) rx_e92 ?_
  unfold f_tap_isBlank_24 at h
  cases h
  exact And.intro (Or.inr rfl) rfl
set_option maxRecDepth 100000 in
set_option maxHeartbeats 4000000 in
theorem f_tap_isBlank_ok {P : List Nat} {σ : rx_St} {a0 : Int32} : ∀ o, f_tap_isBlank a0 = o → rx_OK 92 [.int a0] 162 [] P σ (some (.int o), rx_D P σ) := by
  intro o h
  refine rx_OK_of (by decide) (Nat.le_of_ble_eq_true rfl) ?_
  refine rx_walk [24] 2000 (by decide) rx_e92 ?_
  unfold f_tap_isBlank at h
  refine rr_if h (fun c3 h => ?_) (fun c3 h => ?_)
  · skip
    exact rx_sub (f_tap_isBlank_24_ok h) [] rfl
  · skip
    refine rr_if h (fun c9 h => ?_) (fun c9 h => ?_)
    · skip
      exact rx_sub (f_tap_isBlank_24_ok h) [] rfl
    · skip
      refine rr_if h (fun c15 h => ?_) (fun c15 h => ?_)
      · skip
        exact rx_sub (f_tap_isBlank_24_ok h) [] rfl
      · skip
        refine rr_if h (fun c21 h => ?_) (fun c21 h => ?_)
        · skip
          exact rx_sub (f_tap_isBlank_24_ok h) [] rfl
        · skip
          cases h
          exact And.intro (Or.inl rfl) rfl
set_option maxRecDepth 100000 in
theorem rx_e93 : rx_Ext none 93 := rx_Ext_plain (by decide +kernel)
set_option maxRecDepth 100000 in
set_option maxHeartbeats 4000000 in
theorem f_tap_isLetter_ok {P : List Nat} {σ : rx_St} {a0 : Int32} : ∀ o, f_tap_isLetter a0 = o → rx_OK 93 [.int a0] 162 [] P σ (some (.int o), rx_D P σ) := by
  intro o h
  refine rx_OK_of (by decide) (Nat.le_of_ble_eq_true rfl) ?_
  refine rx_walk [] 2000 (by decide) rx_e93 ?_
  unfold f_tap_isLetter at h
  refine rr_if h (fun c3 h => ?_) (fun c3 h => ?_)
  · skip
    cases h
    exact And.intro (Or.inl rfl) rfl
  · skip
    refine rr_if h (fun c9 h => ?_) (fun c9 h => ?_)
    · skip
      cases h
      exact And.intro (Or.inl rfl) rfl
    · skip
      cases h
      exact And.intro (Or.inr rfl) rfl
set_option maxRecDepth 100000 in
theorem rx_e98 : rx_Ext none 98 := rx_Ext_plain (by decide +kernel)
set_option maxRecDepth 100000 in
set_option maxHeartbeats 4000000 in
theorem f_tap_wordOrName_2_ok {P : List Nat} {o : Int32} : ∀ (n : Nat) (v1 : Int64) (v3 : Int32) (σ : rx_St), f_tap_wordOrName_2 n v1 v3 σ = some o → rx_AtP none 98 2 [(0, .ref 1), (1, .long v1), (3, .int v3)] [] (rx_D P σ) (some (.int o), rx_D P σ) := by
  intro n
  induction n with
  | zero => intro _ _ _ h; cases h
  | succ n ih =>
  intro v1 v3 σ h
  refine rx_walk [2] 2000 (by decide) rx_e98 ?_
  rw [f_tap_wordOrName_2] at h
  refine rr_if h (fun c8 h => ?_) (fun c8 h => ?_)
  · skip
    cases h
    exact And.intro (trivial) rfl
  · skip
    refine rr_g h (fun c16 h => ?_)
    refine rr_if h (fun c19 h => ?_) (fun c19 h => ?_)
    · skip
      cases h
      exact And.intro (trivial) rfl
    · skip
      exact rx_sub (ih _ _ _ h) [1, 2, 0] rfl
set_option maxRecDepth 100000 in
set_option maxHeartbeats 4000000 in
theorem f_tap_wordOrName_ok {P : List Nat} {a0 : Int64} {σ : rx_St} : ∀ o, f_tap_wordOrName a0 σ = some o → rx_OK 98 [.ref 1, .long a0] 162 [] P σ (some (.int o), rx_D P σ) := by
  intro o h
  refine rx_OK_of (by decide) (Nat.le_of_ble_eq_true rfl) ?_
  refine rx_walk [2] 2000 (by decide) rx_e98 ?_
  unfold f_tap_wordOrName at h
  exact rx_sub (f_tap_wordOrName_2_ok rx_fu _ _ _ h) [1, 2, 0] rfl
set_option maxRecDepth 100000 in
theorem rx_e101 : rx_Ext none 101 := rx_Ext_plain (by decide +kernel)
set_option maxRecDepth 100000 in
set_option maxHeartbeats 4000000 in
theorem f_tap_keep_ok {P : List Nat} {a0 : Int32} {a1 : Int32} {a2 : Int64} {σ : rx_St} : ∀ o, f_tap_keep a0 a1 a2 σ = some o → rx_OK 101 [.ref 1, .int a0, .int a1, .long a2] 162 [] P σ (none, rx_D P o) := by
  intro o h
  refine rx_OK_of (by decide) (Nat.le_of_ble_eq_true rfl) ?_
  refine rx_walk [] 2000 (by decide) rx_e101 ?_
  unfold f_tap_keep at h
  refine rr_if h (fun c7 h => ?_) (fun c7 h => ?_)
  · skip
    cases h
    exact And.intro (rfl) rfl
  · skip
    refine rr_g h (fun c19 h => ?_)
    refine rr_g h (fun c29 h => ?_)
    refine rr_g h (fun c39 h => ?_)
    cases h
    exact And.intro (rfl) rfl
set_option maxRecDepth 100000 in
theorem rx_e96 : rx_Ext none 96 := rx_Ext_plain (by decide +kernel)
set_option maxRecDepth 100000 in
set_option maxHeartbeats 4000000 in
theorem f_tap_scanLetters_58_ok {P : List Nat} {o : Int32 × rx_St} : ∀ (v1 : Int32) (v2 : Int32) (v3 : Int64) (s1 : Int32) (σ : rx_St), f_tap_scanLetters_58 v1 v2 v3 s1 σ = some o → rx_AtP none 96 58 [(1, .int v1), (2, .int v2), (3, .long v3)] [.int s1, .ref 1] (rx_D P σ) (some (.int o.1), rx_D P o.2) := by
  intro v1 v2 v3 s1 σ h
  refine rx_walk [4, 39, 58] 2000 (by decide) rx_e96 ?_
  unfold f_tap_scanLetters_58 at h
  refine rr_callV h (fun y hy => f_tap_keep_ok _ hy) (fun y1 hy1 h => ?_)
  cases h
  exact And.intro (trivial) rfl
set_option maxRecDepth 100000 in
set_option maxHeartbeats 4000000 in
theorem f_tap_scanLetters_39_ok {P : List Nat} {o : Int32 × rx_St} : ∀ (v1 : Int32) (v2 : Int32) (v3 : Int64) (σ : rx_St), f_tap_scanLetters_39 v1 v2 v3 σ = some o → rx_AtP none 96 39 [(0, .ref 1), (1, .int v1), (2, .int v2), (3, .long v3)] [] (rx_D P σ) (some (.int o.1), rx_D P o.2) := by
  intro v1 v2 v3 σ h
  refine rx_walk [4, 39, 58] 2000 (by decide) rx_e96 ?_
  unfold f_tap_scanLetters_39 at h
  refine rr_if h (fun c45 h => ?_) (fun c45 h => ?_)
  · skip
    refine rr_callP h (fun y hy => f_tap_wordOrName_ok _ hy) (fun y1 hy1 h => ?_)
    exact rx_sub (f_tap_scanLetters_58_ok _ _ _ _ _ h) [1, 2, 3] rfl
  · skip
    exact rx_sub (f_tap_scanLetters_58_ok _ _ _ _ _ h) [1, 2, 3] rfl
set_option maxRecDepth 100000 in
set_option maxHeartbeats 4000000 in
theorem f_tap_scanLetters_4_ok {P : List Nat} {o : Int32 × rx_St} : ∀ (n : Nat) (v1 : Int32) (v2 : Int32) (v3 : Int64) (σ : rx_St), f_tap_scanLetters_4 n v1 v2 v3 σ = some o → rx_AtP none 96 4 [(0, .ref 1), (1, .int v1), (2, .int v2), (3, .long v3)] [] (rx_D P σ) (some (.int o.1), rx_D P o.2) := by
  intro n
  induction n with
  | zero => intro _ _ _ _ h; cases h
  | succ n ih =>
  intro v1 v2 v3 σ h
  refine rx_walk [4, 39, 58] 2000 (by decide) rx_e96 ?_
  rw [f_tap_scanLetters_4] at h
  refine rr_if h (fun c9 h => ?_) (fun c9 h => ?_)
  · skip
    exact rx_sub (f_tap_scanLetters_39_ok _ _ _ _ h) [0, 1, 2, 3] rfl
  · skip
    refine rr_callP h (fun y hy => f_tap_byteAt_ok _ hy) (fun y1 hy1 h => ?_)
    refine rr_callT (f_tap_isLetter_ok _ rfl) ?_
    refine rr_if h (fun c20 h => ?_) (fun c20 h => ?_)
    · skip
      exact rx_sub (f_tap_scanLetters_39_ok _ _ _ _ h) [0, 1, 2, 3] rfl
    · skip
      refine rr_callP h (fun y hy => f_tap_byteAt_ok _ hy) (fun y2 hy2 h => ?_)
      refine rr_callT (f_tap_pack_ok _ rfl) ?_
      exact rx_sub (ih _ _ _ _ h) [2, 3, 0, 1] rfl
set_option maxRecDepth 100000 in
set_option maxHeartbeats 4000000 in
theorem f_tap_scanLetters_ok {P : List Nat} {a0 : Int32} {σ : rx_St} : ∀ o, f_tap_scanLetters a0 σ = some o → rx_OK 96 [.ref 1, .int a0] 162 [] P σ (some (.int o.1), rx_D P o.2) := by
  intro o h
  refine rx_OK_of (by decide) (Nat.le_of_ble_eq_true rfl) ?_
  refine rx_walk [4, 39, 58] 2000 (by decide) rx_e96 ?_
  unfold f_tap_scanLetters at h
  exact rx_sub (f_tap_scanLetters_4_ok rx_fu _ _ _ _ h) [2, 3, 1, 0] rfl
set_option maxRecDepth 100000 in
theorem rx_e94 : rx_Ext none 94 := rx_Ext_plain (by decide +kernel)
set_option maxRecDepth 100000 in
set_option maxHeartbeats 4000000 in
theorem f_tap_isDigit_ok {P : List Nat} {σ : rx_St} {a0 : Int32} : ∀ o, f_tap_isDigit a0 = o → rx_OK 94 [.int a0] 162 [] P σ (some (.int o), rx_D P σ) := by
  intro o h
  refine rx_OK_of (by decide) (Nat.le_of_ble_eq_true rfl) ?_
  refine rx_walk [] 2000 (by decide) rx_e94 ?_
  unfold f_tap_isDigit at h
  refine rr_if h (fun c3 h => ?_) (fun c3 h => ?_)
  · skip
    cases h
    exact And.intro (Or.inl rfl) rfl
  · skip
    refine rr_if h (fun c9 h => ?_) (fun c9 h => ?_)
    · skip
      cases h
      exact And.intro (Or.inl rfl) rfl
    · skip
      cases h
      exact And.intro (Or.inr rfl) rfl
set_option maxRecDepth 100000 in
theorem rx_e97 : rx_Ext none 97 := rx_Ext_plain (by decide +kernel)
set_option maxRecDepth 100000 in
set_option maxHeartbeats 4000000 in
theorem f_tap_scanDigits_60_ok {P : List Nat} {o : Int32 × rx_St} : ∀ (v1 : Int32) (v2 : Int32) (v3 : Int64) (s1 : Int32) (σ : rx_St), f_tap_scanDigits_60 v1 v2 v3 s1 σ = some o → rx_AtP none 97 60 [(1, .int v1), (2, .int v2), (3, .long v3)] [.int s1, .ref 1] (rx_D P σ) (some (.int o.1), rx_D P o.2) := by
  intro v1 v2 v3 s1 σ h
  refine rx_walk [4, 45, 60] 2000 (by decide) rx_e97 ?_
  unfold f_tap_scanDigits_60 at h
  refine rr_callV h (fun y hy => f_tap_keep_ok _ hy) (fun y1 hy1 h => ?_)
  cases h
  exact And.intro (trivial) rfl
set_option maxRecDepth 100000 in
set_option maxHeartbeats 4000000 in
theorem f_tap_scanDigits_45_ok {P : List Nat} {o : Int32 × rx_St} : ∀ (v1 : Int32) (v2 : Int32) (v3 : Int64) (σ : rx_St), f_tap_scanDigits_45 v1 v2 v3 σ = some o → rx_AtP none 97 45 [(0, .ref 1), (1, .int v1), (2, .int v2), (3, .long v3)] [] (rx_D P σ) (some (.int o.1), rx_D P o.2) := by
  intro v1 v2 v3 σ h
  refine rx_walk [4, 45, 60] 2000 (by decide) rx_e97 ?_
  unfold f_tap_scanDigits_45 at h
  refine rr_if h (fun c50 h => ?_) (fun c50 h => ?_)
  · skip
    exact rx_sub (f_tap_scanDigits_60_ok _ _ _ _ _ h) [1, 2, 3] rfl
  · skip
    exact rx_sub (f_tap_scanDigits_60_ok _ _ _ _ _ h) [1, 2, 3] rfl
set_option maxRecDepth 100000 in
set_option maxHeartbeats 4000000 in
theorem f_tap_scanDigits_4_ok {P : List Nat} {o : Int32 × rx_St} : ∀ (n : Nat) (v1 : Int32) (v2 : Int32) (v3 : Int64) (σ : rx_St), f_tap_scanDigits_4 n v1 v2 v3 σ = some o → rx_AtP none 97 4 [(0, .ref 1), (1, .int v1), (2, .int v2), (3, .long v3)] [] (rx_D P σ) (some (.int o.1), rx_D P o.2) := by
  intro n
  induction n with
  | zero => intro _ _ _ _ h; cases h
  | succ n ih =>
  intro v1 v2 v3 σ h
  refine rx_walk [4, 45, 60] 2000 (by decide) rx_e97 ?_
  rw [f_tap_scanDigits_4] at h
  refine rr_if h (fun c9 h => ?_) (fun c9 h => ?_)
  · skip
    exact rx_sub (f_tap_scanDigits_45_ok _ _ _ _ h) [0, 1, 2, 3] rfl
  · skip
    refine rr_callP h (fun y hy => f_tap_byteAt_ok _ hy) (fun y1 hy1 h => ?_)
    refine rr_callT (f_tap_isDigit_ok _ rfl) ?_
    refine rr_if h (fun c20 h => ?_) (fun c20 h => ?_)
    · skip
      exact rx_sub (f_tap_scanDigits_45_ok _ _ _ _ h) [0, 1, 2, 3] rfl
    · skip
      refine rr_callP h (fun y hy => f_tap_byteAt_ok _ hy) (fun y2 hy2 h => ?_)
      exact rx_sub (ih _ _ _ _ h) [2, 3, 0, 1] rfl
set_option maxRecDepth 100000 in
set_option maxHeartbeats 4000000 in
theorem f_tap_scanDigits_ok {P : List Nat} {a0 : Int32} {σ : rx_St} : ∀ o, f_tap_scanDigits a0 σ = some o → rx_OK 97 [.ref 1, .int a0] 162 [] P σ (some (.int o.1), rx_D P o.2) := by
  intro o h
  refine rx_OK_of (by decide) (Nat.le_of_ble_eq_true rfl) ?_
  refine rx_walk [4, 45, 60] 2000 (by decide) rx_e97 ?_
  unfold f_tap_scanDigits at h
  exact rx_sub (f_tap_scanDigits_4_ok rx_fu _ _ _ _ h) [2, 3, 1, 0] rfl
set_option maxRecDepth 100000 in
theorem rx_e99 : rx_Ext none 99 := rx_Ext_plain (by decide +kernel)
set_option maxRecDepth 100000 in
set_option maxHeartbeats 4000000 in
theorem f_tap_doubleSign_ok {P : List Nat} {σ : rx_St} {a0 : Int32} : ∀ o, f_tap_doubleSign a0 = o → rx_OK 99 [.int a0] 162 [] P σ (some (.int o), rx_D P σ) := by
  intro o h
  refine rx_OK_of (by decide) (Nat.le_of_ble_eq_true rfl) ?_
  refine rx_walk [] 2000 (by decide) rx_e99 ?_
  unfold f_tap_doubleSign at h
  refine rr_if h (fun c1_0 h => ?_) (fun c1_0 h => ?_)
  · skip
    cases h
    exact And.intro (trivial) rfl
  · skip
    refine rr_if h (fun c1_1 h => ?_) (fun c1_1 h => ?_)
    · skip
      cases h
      exact And.intro (trivial) rfl
    · skip
      refine rr_if h (fun c1_2 h => ?_) (fun c1_2 h => ?_)
      · skip
        cases h
        exact And.intro (trivial) rfl
      · skip
        cases h
        exact And.intro (trivial) rfl
set_option maxRecDepth 100000 in
theorem rx_e100 : rx_Ext none 100 := rx_Ext_plain (by decide +kernel)
set_option maxRecDepth 100000 in
set_option maxHeartbeats 4000000 in
theorem f_tap_singleSign_ok {P : List Nat} {σ : rx_St} {a0 : Int32} : ∀ o, f_tap_singleSign a0 = o → rx_OK 100 [.int a0] 162 [] P σ (some (.int o), rx_D P σ) := by
  intro o h
  refine rx_OK_of (by decide) (Nat.le_of_ble_eq_true rfl) ?_
  refine rx_walk [] 2000 (by decide) rx_e100 ?_
  unfold f_tap_singleSign at h
  refine rr_if h (fun c1_0 h => ?_) (fun c1_0 h => ?_)
  · skip
    cases h
    exact And.intro (trivial) rfl
  · skip
    refine rr_if h (fun c1_1 h => ?_) (fun c1_1 h => ?_)
    · skip
      cases h
      exact And.intro (trivial) rfl
    · skip
      refine rr_if h (fun c1_2 h => ?_) (fun c1_2 h => ?_)
      · skip
        cases h
        exact And.intro (trivial) rfl
      · skip
        refine rr_if h (fun c1_3 h => ?_) (fun c1_3 h => ?_)
        · skip
          cases h
          exact And.intro (trivial) rfl
        · skip
          refine rr_if h (fun c1_4 h => ?_) (fun c1_4 h => ?_)
          · skip
            cases h
            exact And.intro (trivial) rfl
          · skip
            refine rr_if h (fun c1_5 h => ?_) (fun c1_5 h => ?_)
            · skip
              cases h
              exact And.intro (trivial) rfl
            · skip
              refine rr_if h (fun c1_6 h => ?_) (fun c1_6 h => ?_)
              · skip
                cases h
                exact And.intro (trivial) rfl
              · skip
                refine rr_if h (fun c1_7 h => ?_) (fun c1_7 h => ?_)
                · skip
                  cases h
                  exact And.intro (trivial) rfl
                · skip
                  refine rr_if h (fun c1_8 h => ?_) (fun c1_8 h => ?_)
                  · skip
                    cases h
                    exact And.intro (trivial) rfl
                  · skip
                    refine rr_if h (fun c1_9 h => ?_) (fun c1_9 h => ?_)
                    · skip
                      cases h
                      exact And.intro (trivial) rfl
                    · skip
                      refine rr_if h (fun c1_10 h => ?_) (fun c1_10 h => ?_)
                      · skip
                        cases h
                        exact And.intro (trivial) rfl
                      · skip
                        refine rr_if h (fun c1_11 h => ?_) (fun c1_11 h => ?_)
                        · skip
                          cases h
                          exact And.intro (trivial) rfl
                        · skip
                          refine rr_if h (fun c1_12 h => ?_) (fun c1_12 h => ?_)
                          · skip
                            cases h
                            exact And.intro (trivial) rfl
                          · skip
                            refine rr_if h (fun c1_13 h => ?_) (fun c1_13 h => ?_)
                            · skip
                              cases h
                              exact And.intro (trivial) rfl
                            · skip
                              refine rr_if h (fun c1_14 h => ?_) (fun c1_14 h => ?_)
                              · skip
                                cases h
                                exact And.intro (trivial) rfl
                              · skip
                                refine rr_if h (fun c1_15 h => ?_) (fun c1_15 h => ?_)
                                · skip
                                  cases h
                                  exact And.intro (trivial) rfl
                                · skip
                                  refine rr_if h (fun c1_16 h => ?_) (fun c1_16 h => ?_)
                                  · skip
                                    cases h
                                    exact And.intro (trivial) rfl
                                  · skip
                                    refine rr_if h (fun c1_17 h => ?_) (fun c1_17 h => ?_)
                                    · skip
                                      cases h
                                      exact And.intro (trivial) rfl
                                    · skip
                                      refine rr_if h (fun c1_18 h => ?_) (fun c1_18 h => ?_)
                                      · skip
                                        cases h
                                        exact And.intro (trivial) rfl
                                      · skip
                                        refine rr_if h (fun c1_19 h => ?_) (fun c1_19 h => ?_)
                                        · skip
                                          cases h
                                          exact And.intro (trivial) rfl
                                        · skip
                                          refine rr_if h (fun c1_20 h => ?_) (fun c1_20 h => ?_)
                                          · skip
                                            cases h
                                            exact And.intro (trivial) rfl
                                          · skip
                                            refine rr_if h (fun c1_21 h => ?_) (fun c1_21 h => ?_)
                                            · skip
                                              cases h
                                              exact And.intro (trivial) rfl
                                            · skip
                                              cases h
                                              exact And.intro (trivial) rfl
set_option maxRecDepth 100000 in
theorem rx_e95 : rx_Ext none 95 := rx_Ext_plain (by decide +kernel)
set_option maxRecDepth 100000 in
set_option maxHeartbeats 4000000 in
theorem f_tap_scanToken_96_ok {P : List Nat} {o : Int32 × rx_St} : ∀ (v1 : Int32) (v5 : Int32) (s1 : Int32) (σ : rx_St), f_tap_scanToken_96 v1 v5 s1 σ = some o → rx_AtP none 95 96 [(1, .int v1), (5, .int v5)] [.int s1, .ref 1] (rx_D P σ) (some (.int o.1), rx_D P o.2) := by
  intro v1 v5 s1 σ h
  refine rx_walk [49, 63, 77, 96] 2000 (by decide) rx_e95 ?_
  unfold f_tap_scanToken_96 at h
  refine rr_callV h (fun y hy => f_tap_keep_ok _ hy) (fun y1 hy1 h => ?_)
  cases h
  exact And.intro (trivial) rfl
set_option maxRecDepth 100000 in
set_option maxHeartbeats 4000000 in
theorem f_tap_scanToken_77_ok {P : List Nat} {o : Int32 × rx_St} : ∀ (v1 : Int32) (v2 : Int32) (v4 : Int32) (s0 : Int32) (σ : rx_St), f_tap_scanToken_77 v1 v2 v4 s0 σ = some o → rx_AtP none 95 77 [(0, .ref 1), (1, .int v1), (2, .int v2), (4, .int v4)] [.int s0] (rx_D P σ) (some (.int o.1), rx_D P o.2) := by
  intro v1 v2 v4 s0 σ h
  refine rx_walk [49, 63, 77, 96] 2000 (by decide) rx_e95 ?_
  unfold f_tap_scanToken_77 at h
  refine rr_if h (fun c84 h => ?_) (fun c84 h => ?_)
  · skip
    refine rr_callT (f_tap_singleSign_ok _ rfl) ?_
    exact rx_sub (f_tap_scanToken_96_ok _ _ _ _ h) [2, 0] rfl
  · skip
    exact rx_sub (f_tap_scanToken_96_ok _ _ _ _ h) [2, 0] rfl
set_option maxRecDepth 100000 in
set_option maxHeartbeats 4000000 in
theorem f_tap_scanToken_63_ok {P : List Nat} {o : Int32 × rx_St} : ∀ (v1 : Int32) (v2 : Int32) (s0 : Int32) (σ : rx_St), f_tap_scanToken_63 v1 v2 s0 σ = some o → rx_AtP none 95 63 [(0, .ref 1), (1, .int v1), (2, .int v2)] [.int s0] (rx_D P σ) (some (.int o.1), rx_D P o.2) := by
  intro v1 v2 s0 σ h
  refine rx_walk [49, 63, 77, 96] 2000 (by decide) rx_e95 ?_
  unfold f_tap_scanToken_63 at h
  refine rr_if h (fun c69 h => ?_) (fun c69 h => ?_)
  · skip
    exact rx_sub (f_tap_scanToken_77_ok _ _ _ _ _ h) [1, 2, 3, 0] rfl
  · skip
    exact rx_sub (f_tap_scanToken_77_ok _ _ _ _ _ h) [1, 2, 3, 0] rfl
set_option maxRecDepth 100000 in
set_option maxHeartbeats 4000000 in
theorem f_tap_scanToken_49_ok {P : List Nat} {o : Int32 × rx_St} : ∀ (v1 : Int32) (v2 : Int32) (s0 : Int32) (σ : rx_St), f_tap_scanToken_49 v1 v2 s0 σ = some o → rx_AtP none 95 49 [(0, .ref 1), (1, .int v1), (2, .int v2)] [.int s0] (rx_D P σ) (some (.int o.1), rx_D P o.2) := by
  intro v1 v2 s0 σ h
  refine rx_walk [49, 63, 77, 96] 2000 (by decide) rx_e95 ?_
  unfold f_tap_scanToken_49 at h
  refine rr_if h (fun c51 h => ?_) (fun c51 h => ?_)
  · skip
    exact rx_sub (f_tap_scanToken_63_ok _ _ _ _ h) [1, 2, 3] rfl
  · skip
    refine rr_callT (f_tap_doubleSign_ok _ rfl) ?_
    exact rx_sub (f_tap_scanToken_63_ok _ _ _ _ h) [1, 2, 3] rfl
set_option maxRecDepth 100000 in
set_option maxHeartbeats 4000000 in
theorem f_tap_scanToken_ok {P : List Nat} {a0 : Int32} {σ : rx_St} : ∀ o, f_tap_scanToken a0 σ = some o → rx_OK 95 [.ref 1, .int a0] 162 [] P σ (some (.int o.1), rx_D P o.2) := by
  intro o h
  refine rx_OK_of (by decide) (Nat.le_of_ble_eq_true rfl) ?_
  refine rx_walk [49, 63, 77, 96] 2000 (by decide) rx_e95 ?_
  unfold f_tap_scanToken at h
  refine rr_callP h (fun y hy => f_tap_byteAt_ok _ hy) (fun y1 hy1 h => ?_)
  refine rr_callT (f_tap_isLetter_ok _ rfl) ?_
  refine rr_if h (fun c10 h => ?_) (fun c10 h => ?_)
  · skip
    refine rr_callT (f_tap_isDigit_ok _ rfl) ?_
    refine rr_if h (fun c23 h => ?_) (fun c23 h => ?_)
    · skip
      refine rr_callP h (fun y hy => f_tap_byteAt_ok _ hy) (fun y2 hy2 h => ?_)
      refine rr_if h (fun c41 h => ?_) (fun c41 h => ?_)
      · skip
        exact rx_sub (f_tap_scanToken_49_ok _ _ _ _ h) [1, 2, 0] rfl
      · skip
        exact rx_sub (f_tap_scanToken_49_ok _ _ _ _ h) [1, 2, 0] rfl
    · skip
      refine rr_callS h (fun y hy => f_tap_scanDigits_ok _ hy) (fun y3 hy3 h => ?_)
      cases h
      exact And.intro (trivial) rfl
  · skip
    refine rr_callS h (fun y hy => f_tap_scanLetters_ok _ hy) (fun y4 hy4 h => ?_)
    cases h
    exact And.intro (trivial) rfl
set_option maxRecDepth 100000 in
theorem rx_e90 : rx_Ext none 90 := rx_Ext_plain (by decide +kernel)
set_option maxRecDepth 100000 in
set_option maxHeartbeats 4000000 in
theorem f_tap_scan_57_ok {P : List Nat} {o : rx_St} : ∀ (σ : rx_St), f_tap_scan_57 σ = some o → rx_AtP none 90 57 [(0, .ref 1)] [] (rx_D P σ) (none, rx_D P o) := by
  intro σ h
  refine rx_walk [7, 45, 57] 2000 (by decide) rx_e90 ?_
  unfold f_tap_scan_57 at h
  refine rr_g h (fun c67 h => ?_)
  refine rr_g h (fun c80 h => ?_)
  cases h
  exact And.intro (rfl) rfl
set_option maxRecDepth 100000 in
set_option maxHeartbeats 4000000 in
theorem f_tap_scan_45_ok {P : List Nat} {o : rx_St} {k7 : Int32 → rx_St → Option (rx_St)} (hk7 : ∀ (v1 : Int32) (σ : rx_St), k7 v1 σ = some o → rx_AtP none 90 7 [(0, .ref 1), (1, .int v1)] [] (rx_D P σ) (none, rx_D P o)) : ∀ (v1 : Int32) (s0 : Int32) (σ : rx_St), f_tap_scan_45 k7 v1 s0 σ = some o → rx_AtP none 90 45 [(0, .ref 1), (1, .int v1)] [.int s0] (rx_D P σ) (none, rx_D P o) := by
  intro v1 s0 σ h
  refine rx_walk [7, 45, 57] 2000 (by decide) rx_e90 ?_
  unfold f_tap_scan_45 at h
  refine rr_callT (f_j_max_ok _ rfl) ?_
  exact rx_sub (hk7 _ _ h) [2, 0] rfl
set_option maxRecDepth 100000 in
set_option maxHeartbeats 4000000 in
theorem f_tap_scan_7_ok {P : List Nat} {o : rx_St} : ∀ (n : Nat) (v1 : Int32) (σ : rx_St), f_tap_scan_7 n v1 σ = some o → rx_AtP none 90 7 [(0, .ref 1), (1, .int v1)] [] (rx_D P σ) (none, rx_D P o) := by
  intro n
  induction n with
  | zero => intro _ _ h; cases h
  | succ n ih =>
  intro v1 σ h
  refine rx_walk [7, 45, 57] 2000 (by decide) rx_e90 ?_
  rw [f_tap_scan_7] at h
  refine rr_if h (fun c12 h => ?_) (fun c12 h => ?_)
  · skip
    exact rx_sub (f_tap_scan_57_ok _ h) [0] rfl
  · skip
    refine rr_if h (fun c22 h => ?_) (fun c22 h => ?_)
    · skip
      exact rx_sub (f_tap_scan_57_ok _ h) [0] rfl
    · skip
      refine rr_callP h (fun y hy => f_tap_byteAt_ok _ hy) (fun y1 hy1 h => ?_)
      refine rr_callT (f_tap_isBlank_ok _ rfl) ?_
      refine rr_if h (fun c33 h => ?_) (fun c33 h => ?_)
      · skip
        refine rr_callS h (fun y hy => f_tap_scanToken_ok _ hy) (fun y2 hy2 h => ?_)
        exact rx_sub (f_tap_scan_45_ok ih _ _ _ h) [0, 1] rfl
      · skip
        exact rx_sub (f_tap_scan_45_ok ih _ _ _ h) [0, 1] rfl
set_option maxRecDepth 100000 in
set_option maxHeartbeats 4000000 in
theorem f_tap_scan_ok {P : List Nat} {σ : rx_St} : ∀ o, f_tap_scan σ = some o → rx_OK 90 [.ref 1] 162 [] P σ (none, rx_D P o) := by
  intro o h
  refine rx_OK_of (by decide) (Nat.le_of_ble_eq_true rfl) ?_
  refine rx_walk [7, 45, 57] 2000 (by decide) rx_e90 ?_
  unfold f_tap_scan at h
  exact rx_sub (f_tap_scan_7_ok rx_fu _ _ h) [1, 0] rfl
set_option maxRecDepth 100000 in
theorem rx_e103 : rx_Ext none 103 := rx_Ext_plain (by decide +kernel)
set_option maxRecDepth 100000 in
set_option maxHeartbeats 4000000 in
theorem f_tow_moveTo_12_ok_w0 {p0 p1 p2 p3 : Nat} {o : rx_St} : ∀ (n : Nat) (v2 : Int32) (σ : rx_St), f_tow_moveTo_12 0 n v2 σ = some o → rx_AtP none 103 12 [(0, .ref 38), (2, .int v2)] [] (rx_D [p0, p1, p2, p3, 7] σ) (none, rx_D [p0, p1, p2, p3, 7] o) := by
  intro n
  induction n with
  | zero => intro _ _ h; cases h
  | succ n ih =>
  intro v2 σ h
  refine rx_walk [12] 2000 (by decide) rx_e103 ?_
  rw [f_tow_moveTo_12] at h
  refine rr_if h (fun c20 h => ?_) (fun c20 h => ?_)
  · skip
    cases h
    exact And.intro (rfl) rfl
  · skip
    refine rr_g h (fun c36 h => ?_)
    refine rr_g h (fun c37 h => ?_)
    exact rx_sub (ih _ _ h) [1, 0] rfl
set_option maxRecDepth 100000 in
set_option maxHeartbeats 4000000 in
theorem f_tow_moveTo_ok_w0 {p0 p1 p2 p3 p4 : Nat} {σ : rx_St} : ∀ o, f_tow_moveTo 0 σ = some o → rx_OK 103 [.ref 38, .ref 7] 162 [] [p0, p1, p2, p3, p4] σ (none, rx_D [p0, p1, p2, p3, 7] o) := by
  intro o h
  refine rx_OK_of (by decide) (Nat.le_of_ble_eq_true rfl) ?_
  refine rx_walk [12] 2000 (by decide) rx_e103 ?_
  unfold f_tow_moveTo at h
  exact rx_sub (f_tow_moveTo_12_ok_w0 rx_fu _ _ h) [1, 0] rfl
set_option maxRecDepth 100000 in
set_option maxHeartbeats 4000000 in
theorem f_tow_moveTo_12_ok_w1 {p0 p1 p2 p3 : Nat} {o : rx_St} : ∀ (n : Nat) (v2 : Int32) (σ : rx_St), f_tow_moveTo_12 1 n v2 σ = some o → rx_AtP none 103 12 [(0, .ref 38), (2, .int v2)] [] (rx_D [p0, p1, p2, p3, 21] σ) (none, rx_D [p0, p1, p2, p3, 21] o) := by
  intro n
  induction n with
  | zero => intro _ _ h; cases h
  | succ n ih =>
  intro v2 σ h
  refine rx_walk [12] 2000 (by decide) rx_e103 ?_
  rw [f_tow_moveTo_12] at h
  refine rr_if h (fun c20 h => ?_) (fun c20 h => ?_)
  · skip
    cases h
    exact And.intro (rfl) rfl
  · skip
    refine rr_g h (fun c36 h => ?_)
    refine rr_g h (fun c37 h => ?_)
    exact rx_sub (ih _ _ h) [1, 0] rfl
set_option maxRecDepth 100000 in
set_option maxHeartbeats 4000000 in
theorem f_tow_moveTo_ok_w1 {p0 p1 p2 p3 p4 : Nat} {σ : rx_St} : ∀ o, f_tow_moveTo 1 σ = some o → rx_OK 103 [.ref 38, .ref 21] 162 [] [p0, p1, p2, p3, p4] σ (none, rx_D [p0, p1, p2, p3, 21] o) := by
  intro o h
  refine rx_OK_of (by decide) (Nat.le_of_ble_eq_true rfl) ?_
  refine rx_walk [12] 2000 (by decide) rx_e103 ?_
  unfold f_tow_moveTo at h
  exact rx_sub (f_tow_moveTo_12_ok_w1 rx_fu _ _ h) [1, 0] rfl
set_option maxRecDepth 100000 in
theorem rx_e116 : rx_Ext none 116 := rx_Ext_plain (by decide +kernel)
set_option maxRecDepth 100000 in
set_option maxHeartbeats 4000000 in
theorem f_wor_hasVar_ok_w1 {P : List Nat} {a0 : Int32} {a1 : Int32} {σ : rx_St} : ∀ o, f_wor_hasVar 1 a0 a1 σ = some o → rx_OK 116 [.ref 21, .int a0, .int a1] 162 [] P σ (some (.int o), rx_D P σ) := by
  intro o h
  refine rx_OK_of (by decide) (Nat.le_of_ble_eq_true rfl) ?_
  refine rx_walk [] 2000 (by decide) rx_e116 ?_
  unfold f_wor_hasVar at h
  refine rr_callT (f_wor_hasKind_ok_w1 _ rfl) ?_
  refine rr_if h (fun c5 h => ?_) (fun c5 h => ?_)
  · skip
    cases h
    exact And.intro (Or.inl rfl) rfl
  · skip
    refine rr_if h (fun c9 h => ?_) (fun c9 h => ?_)
    · skip
      cases h
      exact And.intro (Or.inl rfl) rfl
    · skip
      refine rr_g h (fun c18 h => ?_)
      refine rr_if h (fun c19 h => ?_) (fun c19 h => ?_)
      · skip
        cases h
        exact And.intro (Or.inl rfl) rfl
      · skip
        cases h
        exact And.intro (Or.inr rfl) rfl
set_option maxRecDepth 100000 in
set_option maxHeartbeats 4000000 in
theorem f_wor_hasVar_ok_w0 {P : List Nat} {a0 : Int32} {a1 : Int32} {σ : rx_St} : ∀ o, f_wor_hasVar 0 a0 a1 σ = some o → rx_OK 116 [.ref 7, .int a0, .int a1] 162 [] P σ (some (.int o), rx_D P σ) := by
  intro o h
  refine rx_OK_of (by decide) (Nat.le_of_ble_eq_true rfl) ?_
  refine rx_walk [] 2000 (by decide) rx_e116 ?_
  unfold f_wor_hasVar at h
  refine rr_callT (f_wor_hasKind_ok_w0 _ rfl) ?_
  refine rr_if h (fun c5 h => ?_) (fun c5 h => ?_)
  · skip
    cases h
    exact And.intro (Or.inl rfl) rfl
  · skip
    refine rr_if h (fun c9 h => ?_) (fun c9 h => ?_)
    · skip
      cases h
      exact And.intro (Or.inl rfl) rfl
    · skip
      refine rr_g h (fun c18 h => ?_)
      refine rr_if h (fun c19 h => ?_) (fun c19 h => ?_)
      · skip
        cases h
        exact And.intro (Or.inl rfl) rfl
      · skip
        cases h
        exact And.intro (Or.inr rfl) rfl
set_option maxRecDepth 100000 in
theorem rx_e105 : rx_Ext none 105 := rx_Ext_plain (by decide +kernel)
set_option maxRecDepth 100000 in
set_option maxHeartbeats 4000000 in
theorem f_tow_oneHasVar_ok_w1 {p0 p1 p2 p3 : Nat} {a0 : Int32} {a1 : Int32} {σ : rx_St} : ∀ o, f_tow_oneHasVar 1 a0 a1 σ = some o → rx_OK 105 [.ref 38, .int a0, .int a1] 162 [] [p0, p1, p2, p3, 21] σ (some (.int o), rx_D [p0, p1, p2, p3, 21] σ) := by
  intro o h
  refine rx_OK_of (by decide) (Nat.le_of_ble_eq_true rfl) ?_
  refine rx_walk [] 2000 (by decide) rx_e105 ?_
  unfold f_tow_oneHasVar at h
  refine rr_callT (f_tow_hasOne_ok _ rfl) ?_
  refine rr_if h (fun c5 h => ?_) (fun c5 h => ?_)
  · skip
    cases h
    exact And.intro (Or.inl rfl) rfl
  · skip
    refine rr_g h (fun c17 h => ?_)
    refine rr_callP h (fun y hy => f_wor_hasVar_ok_w1 _ hy) (fun y1 hy1 h => ?_)
    refine rr_if h (fun c22 h => ?_) (fun c22 h => ?_)
    · skip
      cases h
      exact And.intro (Or.inl rfl) rfl
    · skip
      cases h
      exact And.intro (Or.inr rfl) rfl
set_option maxRecDepth 100000 in
set_option maxHeartbeats 4000000 in
theorem f_tow_oneHasVar_ok_w0 {p0 p1 p2 p3 : Nat} {a0 : Int32} {a1 : Int32} {σ : rx_St} : ∀ o, f_tow_oneHasVar 0 a0 a1 σ = some o → rx_OK 105 [.ref 38, .int a0, .int a1] 162 [] [p0, p1, p2, p3, 7] σ (some (.int o), rx_D [p0, p1, p2, p3, 7] σ) := by
  intro o h
  refine rx_OK_of (by decide) (Nat.le_of_ble_eq_true rfl) ?_
  refine rx_walk [] 2000 (by decide) rx_e105 ?_
  unfold f_tow_oneHasVar at h
  refine rr_callT (f_tow_hasOne_ok _ rfl) ?_
  refine rr_if h (fun c5 h => ?_) (fun c5 h => ?_)
  · skip
    cases h
    exact And.intro (Or.inl rfl) rfl
  · skip
    refine rr_g h (fun c17 h => ?_)
    refine rr_callP h (fun y hy => f_wor_hasVar_ok_w0 _ hy) (fun y1 hy1 h => ?_)
    refine rr_if h (fun c22 h => ?_) (fun c22 h => ?_)
    · skip
      cases h
      exact And.intro (Or.inl rfl) rfl
    · skip
      cases h
      exact And.intro (Or.inr rfl) rfl
set_option maxRecDepth 100000 in
theorem rx_e106 : rx_Ext none 106 := rx_Ext_plain (by decide +kernel)
set_option maxRecDepth 100000 in
set_option maxHeartbeats 4000000 in
theorem f_tow_putSetting_ok_w1 {p0 p1 p2 p3 : Nat} {a0 : Int32} {a1 : Int32} {σ : rx_St} : ∀ o, f_tow_putSetting 1 a0 a1 σ = some o → rx_OK 106 [.ref 38, .int a0, .int a1] 162 [] [p0, p1, p2, p3, 21] σ (some (.int o.1), rx_D [p0, p1, p2, p3, 21] o.2) := by
  intro o h
  refine rx_OK_of (by decide) (Nat.le_of_ble_eq_true rfl) ?_
  refine rx_walk [] 2000 (by decide) rx_e106 ?_
  unfold f_tow_putSetting at h
  refine rr_callT (f_wor_hasSetting_ok_w1 _ rfl) ?_
  refine rr_if h (fun c8 h => ?_) (fun c8 h => ?_)
  · skip
    cases h
    exact And.intro (Or.inl rfl) rfl
  · skip
    refine rr_callT (f_c_isNumber_ok _ rfl) ?_
    refine rr_if h (fun c15 h => ?_) (fun c15 h => ?_)
    · skip
      cases h
      exact And.intro (Or.inl rfl) rfl
    · skip
      refine rr_g h (fun c26 h => ?_)
      cases h
      exact And.intro (Or.inr rfl) rfl
theorem f_tow_putSetting_b {w : Nat} {a b : Int32} {σ : rx_St} {y : Int32 × rx_St} (h : f_tow_putSetting w a b σ = some y) : y.1 = 0 ∨ y.1 = 1 := by
  unfold f_tow_putSetting at h
  split at h
  · cases h; exact Or.inl rfl
  · split at h
    · cases h; exact Or.inl rfl
    · unfold rx_g at h
      split at h
      · cases h
      · cases h; exact Or.inr rfl
set_option maxRecDepth 100000 in
set_option maxHeartbeats 4000000 in
theorem f_tow_putSetting_ok_w0 {p0 p1 p2 p3 : Nat} {a0 : Int32} {a1 : Int32} {σ : rx_St} : ∀ o, f_tow_putSetting 0 a0 a1 σ = some o → rx_OK 106 [.ref 38, .int a0, .int a1] 162 [] [p0, p1, p2, p3, 7] σ (some (.int o.1), rx_D [p0, p1, p2, p3, 7] o.2) := by
  intro o h
  refine rx_OK_of (by decide) (Nat.le_of_ble_eq_true rfl) ?_
  refine rx_walk [] 2000 (by decide) rx_e106 ?_
  unfold f_tow_putSetting at h
  refine rr_callT (f_wor_hasSetting_ok_w0 _ rfl) ?_
  refine rr_if h (fun c8 h => ?_) (fun c8 h => ?_)
  · skip
    cases h
    exact And.intro (Or.inl rfl) rfl
  · skip
    refine rr_callT (f_c_isNumber_ok _ rfl) ?_
    refine rr_if h (fun c15 h => ?_) (fun c15 h => ?_)
    · skip
      cases h
      exact And.intro (Or.inl rfl) rfl
    · skip
      refine rr_g h (fun c26 h => ?_)
      cases h
      exact And.intro (Or.inr rfl) rfl
set_option maxRecDepth 100000 in
theorem rx_e107 : rx_Ext none 107 := rx_Ext_plain (by decide +kernel)
set_option maxRecDepth 100000 in
set_option maxHeartbeats 4000000 in
theorem f_tow_addOne_76_ok_w1 {p0 p1 p2 p3 : Nat} {o : Int32 × rx_St} : ∀ (n : Nat) (v1 : Int32) (v4 : Int32) (σ : rx_St), f_tow_addOne_76 1 n v1 v4 σ = some o → rx_AtP none 107 76 [(0, .ref 38), (1, .int v1), (4, .int v4)] [] (rx_D [p0, p1, p2, p3, 21] σ) (some (.int o.1), rx_D [p0, p1, p2, p3, 21] o.2) := by
  intro n
  induction n with
  | zero => intro _ _ _ h; cases h
  | succ n ih =>
  intro v1 v4 σ h
  refine rx_walk [76] 2000 (by decide) rx_e107 ?_
  rw [f_tow_addOne_76] at h
  refine rr_if h (fun c80 h => ?_) (fun c80 h => ?_)
  · skip
    cases h
    exact And.intro (trivial) rfl
  · skip
    refine rr_g h (fun c111 h => ?_)
    refine rr_g h (fun c112 h => ?_)
    exact rx_sub (ih _ _ _ h) [1, 2, 0] rfl
set_option maxRecDepth 100000 in
set_option maxHeartbeats 4000000 in
theorem f_tow_addOne_ok_w1 {p0 p1 p2 p3 : Nat} {a0 : Int32} {a1 : Int32} {a2 : Int32} {σ : rx_St} : ∀ o, f_tow_addOne 1 a0 a1 a2 σ = some o → rx_OK 107 [.ref 38, .int a0, .int a1, .int a2] 162 [] [p0, p1, p2, p3, 21] σ (some (.int o.1), rx_D [p0, p1, p2, p3, 21] o.2) := by
  intro o h
  refine rx_OK_of (by decide) (Nat.le_of_ble_eq_true rfl) ?_
  refine rx_walk [76] 2000 (by decide) rx_e107 ?_
  unfold f_tow_addOne at h
  refine rr_if h (fun c6 h => ?_) (fun c6 h => ?_)
  · skip
    cases h
    exact And.intro (trivial) rfl
  · skip
    refine rr_callT (f_wor_hasKind_ok_w1 _ rfl) ?_
    refine rr_if h (fun c17 h => ?_) (fun c17 h => ?_)
    · skip
      cases h
      exact And.intro (trivial) rfl
    · skip
      refine rr_if h (fun c21 h => ?_) (fun c21 h => ?_)
      · skip
        cases h
        exact And.intro (trivial) rfl
      · skip
        refine rr_if h (fun c27 h => ?_) (fun c27 h => ?_)
        · skip
          cases h
          exact And.intro (trivial) rfl
        · skip
          refine rr_if h (fun c32 h => ?_) (fun c32 h => ?_)
          · skip
            cases h
            exact And.intro (trivial) rfl
          · skip
            refine rr_if h (fun c38 h => ?_) (fun c38 h => ?_)
            · skip
              refine rr_g h (fun c52 h => ?_)
              refine rr_g h (fun c62 h => ?_)
              refine rr_g h (fun c72 h => ?_)
              exact rx_sub (f_tow_addOne_76_ok_w1 rx_fu _ _ _ h) [1, 2, 0] rfl
            · skip
              cases h
              exact And.intro (trivial) rfl
set_option maxRecDepth 100000 in
set_option maxHeartbeats 4000000 in
theorem f_tow_addOne_76_ok_w0 {p0 p1 p2 p3 : Nat} {o : Int32 × rx_St} : ∀ (n : Nat) (v1 : Int32) (v4 : Int32) (σ : rx_St), f_tow_addOne_76 0 n v1 v4 σ = some o → rx_AtP none 107 76 [(0, .ref 38), (1, .int v1), (4, .int v4)] [] (rx_D [p0, p1, p2, p3, 7] σ) (some (.int o.1), rx_D [p0, p1, p2, p3, 7] o.2) := by
  intro n
  induction n with
  | zero => intro _ _ _ h; cases h
  | succ n ih =>
  intro v1 v4 σ h
  refine rx_walk [76] 2000 (by decide) rx_e107 ?_
  rw [f_tow_addOne_76] at h
  refine rr_if h (fun c80 h => ?_) (fun c80 h => ?_)
  · skip
    cases h
    exact And.intro (trivial) rfl
  · skip
    refine rr_g h (fun c111 h => ?_)
    refine rr_g h (fun c112 h => ?_)
    exact rx_sub (ih _ _ _ h) [1, 2, 0] rfl
set_option maxRecDepth 100000 in
set_option maxHeartbeats 4000000 in
theorem f_tow_addOne_ok_w0 {p0 p1 p2 p3 : Nat} {a0 : Int32} {a1 : Int32} {a2 : Int32} {σ : rx_St} : ∀ o, f_tow_addOne 0 a0 a1 a2 σ = some o → rx_OK 107 [.ref 38, .int a0, .int a1, .int a2] 162 [] [p0, p1, p2, p3, 7] σ (some (.int o.1), rx_D [p0, p1, p2, p3, 7] o.2) := by
  intro o h
  refine rx_OK_of (by decide) (Nat.le_of_ble_eq_true rfl) ?_
  refine rx_walk [76] 2000 (by decide) rx_e107 ?_
  unfold f_tow_addOne at h
  refine rr_if h (fun c6 h => ?_) (fun c6 h => ?_)
  · skip
    cases h
    exact And.intro (trivial) rfl
  · skip
    refine rr_callT (f_wor_hasKind_ok_w0 _ rfl) ?_
    refine rr_if h (fun c17 h => ?_) (fun c17 h => ?_)
    · skip
      cases h
      exact And.intro (trivial) rfl
    · skip
      refine rr_if h (fun c21 h => ?_) (fun c21 h => ?_)
      · skip
        cases h
        exact And.intro (trivial) rfl
      · skip
        refine rr_if h (fun c27 h => ?_) (fun c27 h => ?_)
        · skip
          cases h
          exact And.intro (trivial) rfl
        · skip
          refine rr_if h (fun c32 h => ?_) (fun c32 h => ?_)
          · skip
            cases h
            exact And.intro (trivial) rfl
          · skip
            refine rr_if h (fun c38 h => ?_) (fun c38 h => ?_)
            · skip
              refine rr_g h (fun c52 h => ?_)
              refine rr_g h (fun c62 h => ?_)
              refine rr_g h (fun c72 h => ?_)
              exact rx_sub (f_tow_addOne_76_ok_w0 rx_fu _ _ _ h) [1, 2, 0] rfl
            · skip
              cases h
              exact And.intro (trivial) rfl
set_option maxRecDepth 100000 in
theorem rx_e108 : rx_Ext none 108 := rx_Ext_plain (by decide +kernel)
set_option maxRecDepth 100000 in
set_option maxHeartbeats 4000000 in
theorem f_tow_putBegin_ok_w1 {p0 p1 p2 p3 : Nat} {a0 : Int32} {a1 : Int32} {a2 : Int32} {σ : rx_St} : ∀ o, f_tow_putBegin 1 a0 a1 a2 σ = some o → rx_OK 108 [.ref 38, .int a0, .int a1, .int a2] 162 [] [p0, p1, p2, p3, 21] σ (some (.int o.1), rx_D [p0, p1, p2, p3, 21] o.2) := by
  intro o h
  refine rx_OK_of (by decide) (Nat.le_of_ble_eq_true rfl) ?_
  refine rx_walk [] 2000 (by decide) rx_e108 ?_
  unfold f_tow_putBegin at h
  refine rr_callP h (fun y hy => f_tow_oneHasVar_ok_w1 _ hy) (fun y1 hy1 h => ?_)
  refine rr_if h (fun c6 h => ?_) (fun c6 h => ?_)
  · skip
    cases h
    exact And.intro (Or.inl rfl) rfl
  · skip
    refine rr_callT (f_c_isNumber_ok _ rfl) ?_
    refine rr_if h (fun c13 h => ?_) (fun c13 h => ?_)
    · skip
      cases h
      exact And.intro (Or.inl rfl) rfl
    · skip
      refine rr_g h (fun c29 h => ?_)
      cases h
      exact And.intro (Or.inr rfl) rfl
theorem f_tow_putBegin_b {w : Nat} {a b c : Int32} {σ : rx_St} {y : Int32 × rx_St} (h : f_tow_putBegin w a b c σ = some y) : y.1 = 0 ∨ y.1 = 1 := by
  unfold f_tow_putBegin at h
  cases hv : f_tow_oneHasVar w a b σ with
  | none => rw [hv] at h; cases h
  | some y1 =>
    rw [hv] at h
    simp only [Option.bind_some] at h
    split at h
    · cases h; exact Or.inl rfl
    · split at h
      · cases h; exact Or.inl rfl
      · unfold rx_g at h
        split at h
        · cases h
        · cases h; exact Or.inr rfl
set_option maxRecDepth 100000 in
set_option maxHeartbeats 4000000 in
theorem f_tow_putBegin_ok_w0 {p0 p1 p2 p3 : Nat} {a0 : Int32} {a1 : Int32} {a2 : Int32} {σ : rx_St} : ∀ o, f_tow_putBegin 0 a0 a1 a2 σ = some o → rx_OK 108 [.ref 38, .int a0, .int a1, .int a2] 162 [] [p0, p1, p2, p3, 7] σ (some (.int o.1), rx_D [p0, p1, p2, p3, 7] o.2) := by
  intro o h
  refine rx_OK_of (by decide) (Nat.le_of_ble_eq_true rfl) ?_
  refine rx_walk [] 2000 (by decide) rx_e108 ?_
  unfold f_tow_putBegin at h
  refine rr_callP h (fun y hy => f_tow_oneHasVar_ok_w0 _ hy) (fun y1 hy1 h => ?_)
  refine rr_if h (fun c6 h => ?_) (fun c6 h => ?_)
  · skip
    cases h
    exact And.intro (Or.inl rfl) rfl
  · skip
    refine rr_callT (f_c_isNumber_ok _ rfl) ?_
    refine rr_if h (fun c13 h => ?_) (fun c13 h => ?_)
    · skip
      cases h
      exact And.intro (Or.inl rfl) rfl
    · skip
      refine rr_g h (fun c29 h => ?_)
      cases h
      exact And.intro (Or.inr rfl) rfl
set_option maxRecDepth 100000 in
theorem rx_e109 : rx_Ext none 109 := rx_Ext_plain (by decide +kernel)
set_option maxRecDepth 100000 in
set_option maxHeartbeats 4000000 in
theorem f_tow_dealOrder_ok {P : List Nat} {a0 : Int32} {σ : rx_St} : ∀ o, f_tow_dealOrder a0 σ = some o → rx_OK 109 [.ref 38, .int a0] 162 [] P σ (none, rx_D P o) := by
  intro o h
  refine rx_OK_of (by decide) (Nat.le_of_ble_eq_true rfl) ?_
  refine rx_walk [] 2000 (by decide) rx_e109 ?_
  unfold f_tow_dealOrder at h
  refine rr_c h (fun c2 h => ?_)
  cases h
  exact And.intro (rfl) rfl
set_option maxRecDepth 100000 in
theorem rx_e125 : rx_Ext none 125 := rx_Ext_plain (by decide +kernel)
set_option maxRecDepth 100000 in
set_option maxHeartbeats 4000000 in
theorem f_c_feed_ok {P : List Nat} {a0 : Int32} {a1 : Int32} {a2 : Int32} {a3 : Int32} {a4 : Int32} {σ : rx_St} : ∀ o, f_c_feed a0 a1 a2 a3 a4 σ = some o → rx_OK 125 [.ref 0, .int a0, .int a1, .int a2, .int a3, .int a4] 162 [] P σ (some (.int o.1), rx_D P o.2) := by
  intro o h
  refine rx_OK_of (by decide) (Nat.le_of_ble_eq_true rfl) ?_
  refine rx_walk [] 2000 (by decide) rx_e125 ?_
  unfold f_c_feed at h
  refine rr_if h (fun c13 h => ?_) (fun c13 h => ?_)
  · skip
    refine rr_callV h (fun y hy => f_tap_append_ok _ hy) (fun y1 hy1 h => ?_)
    refine rr_callV h (fun y hy => f_tap_append_ok _ hy) (fun y2 hy2 h => ?_)
    refine rr_callV h (fun y hy => f_tap_append_ok _ hy) (fun y3 hy3 h => ?_)
    refine rr_callV h (fun y hy => f_tap_append_ok _ hy) (fun y4 hy4 h => ?_)
    refine rr_callV h (fun y hy => f_tap_append_ok _ hy) (fun y5 hy5 h => ?_)
    cases h
    exact And.intro (trivial) rfl
  · skip
    cases h
    exact And.intro (trivial) rfl
set_option maxRecDepth 100000 in
theorem rx_e126 : rx_Ext none 126 := rx_Ext_plain (by decide +kernel)
set_option maxRecDepth 100000 in
set_option maxHeartbeats 4000000 in
theorem f_c_back_ok {P : List Nat} {a0 : Int32} {σ : rx_St} : ∀ o, f_c_back a0 σ = some o → rx_OK 126 [.ref 0, .int a0] 162 [] P σ (some (.int o.1), rx_D P o.2) := by
  intro o h
  refine rx_OK_of (by decide) (Nat.le_of_ble_eq_true rfl) ?_
  refine rx_walk [] 2000 (by decide) rx_e126 ?_
  unfold f_c_back at h
  refine rr_if h (fun c1 h => ?_) (fun c1 h => ?_)
  · skip
    cases h
    exact And.intro (trivial) rfl
  · skip
    refine rr_if h (fun c12 h => ?_) (fun c12 h => ?_)
    · skip
      cases h
      exact And.intro (trivial) rfl
    · skip
      cases h
      exact And.intro (trivial) rfl
set_option maxRecDepth 100000 in
theorem rx_e127 : rx_Ext none 127 := rx_Ext_plain (by decide +kernel)
set_option maxRecDepth 100000 in
set_option maxHeartbeats 4000000 in
theorem f_c_read_ok_w0 {p2 p3 : Nat} {σ : rx_St} : ∀ o, f_c_read 0 p3 σ = some o → rx_OK 127 [.ref 0] 162 [] [7, 21, p2, p3, 7] σ (some (.int o.1), (162, 0, 0, [], o.2.2, o.2.1)) := by
  intro o h
  refine rx_OK_of (by decide) (Nat.le_of_ble_eq_true rfl) ?_
  refine rx_walk [] 2000 (by decide) rx_e127 ?_
  unfold f_c_read at h
  refine rr_callV h (fun y hy => f_tap_scan_ok _ hy) (fun y1 hy1 h => ?_)
  refine rr_callS h (fun y hy => f_rea_parse_ok_w1 _ hy) (fun y2 hy2 h => ?_)
  refine rr_callP h (fun y hy => f_rea_faultPlace_ok _ hy) (fun y3 hy3 h => ?_)
  refine rr_if h (fun c31 h => ?_) (fun c31 h => ?_)
  · skip
    refine rr_callS h (fun y hy => f_chk_check_ok_w1 _ hy) (fun y4 hy4 h => ?_)
    refine rr_callT (f_chk_faultPlace_ok _ rfl) ?_
    refine rr_if h (fun c66 h => ?_) (fun c66 h => ?_)
    · skip
      refine rr_callV h (fun y hy => f_tow_moveTo_ok_w1 _ hy) (fun y5 hy5 h => ?_)
      refine rr_callV h (fun y hy => f_gri_empty_ok _ hy) (fun y6 hy6 h => ?_)
      cases h
      exact And.intro (trivial) rfl
    · skip
      cases h
      exact And.intro (trivial) rfl
  · skip
    refine rr_if h (fun c66 h => ?_) (fun c66 h => ?_)
    · skip
      refine rr_callV h (fun y hy => f_tow_moveTo_ok_w1 _ hy) (fun y7 hy7 h => ?_)
      refine rr_callV h (fun y hy => f_gri_empty_ok _ hy) (fun y8 hy8 h => ?_)
      cases h
      exact And.intro (trivial) rfl
    · skip
      cases h
      exact And.intro (trivial) rfl
set_option maxRecDepth 100000 in
set_option maxHeartbeats 4000000 in
theorem f_c_read_ok_w1 {p2 p3 : Nat} {σ : rx_St} : ∀ o, f_c_read 1 p3 σ = some o → rx_OK 127 [.ref 0] 162 [] [21, 7, p2, p3, 21] σ (some (.int o.1), (162, 0, 0, [], o.2.2, o.2.1)) := by
  intro o h
  refine rx_OK_of (by decide) (Nat.le_of_ble_eq_true rfl) ?_
  refine rx_walk [] 2000 (by decide) rx_e127 ?_
  unfold f_c_read at h
  refine rr_callV h (fun y hy => f_tap_scan_ok _ hy) (fun y1 hy1 h => ?_)
  refine rr_callS h (fun y hy => f_rea_parse_ok_w0 _ hy) (fun y2 hy2 h => ?_)
  refine rr_callP h (fun y hy => f_rea_faultPlace_ok _ hy) (fun y3 hy3 h => ?_)
  refine rr_if h (fun c31 h => ?_) (fun c31 h => ?_)
  · skip
    refine rr_callS h (fun y hy => f_chk_check_ok_w0 _ hy) (fun y4 hy4 h => ?_)
    refine rr_callT (f_chk_faultPlace_ok _ rfl) ?_
    refine rr_if h (fun c66 h => ?_) (fun c66 h => ?_)
    · skip
      refine rr_callV h (fun y hy => f_tow_moveTo_ok_w0 _ hy) (fun y5 hy5 h => ?_)
      refine rr_callV h (fun y hy => f_gri_empty_ok _ hy) (fun y6 hy6 h => ?_)
      cases h
      exact And.intro (trivial) rfl
    · skip
      cases h
      exact And.intro (trivial) rfl
  · skip
    refine rr_if h (fun c66 h => ?_) (fun c66 h => ?_)
    · skip
      refine rr_callV h (fun y hy => f_tow_moveTo_ok_w0 _ hy) (fun y7 hy7 h => ?_)
      refine rr_callV h (fun y hy => f_gri_empty_ok _ hy) (fun y8 hy8 h => ?_)
      cases h
      exact And.intro (trivial) rfl
    · skip
      cases h
      exact And.intro (trivial) rfl
set_option maxRecDepth 100000 in
theorem rx_e128 : rx_Ext none 128 := rx_Ext_plain (by decide +kernel)
set_option maxRecDepth 100000 in
set_option maxHeartbeats 4000000 in
theorem f_c_place_ok {P : List Nat} {σ : rx_St} : ∀ o, f_c_place σ = o → rx_OK 128 [.ref 0] 162 [] P σ (some (.int o), rx_D P σ) := by
  intro o h
  refine rx_OK_of (by decide) (Nat.le_of_ble_eq_true rfl) ?_
  refine rx_walk [] 2000 (by decide) rx_e128 ?_
  unfold f_c_place at h
  cases h
  exact And.intro (trivial) rfl
set_option maxRecDepth 100000 in
theorem rx_e129 : rx_Ext none 129 := rx_Ext_plain (by decide +kernel)
set_option maxRecDepth 100000 in
set_option maxHeartbeats 4000000 in
theorem f_c_set_ok_w0 {p0 p1 p2 p3 : Nat} {a0 : Int32} {a1 : Int32} {σ : rx_St} : ∀ o, f_c_set 0 a0 a1 σ = some o → rx_OK 129 [.ref 0, .int a0, .int a1] 162 [] [p0, p1, p2, p3, 7] σ (some (.int o.1), rx_D [p0, p1, p2, p3, 7] o.2) := by
  intro o h
  refine rx_OK_of (by decide) (Nat.le_of_ble_eq_true rfl) ?_
  refine rx_walk [] 2000 (by decide) rx_e129 ?_
  unfold f_c_set at h
  refine rr_callS h (fun y hy => f_tow_putSetting_ok_w0 _ hy) (fun y1 hy1 h => ?_)
  cases h
  exact And.intro ((f_tow_putSetting_b hy1)) rfl
set_option maxRecDepth 100000 in
set_option maxHeartbeats 4000000 in
theorem f_c_set_ok_w1 {p0 p1 p2 p3 : Nat} {a0 : Int32} {a1 : Int32} {σ : rx_St} : ∀ o, f_c_set 1 a0 a1 σ = some o → rx_OK 129 [.ref 0, .int a0, .int a1] 162 [] [p0, p1, p2, p3, 21] σ (some (.int o.1), rx_D [p0, p1, p2, p3, 21] o.2) := by
  intro o h
  refine rx_OK_of (by decide) (Nat.le_of_ble_eq_true rfl) ?_
  refine rx_walk [] 2000 (by decide) rx_e129 ?_
  unfold f_c_set at h
  refine rr_callS h (fun y hy => f_tow_putSetting_ok_w1 _ hy) (fun y1 hy1 h => ?_)
  cases h
  exact And.intro ((f_tow_putSetting_b hy1)) rfl
set_option maxRecDepth 100000 in
theorem rx_e131 : rx_Ext none 131 := rx_Ext_plain (by decide +kernel)
set_option maxRecDepth 100000 in
set_option maxHeartbeats 4000000 in
theorem f_c_one_ok_w0 {p0 p1 p2 p3 : Nat} {a0 : Int32} {a1 : Int32} {a2 : Int32} {σ : rx_St} : ∀ o, f_c_one 0 a0 a1 a2 σ = some o → rx_OK 131 [.ref 0, .int a0, .int a1, .int a2] 162 [] [p0, p1, p2, p3, 7] σ (some (.int o.1), rx_D [p0, p1, p2, p3, 7] o.2) := by
  intro o h
  refine rx_OK_of (by decide) (Nat.le_of_ble_eq_true rfl) ?_
  refine rx_walk [] 2000 (by decide) rx_e131 ?_
  unfold f_c_one at h
  refine rr_callS h (fun y hy => f_tow_addOne_ok_w0 _ hy) (fun y1 hy1 h => ?_)
  cases h
  exact And.intro (trivial) rfl
set_option maxRecDepth 100000 in
set_option maxHeartbeats 4000000 in
theorem f_c_one_ok_w1 {p0 p1 p2 p3 : Nat} {a0 : Int32} {a1 : Int32} {a2 : Int32} {σ : rx_St} : ∀ o, f_c_one 1 a0 a1 a2 σ = some o → rx_OK 131 [.ref 0, .int a0, .int a1, .int a2] 162 [] [p0, p1, p2, p3, 21] σ (some (.int o.1), rx_D [p0, p1, p2, p3, 21] o.2) := by
  intro o h
  refine rx_OK_of (by decide) (Nat.le_of_ble_eq_true rfl) ?_
  refine rx_walk [] 2000 (by decide) rx_e131 ?_
  unfold f_c_one at h
  refine rr_callS h (fun y hy => f_tow_addOne_ok_w1 _ hy) (fun y1 hy1 h => ?_)
  cases h
  exact And.intro (trivial) rfl
set_option maxRecDepth 100000 in
theorem rx_e132 : rx_Ext none 132 := rx_Ext_plain (by decide +kernel)
set_option maxRecDepth 100000 in
set_option maxHeartbeats 4000000 in
theorem f_c_begin_ok_w0 {p0 p1 p2 p3 : Nat} {a0 : Int32} {a1 : Int32} {a2 : Int32} {σ : rx_St} : ∀ o, f_c_begin 0 a0 a1 a2 σ = some o → rx_OK 132 [.ref 0, .int a0, .int a1, .int a2] 162 [] [p0, p1, p2, p3, 7] σ (some (.int o.1), rx_D [p0, p1, p2, p3, 7] o.2) := by
  intro o h
  refine rx_OK_of (by decide) (Nat.le_of_ble_eq_true rfl) ?_
  refine rx_walk [] 2000 (by decide) rx_e132 ?_
  unfold f_c_begin at h
  refine rr_callS h (fun y hy => f_tow_putBegin_ok_w0 _ hy) (fun y1 hy1 h => ?_)
  cases h
  exact And.intro ((f_tow_putBegin_b hy1)) rfl
set_option maxRecDepth 100000 in
set_option maxHeartbeats 4000000 in
theorem f_c_begin_ok_w1 {p0 p1 p2 p3 : Nat} {a0 : Int32} {a1 : Int32} {a2 : Int32} {σ : rx_St} : ∀ o, f_c_begin 1 a0 a1 a2 σ = some o → rx_OK 132 [.ref 0, .int a0, .int a1, .int a2] 162 [] [p0, p1, p2, p3, 21] σ (some (.int o.1), rx_D [p0, p1, p2, p3, 21] o.2) := by
  intro o h
  refine rx_OK_of (by decide) (Nat.le_of_ble_eq_true rfl) ?_
  refine rx_walk [] 2000 (by decide) rx_e132 ?_
  unfold f_c_begin at h
  refine rr_callS h (fun y hy => f_tow_putBegin_ok_w1 _ hy) (fun y1 hy1 h => ?_)
  cases h
  exact And.intro ((f_tow_putBegin_b hy1)) rfl
set_option maxRecDepth 100000 in
theorem rx_e133 : rx_Ext none 133 := rx_Ext_plain (by decide +kernel)
set_option maxRecDepth 100000 in
set_option maxHeartbeats 4000000 in
theorem f_c_order_ok {P : List Nat} {a0 : Int32} {σ : rx_St} : ∀ o, f_c_order a0 σ = some o → rx_OK 133 [.ref 0, .int a0] 162 [] P σ (none, rx_D P o) := by
  intro o h
  refine rx_OK_of (by decide) (Nat.le_of_ble_eq_true rfl) ?_
  refine rx_walk [] 2000 (by decide) rx_e133 ?_
  unfold f_c_order at h
  refine rr_callV h (fun y hy => f_tow_dealOrder_ok _ hy) (fun y1 hy1 h => ?_)
  cases h
  exact And.intro (rfl) rfl
set_option maxRecDepth 100000 in
theorem rx_e154 : rx_Ext none 154 := rx_Ext_plain (by decide +kernel)
set_option maxRecDepth 100000 in
set_option maxHeartbeats 4000000 in
theorem f_c_isTick_ok {P : List Nat} {σ : rx_St} {a0 : Int32} : ∀ o, f_c_isTick a0 = o → rx_OK 154 [.int a0] 162 [] P σ (some (.int o), rx_D P σ) := by
  intro o h
  refine rx_OK_of (by decide) (Nat.le_of_ble_eq_true rfl) ?_
  refine rx_walk [] 2000 (by decide) rx_e154 ?_
  unfold f_c_isTick at h
  refine rr_if h (fun c1 h => ?_) (fun c1 h => ?_)
  · skip
    cases h
    exact And.intro (Or.inl rfl) rfl
  · skip
    refine rr_if h (fun c7 h => ?_) (fun c7 h => ?_)
    · skip
      cases h
      exact And.intro (Or.inl rfl) rfl
    · skip
      cases h
      exact And.intro (Or.inr rfl) rfl
set_option maxRecDepth 100000 in
theorem rx_e134 : rx_Ext none 134 := rx_Ext_plain (by decide +kernel)
set_option maxRecDepth 100000 in
set_option maxHeartbeats 4000000 in
theorem f_c_lot_49_ok {P : List Nat} {σ : rx_St} {o : Int32} : ∀ (v1 : Int32) (v2 : Int32) (v3 : Int32) (v4 : Int32) (v5 : Int32) (s0 : Int32), f_c_lot_49 v1 v2 v3 v4 v5 s0 = some o → rx_AtP none 134 49 [(1, .int v1), (2, .int v2), (3, .int v3), (4, .int v4), (5, .int v5)] [.int s0] (rx_D P σ) (some (.int o), rx_D P σ) := by
  intro v1 v2 v3 v4 v5 s0 h
  refine rx_walk [44, 49] 2000 (by decide) rx_e134 ?_
  unfold f_c_lot_49 at h
  refine rr_if h (fun c53 h => ?_) (fun c53 h => ?_)
  · skip
    refine rr_callP h (fun y hy => f_c_dealLot_ok _ hy) (fun y1 hy1 h => ?_)
    cases h
    exact And.intro (trivial) rfl
  · skip
    cases h
    exact And.intro (trivial) rfl
set_option maxRecDepth 100000 in
set_option maxHeartbeats 4000000 in
theorem f_c_lot_44_ok {P : List Nat} {σ : rx_St} {o : Int32} : ∀ (v1 : Int32) (v2 : Int32) (v3 : Int32) (v4 : Int32) (v5 : Int32), f_c_lot_44 v1 v2 v3 v4 v5 = some o → rx_AtP none 134 44 [(1, .int v1), (2, .int v2), (3, .int v3), (4, .int v4), (5, .int v5)] [] (rx_D P σ) (some (.int o), rx_D P σ) := by
  intro v1 v2 v3 v4 v5 h
  refine rx_walk [44, 49] 2000 (by decide) rx_e134 ?_
  unfold f_c_lot_44 at h
  exact rx_sub (f_c_lot_49_ok _ _ _ _ _ _ h) [0, 1, 2, 3, 4] rfl
set_option maxRecDepth 100000 in
set_option maxHeartbeats 4000000 in
theorem f_c_lot_ok {P : List Nat} {σ : rx_St} {a0 : Int32} {a1 : Int32} {a2 : Int32} {a3 : Int32} {a4 : Int32} : ∀ o, f_c_lot a0 a1 a2 a3 a4 = some o → rx_OK 134 [.ref 0, .int a0, .int a1, .int a2, .int a3, .int a4] 162 [] P σ (some (.int o), rx_D P σ) := by
  intro o h
  refine rx_OK_of (by decide) (Nat.le_of_ble_eq_true rfl) ?_
  refine rx_walk [44, 49] 2000 (by decide) rx_e134 ?_
  unfold f_c_lot at h
  refine rr_if h (fun c1 h => ?_) (fun c1 h => ?_)
  · skip
    exact rx_sub (f_c_lot_44_ok _ _ _ _ _ h) [1, 2, 3, 4, 5] rfl
  · skip
    refine rr_if h (fun c7 h => ?_) (fun c7 h => ?_)
    · skip
      exact rx_sub (f_c_lot_44_ok _ _ _ _ _ h) [1, 2, 3, 4, 5] rfl
    · skip
      refine rr_callT (f_c_isTick_ok _ rfl) ?_
      refine rr_if h (fun c14 h => ?_) (fun c14 h => ?_)
      · skip
        exact rx_sub (f_c_lot_44_ok _ _ _ _ _ h) [1, 2, 3, 4, 5] rfl
      · skip
        refine rr_if h (fun c19 h => ?_) (fun c19 h => ?_)
        · skip
          exact rx_sub (f_c_lot_44_ok _ _ _ _ _ h) [1, 2, 3, 4, 5] rfl
        · skip
          refine rr_if h (fun c27 h => ?_) (fun c27 h => ?_)
          · skip
            exact rx_sub (f_c_lot_44_ok _ _ _ _ _ h) [1, 2, 3, 4, 5] rfl
          · skip
            refine rr_if h (fun c33 h => ?_) (fun c33 h => ?_)
            · skip
              exact rx_sub (f_c_lot_44_ok _ _ _ _ _ h) [1, 2, 3, 4, 5] rfl
            · skip
              refine rr_if h (fun c41 h => ?_) (fun c41 h => ?_)
              · skip
                exact rx_sub (f_c_lot_49_ok _ _ _ _ _ _ h) [1, 2, 3, 4, 5] rfl
              · skip
                exact rx_sub (f_c_lot_44_ok _ _ _ _ _ h) [1, 2, 3, 4, 5] rfl
set_option maxRecDepth 100000 in
theorem rx_e153 : rx_Ext none 153 := rx_Ext_plain (by decide +kernel)
set_option maxRecDepth 100000 in
set_option maxHeartbeats 4000000 in
theorem f_c_isTime_ok {P : List Nat} {σ : rx_St} {a0 : Int32} : ∀ o, f_c_isTime a0 = o → rx_OK 153 [.int a0] 162 [] P σ (some (.int o), rx_D P σ) := by
  intro o h
  refine rx_OK_of (by decide) (Nat.le_of_ble_eq_true rfl) ?_
  refine rx_walk [] 2000 (by decide) rx_e153 ?_
  unfold f_c_isTime at h
  refine rr_if h (fun c1 h => ?_) (fun c1 h => ?_)
  · skip
    cases h
    exact And.intro (Or.inl rfl) rfl
  · skip
    refine rr_if h (fun c7 h => ?_) (fun c7 h => ?_)
    · skip
      cases h
      exact And.intro (Or.inl rfl) rfl
    · skip
      cases h
      exact And.intro (Or.inr rfl) rfl
set_option maxRecDepth 100000 in
theorem rx_e135 : rx_Ext none 135 := rx_Ext_plain (by decide +kernel)
set_option maxRecDepth 100000 in
set_option maxHeartbeats 4000000 in
theorem f_c_state_ok_w0 {p0 p1 p2 p3 : Nat} {a0 : Int32} {a1 : Int32} {a2 : Int32} {a3 : Int32} {σ : rx_St} : ∀ o, f_c_state 0 a0 a1 a2 a3 σ = some o → rx_OK 135 [.ref 0, .int a0, .int a1, .int a2, .int a3] 162 [] [p0, p1, p2, p3, 7] σ (some (.int o.1), rx_D [p0, p1, p2, p3, 7] o.2) := by
  intro o h
  refine rx_OK_of (by decide) (Nat.le_of_ble_eq_true rfl) ?_
  refine rx_walk [] 2000 (by decide) rx_e135 ?_
  unfold f_c_state at h
  refine rr_callT (f_c_isTime_ok _ rfl) ?_
  refine rr_if h (fun c4 h => ?_) (fun c4 h => ?_)
  · skip
    cases h
    exact And.intro (trivial) rfl
  · skip
    refine rr_callP h (fun y hy => f_tow_oneHasVar_ok_w0 _ hy) (fun y1 hy1 h => ?_)
    refine rr_if h (fun c17 h => ?_) (fun c17 h => ?_)
    · skip
      cases h
      exact And.intro (trivial) rfl
    · skip
      refine rr_callV h (fun y hy => f_run_goPlain_ok_r0w0 _ hy) (fun y2 hy2 h => ?_)
      refine rr_g h (fun c46 h => ?_)
      cases h
      exact And.intro (trivial) rfl
set_option maxRecDepth 100000 in
set_option maxHeartbeats 4000000 in
theorem f_c_state_ok_w1 {p0 p1 p2 p3 : Nat} {a0 : Int32} {a1 : Int32} {a2 : Int32} {a3 : Int32} {σ : rx_St} : ∀ o, f_c_state 1 a0 a1 a2 a3 σ = some o → rx_OK 135 [.ref 0, .int a0, .int a1, .int a2, .int a3] 162 [] [p0, p1, p2, p3, 21] σ (some (.int o.1), rx_D [p0, p1, p2, p3, 21] o.2) := by
  intro o h
  refine rx_OK_of (by decide) (Nat.le_of_ble_eq_true rfl) ?_
  refine rx_walk [] 2000 (by decide) rx_e135 ?_
  unfold f_c_state at h
  refine rr_callT (f_c_isTime_ok _ rfl) ?_
  refine rr_if h (fun c4 h => ?_) (fun c4 h => ?_)
  · skip
    cases h
    exact And.intro (trivial) rfl
  · skip
    refine rr_callP h (fun y hy => f_tow_oneHasVar_ok_w1 _ hy) (fun y1 hy1 h => ?_)
    refine rr_if h (fun c17 h => ?_) (fun c17 h => ?_)
    · skip
      cases h
      exact And.intro (trivial) rfl
    · skip
      refine rr_callV h (fun y hy => f_run_goPlain_ok_r0w1 _ hy) (fun y2 hy2 h => ?_)
      refine rr_g h (fun c46 h => ?_)
      cases h
      exact And.intro (trivial) rfl
set_option maxRecDepth 100000 in
theorem rx_e136 : rx_Ext none 136 := rx_Ext_plain (by decide +kernel)
set_option maxRecDepth 100000 in
set_option maxHeartbeats 4000000 in
theorem f_c_at_ok_w0 {p0 p1 p2 p3 : Nat} {a0 : Int32} {a1 : Int32} {a2 : Int32} {σ : rx_St} : ∀ o, f_c_at 0 a0 a1 a2 σ = some o → rx_OK 136 [.ref 0, .int a0, .int a1, .int a2] 162 [] [p0, p1, p2, p3, 7] σ (some (.int o.1), rx_D [p0, p1, p2, p3, 7] o.2) := by
  intro o h
  refine rx_OK_of (by decide) (Nat.le_of_ble_eq_true rfl) ?_
  refine rx_walk [] 2000 (by decide) rx_e136 ?_
  unfold f_c_at at h
  refine rr_callT (f_c_isTime_ok _ rfl) ?_
  refine rr_if h (fun c4 h => ?_) (fun c4 h => ?_)
  · skip
    cases h
    exact And.intro (trivial) rfl
  · skip
    refine rr_callT (f_tow_hasOne_ok _ rfl) ?_
    refine rr_if h (fun c15 h => ?_) (fun c15 h => ?_)
    · skip
      cases h
      exact And.intro (trivial) rfl
    · skip
      refine rr_callV h (fun y hy => f_run_goPlain_ok_r0w0 _ hy) (fun y1 hy1 h => ?_)
      refine rr_g h (fun c37 h => ?_)
      refine rr_if h (fun c38 h => ?_) (fun c38 h => ?_)
      · skip
        refine rr_g h (fun c54 h => ?_)
        cases h
        exact And.intro (trivial) rfl
      · skip
        cases h
        exact And.intro (trivial) rfl
set_option maxRecDepth 100000 in
set_option maxHeartbeats 4000000 in
theorem f_c_at_ok_w1 {p0 p1 p2 p3 : Nat} {a0 : Int32} {a1 : Int32} {a2 : Int32} {σ : rx_St} : ∀ o, f_c_at 1 a0 a1 a2 σ = some o → rx_OK 136 [.ref 0, .int a0, .int a1, .int a2] 162 [] [p0, p1, p2, p3, 21] σ (some (.int o.1), rx_D [p0, p1, p2, p3, 21] o.2) := by
  intro o h
  refine rx_OK_of (by decide) (Nat.le_of_ble_eq_true rfl) ?_
  refine rx_walk [] 2000 (by decide) rx_e136 ?_
  unfold f_c_at at h
  refine rr_callT (f_c_isTime_ok _ rfl) ?_
  refine rr_if h (fun c4 h => ?_) (fun c4 h => ?_)
  · skip
    cases h
    exact And.intro (trivial) rfl
  · skip
    refine rr_callT (f_tow_hasOne_ok _ rfl) ?_
    refine rr_if h (fun c15 h => ?_) (fun c15 h => ?_)
    · skip
      cases h
      exact And.intro (trivial) rfl
    · skip
      refine rr_callV h (fun y hy => f_run_goPlain_ok_r0w1 _ hy) (fun y1 hy1 h => ?_)
      refine rr_g h (fun c37 h => ?_)
      refine rr_if h (fun c38 h => ?_) (fun c38 h => ?_)
      · skip
        refine rr_g h (fun c54 h => ?_)
        cases h
        exact And.intro (trivial) rfl
      · skip
        cases h
        exact And.intro (trivial) rfl
set_option maxRecDepth 100000 in
theorem rx_e137 : rx_Ext none 137 := rx_Ext_plain (by decide +kernel)
set_option maxRecDepth 100000 in
set_option maxHeartbeats 4000000 in
theorem f_c_figure_ok_w0 {p1 p2 p3 : Nat} {a0 : Int32} {a1 : Int32} {a2 : Int32} {a3 : Int32} {σ : rx_St} : ∀ o, f_c_figure 0 a0 a1 a2 a3 σ = some o → rx_OK 137 [.ref 0, .int a0, .int a1, .int a2, .int a3] 162 [] [7, p1, p2, p3, 7] σ (some (.int o.1), rx_D [7, p1, p2, p3, 7] o.2) := by
  intro o h
  refine rx_OK_of (by decide) (Nat.le_of_ble_eq_true rfl) ?_
  refine rx_walk [] 2000 (by decide) rx_e137 ?_
  unfold f_c_figure at h
  refine rr_callT (f_c_isTime_ok _ rfl) ?_
  refine rr_if h (fun c4 h => ?_) (fun c4 h => ?_)
  · skip
    cases h
    exact And.intro (trivial) rfl
  · skip
    refine rr_callP h (fun y hy => f_wor_hasVar_ok_w0 _ hy) (fun y1 hy1 h => ?_)
    refine rr_if h (fun c17 h => ?_) (fun c17 h => ?_)
    · skip
      cases h
      exact And.intro (trivial) rfl
    · skip
      refine rr_callV h (fun y hy => f_run_goPlain_ok_r0w0 _ hy) (fun y2 hy2 h => ?_)
      refine rr_callP h (fun y hy => f_run_total_ok_r0 _ hy) (fun y3 hy3 h => ?_)
      cases h
      exact And.intro (trivial) rfl
set_option maxRecDepth 100000 in
set_option maxHeartbeats 4000000 in
theorem f_c_figure_ok_w1 {p1 p2 p3 : Nat} {a0 : Int32} {a1 : Int32} {a2 : Int32} {a3 : Int32} {σ : rx_St} : ∀ o, f_c_figure 1 a0 a1 a2 a3 σ = some o → rx_OK 137 [.ref 0, .int a0, .int a1, .int a2, .int a3] 162 [] [21, p1, p2, p3, 21] σ (some (.int o.1), rx_D [21, p1, p2, p3, 21] o.2) := by
  intro o h
  refine rx_OK_of (by decide) (Nat.le_of_ble_eq_true rfl) ?_
  refine rx_walk [] 2000 (by decide) rx_e137 ?_
  unfold f_c_figure at h
  refine rr_callT (f_c_isTime_ok _ rfl) ?_
  refine rr_if h (fun c4 h => ?_) (fun c4 h => ?_)
  · skip
    cases h
    exact And.intro (trivial) rfl
  · skip
    refine rr_callP h (fun y hy => f_wor_hasVar_ok_w1 _ hy) (fun y1 hy1 h => ?_)
    refine rr_if h (fun c17 h => ?_) (fun c17 h => ?_)
    · skip
      cases h
      exact And.intro (trivial) rfl
    · skip
      refine rr_callV h (fun y hy => f_run_goPlain_ok_r0w1 _ hy) (fun y2 hy2 h => ?_)
      refine rr_callP h (fun y hy => f_run_total_ok_r0 _ hy) (fun y3 hy3 h => ?_)
      cases h
      exact And.intro (trivial) rfl
set_option maxRecDepth 100000 in
theorem rx_e138 : rx_Ext none 138 := rx_Ext_plain (by decide +kernel)
set_option maxRecDepth 100000 in
set_option maxHeartbeats 4000000 in
theorem f_c_wishes_ok_w0 {p0 p1 p2 p3 : Nat} {a0 : Int32} {a1 : Int32} {a2 : Int32} {σ : rx_St} : ∀ o, f_c_wishes 0 a0 a1 a2 σ = some o → rx_OK 138 [.ref 0, .int a0, .int a1, .int a2] 162 [] [p0, p1, p2, p3, 7] σ (some (.int o.1), rx_D [p0, p1, p2, p3, 7] o.2) := by
  intro o h
  refine rx_OK_of (by decide) (Nat.le_of_ble_eq_true rfl) ?_
  refine rx_walk [] 2000 (by decide) rx_e138 ?_
  unfold f_c_wishes at h
  refine rr_callT (f_c_isTick_ok _ rfl) ?_
  refine rr_if h (fun c4 h => ?_) (fun c4 h => ?_)
  · skip
    cases h
    exact And.intro (trivial) rfl
  · skip
    refine rr_callT (f_tow_hasOne_ok _ rfl) ?_
    refine rr_if h (fun c15 h => ?_) (fun c15 h => ?_)
    · skip
      cases h
      exact And.intro (trivial) rfl
    · skip
      refine rr_callV h (fun y hy => f_run_goPlain_ok_r0w0 _ hy) (fun y1 hy1 h => ?_)
      refine rr_g h (fun c39 h => ?_)
      cases h
      exact And.intro (trivial) rfl
set_option maxRecDepth 100000 in
set_option maxHeartbeats 4000000 in
theorem f_c_wishes_ok_w1 {p0 p1 p2 p3 : Nat} {a0 : Int32} {a1 : Int32} {a2 : Int32} {σ : rx_St} : ∀ o, f_c_wishes 1 a0 a1 a2 σ = some o → rx_OK 138 [.ref 0, .int a0, .int a1, .int a2] 162 [] [p0, p1, p2, p3, 21] σ (some (.int o.1), rx_D [p0, p1, p2, p3, 21] o.2) := by
  intro o h
  refine rx_OK_of (by decide) (Nat.le_of_ble_eq_true rfl) ?_
  refine rx_walk [] 2000 (by decide) rx_e138 ?_
  unfold f_c_wishes at h
  refine rr_callT (f_c_isTick_ok _ rfl) ?_
  refine rr_if h (fun c4 h => ?_) (fun c4 h => ?_)
  · skip
    cases h
    exact And.intro (trivial) rfl
  · skip
    refine rr_callT (f_tow_hasOne_ok _ rfl) ?_
    refine rr_if h (fun c15 h => ?_) (fun c15 h => ?_)
    · skip
      cases h
      exact And.intro (trivial) rfl
    · skip
      refine rr_callV h (fun y hy => f_run_goPlain_ok_r0w1 _ hy) (fun y1 hy1 h => ?_)
      refine rr_g h (fun c39 h => ?_)
      cases h
      exact And.intro (trivial) rfl
set_option maxRecDepth 100000 in
theorem rx_e157 : rx_Ext none 157 := rx_Ext_plain (by decide +kernel)
set_option maxRecDepth 100000 in
set_option maxHeartbeats 4000000 in
theorem f_c_canUndo_ok {P : List Nat} {a0 : Int32} {a1 : Int32} {a2 : Int32} {σ : rx_St} : ∀ o, f_c_canUndo a0 a1 a2 σ = o → rx_OK 157 [.ref 0, .int a0, .int a1, .int a2] 162 [] P σ (some (.int o), rx_D P σ) := by
  intro o h
  refine rx_OK_of (by decide) (Nat.le_of_ble_eq_true rfl) ?_
  refine rx_walk [] 2000 (by decide) rx_e157 ?_
  unfold f_c_canUndo at h
  refine rr_callT (f_c_isTime_ok _ rfl) ?_
  refine rr_if h (fun c4 h => ?_) (fun c4 h => ?_)
  · skip
    cases h
    exact And.intro (Or.inl rfl) rfl
  · skip
    refine rr_if h (fun c8 h => ?_) (fun c8 h => ?_)
    · skip
      cases h
      exact And.intro (Or.inl rfl) rfl
    · skip
      refine rr_if h (fun c13 h => ?_) (fun c13 h => ?_)
      · skip
        cases h
        exact And.intro (Or.inl rfl) rfl
      · skip
        refine rr_callT (f_tow_hasOne_ok _ rfl) ?_
        refine rr_if h (fun c24 h => ?_) (fun c24 h => ?_)
        · skip
          cases h
          exact And.intro (Or.inl rfl) rfl
        · skip
          cases h
          exact And.intro (Or.inr rfl) rfl
set_option maxRecDepth 100000 in
theorem rx_e158 : rx_Ext none 158 := rx_Ext_plain (by decide +kernel)
set_option maxRecDepth 100000 in
set_option maxHeartbeats 4000000 in
theorem f_c_undo_134_ok_w0 {p0 p1 p2 p3 : Nat} {o : rx_St} {k49 : Int32 → Int32 → Int32 → Int32 → rx_St → Option (rx_St)} {k85 : Int32 → Int32 → Int32 → Int32 → Int32 → rx_St → Option (rx_St)} (hk49 : ∀ (v2 : Int32) (v3 : Int32) (v4 : Int32) (v5 : Int32) (σ : rx_St), k49 v2 v3 v4 v5 σ = some o → rx_AtP none 158 49 [(0, .ref 0), (2, .int v2), (3, .int v3), (4, .int v4), (5, .int v5)] [] (rx_D [p0, p1, p2, p3, 7] σ) (none, rx_D [p0, p1, p2, p3, 7] o)) (hk85 : ∀ (v2 : Int32) (v3 : Int32) (v4 : Int32) (v5 : Int32) (v6 : Int32) (σ : rx_St), k85 v2 v3 v4 v5 v6 σ = some o → rx_AtP none 158 85 [(0, .ref 0), (2, .int v2), (3, .int v3), (4, .int v4), (5, .int v5), (6, .int v6)] [] (rx_D [p0, p1, p2, p3, 7] σ) (none, rx_D [p0, p1, p2, p3, 7] o)) : ∀ (v2 : Int32) (v3 : Int32) (v4 : Int32) (v5 : Int32) (v6 : Int32) (σ : rx_St), f_c_undo_134 0 k49 k85 v2 v3 v4 v5 v6 σ = some o → rx_AtP none 158 134 [(0, .ref 0), (2, .int v2), (3, .int v3), (4, .int v4), (5, .int v5), (6, .int v6)] [] (rx_D [p0, p1, p2, p3, 7] σ) (none, rx_D [p0, p1, p2, p3, 7] o) := by
  intro v2 v3 v4 v5 v6 σ h
  refine rx_walk [19, 49, 79, 85, 134] 2000 (by decide) rx_e158 ?_
  unfold f_c_undo_134 at h
  exact rx_sub (hk85 _ _ _ _ _ _ h) [1, 2, 3, 4, 5, 0] rfl
set_option maxRecDepth 100000 in
set_option maxHeartbeats 4000000 in
theorem f_c_undo_85_ok_w0 {p0 p1 p2 p3 : Nat} {o : rx_St} {k49 : Int32 → Int32 → Int32 → Int32 → rx_St → Option (rx_St)} (hk49 : ∀ (v2 : Int32) (v3 : Int32) (v4 : Int32) (v5 : Int32) (σ : rx_St), k49 v2 v3 v4 v5 σ = some o → rx_AtP none 158 49 [(0, .ref 0), (2, .int v2), (3, .int v3), (4, .int v4), (5, .int v5)] [] (rx_D [p0, p1, p2, p3, 7] σ) (none, rx_D [p0, p1, p2, p3, 7] o)) : ∀ (n : Nat) (v2 : Int32) (v3 : Int32) (v4 : Int32) (v5 : Int32) (v6 : Int32) (σ : rx_St), f_c_undo_85 0 k49 n v2 v3 v4 v5 v6 σ = some o → rx_AtP none 158 85 [(0, .ref 0), (2, .int v2), (3, .int v3), (4, .int v4), (5, .int v5), (6, .int v6)] [] (rx_D [p0, p1, p2, p3, 7] σ) (none, rx_D [p0, p1, p2, p3, 7] o) := by
  intro n
  induction n with
  | zero => intro _ _ _ _ _ _ h; cases h
  | succ n ih =>
  intro v2 v3 v4 v5 v6 σ h
  refine rx_walk [19, 49, 79, 85, 134] 2000 (by decide) rx_e158 ?_
  rw [f_c_undo_85] at h
  refine rr_if h (fun c94 h => ?_) (fun c94 h => ?_)
  · skip
    exact rx_sub (hk49 _ _ _ _ _ h) [1, 2, 3, 4, 0] rfl
  · skip
    refine rr_g h (fun c103 h => ?_)
    refine rr_if h (fun c106 h => ?_) (fun c106 h => ?_)
    · skip
      refine rr_callP h (fun y hy => f_run_differs_ok_q1r0 _ hy) (fun y1 hy1 h => ?_)
      refine rr_if h (fun c122 h => ?_) (fun c122 h => ?_)
      · skip
        exact rx_sub (f_c_undo_134_ok_w0 hk49 ih _ _ _ _ _ _ h) [0, 1, 2, 3, 4, 5] rfl
      · skip
        refine rr_g h (fun c133 h => ?_)
        exact rx_sub (f_c_undo_134_ok_w0 hk49 ih _ _ _ _ _ _ h) [0, 1, 2, 3, 4, 5] rfl
    · skip
      exact rx_sub (f_c_undo_134_ok_w0 hk49 ih _ _ _ _ _ _ h) [0, 1, 2, 3, 4, 5] rfl
set_option maxRecDepth 100000 in
set_option maxHeartbeats 4000000 in
theorem f_c_undo_79_ok_w0 {p0 p1 p2 p3 : Nat} {o : rx_St} {k49 : Int32 → Int32 → Int32 → Int32 → rx_St → Option (rx_St)} (hk49 : ∀ (v2 : Int32) (v3 : Int32) (v4 : Int32) (v5 : Int32) (σ : rx_St), k49 v2 v3 v4 v5 σ = some o → rx_AtP none 158 49 [(0, .ref 0), (2, .int v2), (3, .int v3), (4, .int v4), (5, .int v5)] [] (rx_D [p0, p1, p2, p3, 7] σ) (none, rx_D [p0, p1, p2, p3, 7] o)) : ∀ (v2 : Int32) (v3 : Int32) (v4 : Int32) (v5 : Int32) (s1 : Int32) (σ : rx_St), f_c_undo_79 0 k49 v2 v3 v4 v5 s1 σ = some o → rx_AtP none 158 79 [(0, .ref 0), (2, .int v2), (3, .int v3), (4, .int v4), (5, .int v5)] [.int s1, .ref 64] (rx_D [p0, p1, p2, p3, 7] σ) (none, rx_D [p0, p1, p2, p3, 7] o) := by
  intro v2 v3 v4 v5 s1 σ h
  refine rx_walk [19, 49, 79, 85, 134] 2000 (by decide) rx_e158 ?_
  unfold f_c_undo_79 at h
  refine rr_callV h (fun y hy => f_run_step_ok_r1w0 _ hy) (fun y1 hy1 h => ?_)
  exact rx_sub (f_c_undo_85_ok_w0 hk49 rx_fu _ _ _ _ _ _ h) [1, 2, 3, 4, 5, 0] rfl
set_option maxRecDepth 100000 in
set_option maxHeartbeats 4000000 in
theorem f_c_undo_49_ok_w0 {p0 p1 p2 p3 : Nat} {o : rx_St} : ∀ (n : Nat) (v2 : Int32) (v3 : Int32) (v4 : Int32) (v5 : Int32) (σ : rx_St), f_c_undo_49 0 n v2 v3 v4 v5 σ = some o → rx_AtP none 158 49 [(0, .ref 0), (2, .int v2), (3, .int v3), (4, .int v4), (5, .int v5)] [] (rx_D [p0, p1, p2, p3, 7] σ) (none, rx_D [p0, p1, p2, p3, 7] o) := by
  intro n
  induction n with
  | zero => intro _ _ _ _ _ h; cases h
  | succ n ih =>
  intro v2 v3 v4 v5 σ h
  refine rx_walk [19, 49, 79, 85, 134] 2000 (by decide) rx_e158 ?_
  rw [f_c_undo_49] at h
  refine rr_if h (fun c52 h => ?_) (fun c52 h => ?_)
  · skip
    cases h
    exact And.intro (rfl) rfl
  · skip
    refine rr_callV h (fun y hy => f_run_step_ok_r0w0 _ hy) (fun y1 hy1 h => ?_)
    refine rr_if h (fun c71 h => ?_) (fun c71 h => ?_)
    · skip
      exact rx_sub (f_c_undo_79_ok_w0 ih _ _ _ _ _ _ h) [0, 1, 2, 3, 4] rfl
    · skip
      exact rx_sub (f_c_undo_79_ok_w0 ih _ _ _ _ _ _ h) [0, 1, 2, 3, 4] rfl
set_option maxRecDepth 100000 in
set_option maxHeartbeats 4000000 in
theorem f_c_undo_19_ok_w0 {p0 p1 p2 p3 : Nat} {o : rx_St} : ∀ (n : Nat) (v2 : Int32) (v3 : Int32) (v4 : Int32) (v5 : Int32) (σ : rx_St), f_c_undo_19 0 n v2 v3 v4 v5 σ = some o → rx_AtP none 158 19 [(0, .ref 0), (2, .int v2), (3, .int v3), (4, .int v4), (5, .int v5)] [] (rx_D [p0, p1, p2, p3, 7] σ) (none, rx_D [p0, p1, p2, p3, 7] o) := by
  intro n
  induction n with
  | zero => intro _ _ _ _ _ h; cases h
  | succ n ih =>
  intro v2 v3 v4 v5 σ h
  refine rx_walk [19, 49, 79, 85, 134] 2000 (by decide) rx_e158 ?_
  rw [f_c_undo_19] at h
  refine rr_if h (fun c28 h => ?_) (fun c28 h => ?_)
  · skip
    exact rx_sub (f_c_undo_49_ok_w0 rx_fu _ _ _ _ _ h) [1, 2, 3, 4, 0] rfl
  · skip
    refine rr_g h (fun c39 h => ?_)
    exact rx_sub (ih _ _ _ _ _ h) [1, 2, 3, 4, 0] rfl
set_option maxRecDepth 100000 in
set_option maxHeartbeats 4000000 in
theorem f_c_undo_ok_w0 {p0 p1 p2 p3 : Nat} {a0 : Int32} {a1 : Int32} {a2 : Int32} {a3 : Int32} {σ : rx_St} : ∀ o, f_c_undo 0 a0 a1 a2 a3 σ = some o → rx_OK 158 [.ref 0, .int a0, .int a1, .int a2, .int a3] 162 [] [p0, p1, p2, p3, 7] σ (none, rx_D [p0, p1, p2, p3, 7] o) := by
  intro o h
  refine rx_OK_of (by decide) (Nat.le_of_ble_eq_true rfl) ?_
  refine rx_walk [19, 49, 79, 85, 134] 2000 (by decide) rx_e158 ?_
  unfold f_c_undo at h
  refine rr_callV h (fun y hy => f_run_restart_ok_r0w0 _ hy) (fun y1 hy1 h => ?_)
  refine rr_callV h (fun y hy => f_run_restart_ok_r1w0 _ hy) (fun y2 hy2 h => ?_)
  exact rx_sub (f_c_undo_19_ok_w0 rx_fu _ _ _ _ _ h) [1, 3, 4, 5, 0] rfl
set_option maxRecDepth 100000 in
set_option maxHeartbeats 4000000 in
theorem f_c_undo_134_ok_w1 {p0 p1 p2 p3 : Nat} {o : rx_St} {k49 : Int32 → Int32 → Int32 → Int32 → rx_St → Option (rx_St)} {k85 : Int32 → Int32 → Int32 → Int32 → Int32 → rx_St → Option (rx_St)} (hk49 : ∀ (v2 : Int32) (v3 : Int32) (v4 : Int32) (v5 : Int32) (σ : rx_St), k49 v2 v3 v4 v5 σ = some o → rx_AtP none 158 49 [(0, .ref 0), (2, .int v2), (3, .int v3), (4, .int v4), (5, .int v5)] [] (rx_D [p0, p1, p2, p3, 21] σ) (none, rx_D [p0, p1, p2, p3, 21] o)) (hk85 : ∀ (v2 : Int32) (v3 : Int32) (v4 : Int32) (v5 : Int32) (v6 : Int32) (σ : rx_St), k85 v2 v3 v4 v5 v6 σ = some o → rx_AtP none 158 85 [(0, .ref 0), (2, .int v2), (3, .int v3), (4, .int v4), (5, .int v5), (6, .int v6)] [] (rx_D [p0, p1, p2, p3, 21] σ) (none, rx_D [p0, p1, p2, p3, 21] o)) : ∀ (v2 : Int32) (v3 : Int32) (v4 : Int32) (v5 : Int32) (v6 : Int32) (σ : rx_St), f_c_undo_134 1 k49 k85 v2 v3 v4 v5 v6 σ = some o → rx_AtP none 158 134 [(0, .ref 0), (2, .int v2), (3, .int v3), (4, .int v4), (5, .int v5), (6, .int v6)] [] (rx_D [p0, p1, p2, p3, 21] σ) (none, rx_D [p0, p1, p2, p3, 21] o) := by
  intro v2 v3 v4 v5 v6 σ h
  refine rx_walk [19, 49, 79, 85, 134] 2000 (by decide) rx_e158 ?_
  unfold f_c_undo_134 at h
  exact rx_sub (hk85 _ _ _ _ _ _ h) [1, 2, 3, 4, 5, 0] rfl
set_option maxRecDepth 100000 in
set_option maxHeartbeats 4000000 in
theorem f_c_undo_85_ok_w1 {p0 p1 p2 p3 : Nat} {o : rx_St} {k49 : Int32 → Int32 → Int32 → Int32 → rx_St → Option (rx_St)} (hk49 : ∀ (v2 : Int32) (v3 : Int32) (v4 : Int32) (v5 : Int32) (σ : rx_St), k49 v2 v3 v4 v5 σ = some o → rx_AtP none 158 49 [(0, .ref 0), (2, .int v2), (3, .int v3), (4, .int v4), (5, .int v5)] [] (rx_D [p0, p1, p2, p3, 21] σ) (none, rx_D [p0, p1, p2, p3, 21] o)) : ∀ (n : Nat) (v2 : Int32) (v3 : Int32) (v4 : Int32) (v5 : Int32) (v6 : Int32) (σ : rx_St), f_c_undo_85 1 k49 n v2 v3 v4 v5 v6 σ = some o → rx_AtP none 158 85 [(0, .ref 0), (2, .int v2), (3, .int v3), (4, .int v4), (5, .int v5), (6, .int v6)] [] (rx_D [p0, p1, p2, p3, 21] σ) (none, rx_D [p0, p1, p2, p3, 21] o) := by
  intro n
  induction n with
  | zero => intro _ _ _ _ _ _ h; cases h
  | succ n ih =>
  intro v2 v3 v4 v5 v6 σ h
  refine rx_walk [19, 49, 79, 85, 134] 2000 (by decide) rx_e158 ?_
  rw [f_c_undo_85] at h
  refine rr_if h (fun c94 h => ?_) (fun c94 h => ?_)
  · skip
    exact rx_sub (hk49 _ _ _ _ _ h) [1, 2, 3, 4, 0] rfl
  · skip
    refine rr_g h (fun c103 h => ?_)
    refine rr_if h (fun c106 h => ?_) (fun c106 h => ?_)
    · skip
      refine rr_callP h (fun y hy => f_run_differs_ok_q1r0 _ hy) (fun y1 hy1 h => ?_)
      refine rr_if h (fun c122 h => ?_) (fun c122 h => ?_)
      · skip
        exact rx_sub (f_c_undo_134_ok_w1 hk49 ih _ _ _ _ _ _ h) [0, 1, 2, 3, 4, 5] rfl
      · skip
        refine rr_g h (fun c133 h => ?_)
        exact rx_sub (f_c_undo_134_ok_w1 hk49 ih _ _ _ _ _ _ h) [0, 1, 2, 3, 4, 5] rfl
    · skip
      exact rx_sub (f_c_undo_134_ok_w1 hk49 ih _ _ _ _ _ _ h) [0, 1, 2, 3, 4, 5] rfl
set_option maxRecDepth 100000 in
set_option maxHeartbeats 4000000 in
theorem f_c_undo_79_ok_w1 {p0 p1 p2 p3 : Nat} {o : rx_St} {k49 : Int32 → Int32 → Int32 → Int32 → rx_St → Option (rx_St)} (hk49 : ∀ (v2 : Int32) (v3 : Int32) (v4 : Int32) (v5 : Int32) (σ : rx_St), k49 v2 v3 v4 v5 σ = some o → rx_AtP none 158 49 [(0, .ref 0), (2, .int v2), (3, .int v3), (4, .int v4), (5, .int v5)] [] (rx_D [p0, p1, p2, p3, 21] σ) (none, rx_D [p0, p1, p2, p3, 21] o)) : ∀ (v2 : Int32) (v3 : Int32) (v4 : Int32) (v5 : Int32) (s1 : Int32) (σ : rx_St), f_c_undo_79 1 k49 v2 v3 v4 v5 s1 σ = some o → rx_AtP none 158 79 [(0, .ref 0), (2, .int v2), (3, .int v3), (4, .int v4), (5, .int v5)] [.int s1, .ref 64] (rx_D [p0, p1, p2, p3, 21] σ) (none, rx_D [p0, p1, p2, p3, 21] o) := by
  intro v2 v3 v4 v5 s1 σ h
  refine rx_walk [19, 49, 79, 85, 134] 2000 (by decide) rx_e158 ?_
  unfold f_c_undo_79 at h
  refine rr_callV h (fun y hy => f_run_step_ok_r1w1 _ hy) (fun y1 hy1 h => ?_)
  exact rx_sub (f_c_undo_85_ok_w1 hk49 rx_fu _ _ _ _ _ _ h) [1, 2, 3, 4, 5, 0] rfl
set_option maxRecDepth 100000 in
set_option maxHeartbeats 4000000 in
theorem f_c_undo_49_ok_w1 {p0 p1 p2 p3 : Nat} {o : rx_St} : ∀ (n : Nat) (v2 : Int32) (v3 : Int32) (v4 : Int32) (v5 : Int32) (σ : rx_St), f_c_undo_49 1 n v2 v3 v4 v5 σ = some o → rx_AtP none 158 49 [(0, .ref 0), (2, .int v2), (3, .int v3), (4, .int v4), (5, .int v5)] [] (rx_D [p0, p1, p2, p3, 21] σ) (none, rx_D [p0, p1, p2, p3, 21] o) := by
  intro n
  induction n with
  | zero => intro _ _ _ _ _ h; cases h
  | succ n ih =>
  intro v2 v3 v4 v5 σ h
  refine rx_walk [19, 49, 79, 85, 134] 2000 (by decide) rx_e158 ?_
  rw [f_c_undo_49] at h
  refine rr_if h (fun c52 h => ?_) (fun c52 h => ?_)
  · skip
    cases h
    exact And.intro (rfl) rfl
  · skip
    refine rr_callV h (fun y hy => f_run_step_ok_r0w1 _ hy) (fun y1 hy1 h => ?_)
    refine rr_if h (fun c71 h => ?_) (fun c71 h => ?_)
    · skip
      exact rx_sub (f_c_undo_79_ok_w1 ih _ _ _ _ _ _ h) [0, 1, 2, 3, 4] rfl
    · skip
      exact rx_sub (f_c_undo_79_ok_w1 ih _ _ _ _ _ _ h) [0, 1, 2, 3, 4] rfl
set_option maxRecDepth 100000 in
set_option maxHeartbeats 4000000 in
theorem f_c_undo_19_ok_w1 {p0 p1 p2 p3 : Nat} {o : rx_St} : ∀ (n : Nat) (v2 : Int32) (v3 : Int32) (v4 : Int32) (v5 : Int32) (σ : rx_St), f_c_undo_19 1 n v2 v3 v4 v5 σ = some o → rx_AtP none 158 19 [(0, .ref 0), (2, .int v2), (3, .int v3), (4, .int v4), (5, .int v5)] [] (rx_D [p0, p1, p2, p3, 21] σ) (none, rx_D [p0, p1, p2, p3, 21] o) := by
  intro n
  induction n with
  | zero => intro _ _ _ _ _ h; cases h
  | succ n ih =>
  intro v2 v3 v4 v5 σ h
  refine rx_walk [19, 49, 79, 85, 134] 2000 (by decide) rx_e158 ?_
  rw [f_c_undo_19] at h
  refine rr_if h (fun c28 h => ?_) (fun c28 h => ?_)
  · skip
    exact rx_sub (f_c_undo_49_ok_w1 rx_fu _ _ _ _ _ h) [1, 2, 3, 4, 0] rfl
  · skip
    refine rr_g h (fun c39 h => ?_)
    exact rx_sub (ih _ _ _ _ _ h) [1, 2, 3, 4, 0] rfl
set_option maxRecDepth 100000 in
set_option maxHeartbeats 4000000 in
theorem f_c_undo_ok_w1 {p0 p1 p2 p3 : Nat} {a0 : Int32} {a1 : Int32} {a2 : Int32} {a3 : Int32} {σ : rx_St} : ∀ o, f_c_undo 1 a0 a1 a2 a3 σ = some o → rx_OK 158 [.ref 0, .int a0, .int a1, .int a2, .int a3] 162 [] [p0, p1, p2, p3, 21] σ (none, rx_D [p0, p1, p2, p3, 21] o) := by
  intro o h
  refine rx_OK_of (by decide) (Nat.le_of_ble_eq_true rfl) ?_
  refine rx_walk [19, 49, 79, 85, 134] 2000 (by decide) rx_e158 ?_
  unfold f_c_undo at h
  refine rr_callV h (fun y hy => f_run_restart_ok_r0w1 _ hy) (fun y1 hy1 h => ?_)
  refine rr_callV h (fun y hy => f_run_restart_ok_r1w1 _ hy) (fun y2 hy2 h => ?_)
  exact rx_sub (f_c_undo_19_ok_w1 rx_fu _ _ _ _ _ h) [1, 3, 4, 5, 0] rfl
