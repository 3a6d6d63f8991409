set_option maxRecDepth 100000 in
theorem rx_e115 : rx_Ext none 115 := rx_Ext_plain (by decide +kernel)
set_option maxRecDepth 100000 in
set_option maxHeartbeats 4000000 in
theorem f_wor_hasKind_ok_w1 {P : List Nat} {a0 : Int32} {σ : rx_St} : ∀ o, f_wor_hasKind 1 a0 σ = o → rx_OK 115 [.ref 21, .int a0] 162 [] P σ (some (.int o), rx_D P σ) := by
  intro o h
  refine rx_OK_of (by decide) (Nat.le_of_ble_eq_true rfl) ?_
  refine rx_walk [] 2000 (by decide) rx_e115 ?_
  unfold f_wor_hasKind at h
  refine rr_if h (fun c1 h => ?_) (fun c1 h => ?_)
  · skip
    cases h
    exact And.intro (Or.inl rfl) rfl
  · skip
    refine rr_if h (fun c9 h => ?_) (fun c9 h => ?_)
    · skip
      cases h
      exact And.intro (Or.inl rfl) rfl
    · skip
      cases h
      exact And.intro (Or.inr rfl) rfl
set_option maxRecDepth 100000 in
set_option maxHeartbeats 4000000 in
theorem f_wor_hasKind_ok_w0 {P : List Nat} {a0 : Int32} {σ : rx_St} : ∀ o, f_wor_hasKind 0 a0 σ = o → rx_OK 115 [.ref 7, .int a0] 162 [] P σ (some (.int o), rx_D P σ) := by
  intro o h
  refine rx_OK_of (by decide) (Nat.le_of_ble_eq_true rfl) ?_
  refine rx_walk [] 2000 (by decide) rx_e115 ?_
  unfold f_wor_hasKind at h
  refine rr_if h (fun c1 h => ?_) (fun c1 h => ?_)
  · skip
    cases h
    exact And.intro (Or.inl rfl) rfl
  · skip
    refine rr_if h (fun c9 h => ?_) (fun c9 h => ?_)
    · skip
      cases h
      exact And.intro (Or.inl rfl) rfl
    · skip
      cases h
      exact And.intro (Or.inr rfl) rfl
set_option maxRecDepth 100000 in
theorem rx_e13 : rx_Ext none 13 := rx_Ext_plain (by decide +kernel)
set_option maxRecDepth 100000 in
set_option maxHeartbeats 4000000 in
theorem f_chk_varNamed_16_ok_w0 {p0 p1 p2 p4 : Nat} {o : Int32} : ∀ (n : Nat) (v1 : Int32) (v2 : Int64) (v4 : Int32) (σ : rx_St), f_chk_varNamed_16 0 n v1 v2 v4 σ = some o → rx_AtP none 13 16 [(0, .ref 37), (1, .int v1), (2, .long v2), (4, .int v4)] [] (rx_D [p0, p1, p2, 7, p4] σ) (some (.int o), rx_D [p0, p1, p2, 7, p4] σ) := by
  intro n
  induction n with
  | zero => intro _ _ _ _ h; cases h
  | succ n ih =>
  intro v1 v2 v4 σ h
  refine rx_walk [16] 2000 (by decide) rx_e13 ?_
  rw [f_chk_varNamed_16] at h
  refine rr_g h (fun c26 h => ?_)
  refine rr_if h (fun c27 h => ?_) (fun c27 h => ?_)
  · skip
    cases h
    exact And.intro (trivial) rfl
  · skip
    refine rr_g h (fun c48 h => ?_)
    refine rr_callPL h (fun y hy => f_tap_valueOf_ok _ hy) (fun y1 hy1 h => ?_)
    refine rr_if h (fun c54 h => ?_) (fun c54 h => ?_)
    · skip
      cases h
      exact And.intro (trivial) rfl
    · skip
      exact rx_sub (ih _ _ _ _ h) [1, 2, 3, 0] rfl
set_option maxRecDepth 100000 in
set_option maxHeartbeats 4000000 in
theorem f_chk_varNamed_ok_w0 {p0 p1 p2 p4 : Nat} {a0 : Int32} {a1 : Int64} {σ : rx_St} : ∀ o, f_chk_varNamed 0 a0 a1 σ = some o → rx_OK 13 [.ref 37, .int a0, .long a1] 162 [] [p0, p1, p2, 7, p4] σ (some (.int o), rx_D [p0, p1, p2, 7, p4] σ) := by
  intro o h
  refine rx_OK_of (by decide) (Nat.le_of_ble_eq_true rfl) ?_
  refine rx_walk [16] 2000 (by decide) rx_e13 ?_
  unfold f_chk_varNamed at h
  refine rr_callT (f_wor_hasKind_ok_w0 _ rfl) ?_
  refine rr_if h (fun c8 h => ?_) (fun c8 h => ?_)
  · skip
    cases h
    exact And.intro (trivial) rfl
  · skip
    exact rx_sub (f_chk_varNamed_16_ok_w0 rx_fu _ _ _ _ h) [1, 2, 3, 0] rfl
set_option maxRecDepth 100000 in
set_option maxHeartbeats 4000000 in
theorem f_chk_varNamed_16_ok_w1 {p0 p1 p2 p4 : Nat} {o : Int32} : ∀ (n : Nat) (v1 : Int32) (v2 : Int64) (v4 : Int32) (σ : rx_St), f_chk_varNamed_16 1 n v1 v2 v4 σ = some o → rx_AtP none 13 16 [(0, .ref 37), (1, .int v1), (2, .long v2), (4, .int v4)] [] (rx_D [p0, p1, p2, 21, p4] σ) (some (.int o), rx_D [p0, p1, p2, 21, p4] σ) := by
  intro n
  induction n with
  | zero => intro _ _ _ _ h; cases h
  | succ n ih =>
  intro v1 v2 v4 σ h
  refine rx_walk [16] 2000 (by decide) rx_e13 ?_
  rw [f_chk_varNamed_16] at h
  refine rr_g h (fun c26 h => ?_)
  refine rr_if h (fun c27 h => ?_) (fun c27 h => ?_)
  · skip
    cases h
    exact And.intro (trivial) rfl
  · skip
    refine rr_g h (fun c48 h => ?_)
    refine rr_callPL h (fun y hy => f_tap_valueOf_ok _ hy) (fun y1 hy1 h => ?_)
    refine rr_if h (fun c54 h => ?_) (fun c54 h => ?_)
    · skip
      cases h
      exact And.intro (trivial) rfl
    · skip
      exact rx_sub (ih _ _ _ _ h) [1, 2, 3, 0] rfl
set_option maxRecDepth 100000 in
set_option maxHeartbeats 4000000 in
theorem f_chk_varNamed_ok_w1 {p0 p1 p2 p4 : Nat} {a0 : Int32} {a1 : Int64} {σ : rx_St} : ∀ o, f_chk_varNamed 1 a0 a1 σ = some o → rx_OK 13 [.ref 37, .int a0, .long a1] 162 [] [p0, p1, p2, 21, p4] σ (some (.int o), rx_D [p0, p1, p2, 21, p4] σ) := by
  intro o h
  refine rx_OK_of (by decide) (Nat.le_of_ble_eq_true rfl) ?_
  refine rx_walk [16] 2000 (by decide) rx_e13 ?_
  unfold f_chk_varNamed at h
  refine rr_callT (f_wor_hasKind_ok_w1 _ rfl) ?_
  refine rr_if h (fun c8 h => ?_) (fun c8 h => ?_)
  · skip
    cases h
    exact And.intro (trivial) rfl
  · skip
    exact rx_sub (f_chk_varNamed_16_ok_w1 rx_fu _ _ _ _ h) [1, 2, 3, 0] rfl
set_option maxRecDepth 100000 in
theorem rx_e10 : rx_Ext none 10 := rx_Ext_plain (by decide +kernel)
set_option maxRecDepth 100000 in
set_option maxHeartbeats 4000000 in
theorem f_chk_checkVars_53_ok_w0 {p0 p1 p2 p4 : Nat} {o : rx_St} {k2 : Int32 → Int32 → rx_St → Option (rx_St)} (hk2 : ∀ (v1 : Int32) (v2 : Int32) (σ : rx_St), k2 v1 v2 σ = some o → rx_AtP none 10 2 [(0, .ref 37), (1, .int v1), (2, .int v2)] [] (rx_D [p0, p1, p2, 7, p4] σ) (none, rx_D [p0, p1, p2, 7, p4] o)) : ∀ (v1 : Int32) (v2 : Int32) (σ : rx_St), f_chk_checkVars_53 0 k2 v1 v2 σ = some o → rx_AtP none 10 53 [(0, .ref 37), (1, .int v1), (2, .int v2)] [] (rx_D [p0, p1, p2, 7, p4] σ) (none, rx_D [p0, p1, p2, 7, p4] o) := by
  intro v1 v2 σ h
  refine rx_walk [2, 53] 2000 (by decide) rx_e10 ?_
  unfold f_chk_checkVars_53 at h
  exact rx_sub (hk2 _ _ _ h) [1, 2, 0] rfl
set_option maxRecDepth 100000 in
set_option maxHeartbeats 4000000 in
theorem f_chk_checkVars_2_ok_w0 {p0 p1 p2 p4 : Nat} {o : rx_St} : ∀ (n : Nat) (v1 : Int32) (v2 : Int32) (σ : rx_St), f_chk_checkVars_2 0 n v1 v2 σ = some o → rx_AtP none 10 2 [(0, .ref 37), (1, .int v1), (2, .int v2)] [] (rx_D [p0, p1, p2, 7, p4] σ) (none, rx_D [p0, p1, p2, 7, p4] o) := by
  intro n
  induction n with
  | zero => intro _ _ _ h; cases h
  | succ n ih =>
  intro v1 v2 σ h
  refine rx_walk [2, 53] 2000 (by decide) rx_e10 ?_
  rw [f_chk_checkVars_2] at h
  refine rr_g h (fun c11 h => ?_)
  refine rr_if h (fun c12 h => ?_) (fun c12 h => ?_)
  · skip
    cases h
    exact And.intro (rfl) rfl
  · skip
    refine rr_g h (fun c28 h => ?_)
    refine rr_callPL h (fun y hy => f_tap_valueOf_ok _ hy) (fun y2 hy2 h => ?_)
    refine rr_callP h (fun y hy => f_chk_varNamed_ok_w0 _ hy) (fun y3 hy3 h => ?_)
    refine rr_if h (fun c44 h => ?_) (fun c44 h => ?_)
    · skip
      exact rx_sub (f_chk_checkVars_53_ok_w0 ih _ _ _ h) [1, 2, 3] rfl
    · skip
      refine rr_callV h (fun y hy => f_chk_find_ok _ hy) (fun y4 hy4 h => ?_)
      exact rx_sub (f_chk_checkVars_53_ok_w0 ih _ _ _ h) [1, 2, 3] rfl
set_option maxRecDepth 100000 in
set_option maxHeartbeats 4000000 in
theorem f_chk_checkVars_ok_w0 {p0 p1 p2 p4 : Nat} {a0 : Int32} {σ : rx_St} : ∀ o, f_chk_checkVars 0 a0 σ = some o → rx_OK 10 [.ref 37, .int a0] 162 [] [p0, p1, p2, 7, p4] σ (none, rx_D [p0, p1, p2, 7, p4] o) := by
  intro o h
  refine rx_OK_of (by decide) (Nat.le_of_ble_eq_true rfl) ?_
  refine rx_walk [2, 53] 2000 (by decide) rx_e10 ?_
  unfold f_chk_checkVars at h
  exact rx_sub (f_chk_checkVars_2_ok_w0 rx_fu _ _ _ h) [1, 2, 0] rfl
set_option maxRecDepth 100000 in
set_option maxHeartbeats 4000000 in
theorem f_chk_checkVars_53_ok_w1 {p0 p1 p2 p4 : Nat} {o : rx_St} {k2 : Int32 → Int32 → rx_St → Option (rx_St)} (hk2 : ∀ (v1 : Int32) (v2 : Int32) (σ : rx_St), k2 v1 v2 σ = some o → rx_AtP none 10 2 [(0, .ref 37), (1, .int v1), (2, .int v2)] [] (rx_D [p0, p1, p2, 21, p4] σ) (none, rx_D [p0, p1, p2, 21, p4] o)) : ∀ (v1 : Int32) (v2 : Int32) (σ : rx_St), f_chk_checkVars_53 1 k2 v1 v2 σ = some o → rx_AtP none 10 53 [(0, .ref 37), (1, .int v1), (2, .int v2)] [] (rx_D [p0, p1, p2, 21, p4] σ) (none, rx_D [p0, p1, p2, 21, p4] o) := by
  intro v1 v2 σ h
  refine rx_walk [2, 53] 2000 (by decide) rx_e10 ?_
  unfold f_chk_checkVars_53 at h
  exact rx_sub (hk2 _ _ _ h) [1, 2, 0] rfl
set_option maxRecDepth 100000 in
set_option maxHeartbeats 4000000 in
theorem f_chk_checkVars_2_ok_w1 {p0 p1 p2 p4 : Nat} {o : rx_St} : ∀ (n : Nat) (v1 : Int32) (v2 : Int32) (σ : rx_St), f_chk_checkVars_2 1 n v1 v2 σ = some o → rx_AtP none 10 2 [(0, .ref 37), (1, .int v1), (2, .int v2)] [] (rx_D [p0, p1, p2, 21, p4] σ) (none, rx_D [p0, p1, p2, 21, p4] o) := by
  intro n
  induction n with
  | zero => intro _ _ _ h; cases h
  | succ n ih =>
  intro v1 v2 σ h
  refine rx_walk [2, 53] 2000 (by decide) rx_e10 ?_
  rw [f_chk_checkVars_2] at h
  refine rr_g h (fun c11 h => ?_)
  refine rr_if h (fun c12 h => ?_) (fun c12 h => ?_)
  · skip
    cases h
    exact And.intro (rfl) rfl
  · skip
    refine rr_g h (fun c28 h => ?_)
    refine rr_callPL h (fun y hy => f_tap_valueOf_ok _ hy) (fun y2 hy2 h => ?_)
    refine rr_callP h (fun y hy => f_chk_varNamed_ok_w1 _ hy) (fun y3 hy3 h => ?_)
    refine rr_if h (fun c44 h => ?_) (fun c44 h => ?_)
    · skip
      exact rx_sub (f_chk_checkVars_53_ok_w1 ih _ _ _ h) [1, 2, 3] rfl
    · skip
      refine rr_callV h (fun y hy => f_chk_find_ok _ hy) (fun y4 hy4 h => ?_)
      exact rx_sub (f_chk_checkVars_53_ok_w1 ih _ _ _ h) [1, 2, 3] rfl
set_option maxRecDepth 100000 in
set_option maxHeartbeats 4000000 in
theorem f_chk_checkVars_ok_w1 {p0 p1 p2 p4 : Nat} {a0 : Int32} {σ : rx_St} : ∀ o, f_chk_checkVars 1 a0 σ = some o → rx_OK 10 [.ref 37, .int a0] 162 [] [p0, p1, p2, 21, p4] σ (none, rx_D [p0, p1, p2, 21, p4] o) := by
  intro o h
  refine rx_OK_of (by decide) (Nat.le_of_ble_eq_true rfl) ?_
  refine rx_walk [2, 53] 2000 (by decide) rx_e10 ?_
  unfold f_chk_checkVars at h
  exact rx_sub (f_chk_checkVars_2_ok_w1 rx_fu _ _ _ h) [1, 2, 0] rfl
set_option maxRecDepth 100000 in
theorem rx_e15 : rx_Ext none 15 := rx_Ext_plain (by decide +kernel)
set_option maxRecDepth 100000 in
set_option maxHeartbeats 4000000 in
theorem f_chk_resolveName_76_ok_w0 {p0 p1 p2 p4 : Nat} {o : rx_St} : ∀ (v2 : Int32) (v5 : Int32) (v6 : Int32) (s1 : Int32) (s2 : Int32) (σ : rx_St), f_chk_resolveName_76 0 v2 v5 v6 s1 s2 σ = some o → rx_AtP none 15 76 [(0, .ref 37), (2, .int v2), (5, .int v5), (6, .int v6)] [.int s2, .int s1, .ref 18] (rx_D [p0, p1, p2, 7, p4] σ) (none, rx_D [p0, p1, p2, 7, p4] o) := by
  intro v2 v5 v6 s1 s2 σ h
  refine rx_walk [56, 76] 2000 (by decide) rx_e15 ?_
  unfold f_chk_resolveName_76 at h
  refine rr_g h (fun c76 h => ?_)
  refine rr_if h (fun c87 h => ?_) (fun c87 h => ?_)
  · skip
    refine rr_g h (fun c97 h => ?_)
    cases h
    exact And.intro (rfl) rfl
  · skip
    refine rr_g h (fun c97 h => ?_)
    cases h
    exact And.intro (rfl) rfl
set_option maxRecDepth 100000 in
set_option maxHeartbeats 4000000 in
theorem f_chk_resolveName_56_ok_w0 {p0 p1 p2 p4 : Nat} {o : rx_St} : ∀ (v2 : Int32) (v5 : Int32) (v6 : Int32) (σ : rx_St), f_chk_resolveName_56 0 v2 v5 v6 σ = some o → rx_AtP none 15 56 [(0, .ref 37), (2, .int v2), (5, .int v5), (6, .int v6)] [] (rx_D [p0, p1, p2, 7, p4] σ) (none, rx_D [p0, p1, p2, 7, p4] o) := by
  intro v2 v5 v6 σ h
  refine rx_walk [56, 76] 2000 (by decide) rx_e15 ?_
  unfold f_chk_resolveName_56 at h
  refine rr_if h (fun c66 h => ?_) (fun c66 h => ?_)
  · skip
    exact rx_sub (f_chk_resolveName_76_ok_w0 _ _ _ _ _ _ h) [0, 1, 2, 3] rfl
  · skip
    exact rx_sub (f_chk_resolveName_76_ok_w0 _ _ _ _ _ _ h) [0, 1, 2, 3] rfl
set_option maxRecDepth 100000 in
set_option maxHeartbeats 4000000 in
theorem f_chk_resolveName_ok_w0 {p0 p1 p2 p4 : Nat} {a0 : Int32} {a1 : Int32} {σ : rx_St} : ∀ o, f_chk_resolveName 0 a0 a1 σ = some o → rx_OK 15 [.ref 37, .int a0, .int a1] 162 [] [p0, p1, p2, 7, p4] σ (none, rx_D [p0, p1, p2, 7, p4] o) := by
  intro o h
  refine rx_OK_of (by decide) (Nat.le_of_ble_eq_true rfl) ?_
  refine rx_walk [56, 76] 2000 (by decide) rx_e15 ?_
  unfold f_chk_resolveName at h
  refine rr_g h (fun c12 h => ?_)
  refine rr_callPL h (fun y hy => f_tap_valueOf_ok _ hy) (fun y1 hy1 h => ?_)
  refine rr_callP h (fun y hy => f_chk_varNamed_ok_w0 _ hy) (fun y2 hy2 h => ?_)
  refine rr_callP h (fun y hy => f_chk_settingNamed_ok_w0 _ hy) (fun y3 hy3 h => ?_)
  refine rr_if h (fun c34 h => ?_) (fun c34 h => ?_)
  · skip
    exact rx_sub (f_chk_resolveName_56_ok_w0 _ _ _ _ h) [3, 5, 1, 0] rfl
  · skip
    refine rr_if h (fun c39 h => ?_) (fun c39 h => ?_)
    · skip
      exact rx_sub (f_chk_resolveName_56_ok_w0 _ _ _ _ h) [3, 5, 1, 0] rfl
    · skip
      refine rr_g h (fun c52 h => ?_)
      refine rr_callV h (fun y hy => f_chk_find_ok _ hy) (fun y4 hy4 h => ?_)
      exact rx_sub (f_chk_resolveName_56_ok_w0 _ _ _ _ h) [3, 5, 1, 0] rfl
set_option maxRecDepth 100000 in
set_option maxHeartbeats 4000000 in
theorem f_chk_resolveName_76_ok_w1 {p0 p1 p2 p4 : Nat} {o : rx_St} : ∀ (v2 : Int32) (v5 : Int32) (v6 : Int32) (s1 : Int32) (s2 : Int32) (σ : rx_St), f_chk_resolveName_76 1 v2 v5 v6 s1 s2 σ = some o → rx_AtP none 15 76 [(0, .ref 37), (2, .int v2), (5, .int v5), (6, .int v6)] [.int s2, .int s1, .ref 32] (rx_D [p0, p1, p2, 21, p4] σ) (none, rx_D [p0, p1, p2, 21, p4] o) := by
  intro v2 v5 v6 s1 s2 σ h
  refine rx_walk [56, 76] 2000 (by decide) rx_e15 ?_
  unfold f_chk_resolveName_76 at h
  refine rr_g h (fun c76 h => ?_)
  refine rr_if h (fun c87 h => ?_) (fun c87 h => ?_)
  · skip
    refine rr_g h (fun c97 h => ?_)
    cases h
    exact And.intro (rfl) rfl
  · skip
    refine rr_g h (fun c97 h => ?_)
    cases h
    exact And.intro (rfl) rfl
set_option maxRecDepth 100000 in
set_option maxHeartbeats 4000000 in
theorem f_chk_resolveName_56_ok_w1 {p0 p1 p2 p4 : Nat} {o : rx_St} : ∀ (v2 : Int32) (v5 : Int32) (v6 : Int32) (σ : rx_St), f_chk_resolveName_56 1 v2 v5 v6 σ = some o → rx_AtP none 15 56 [(0, .ref 37), (2, .int v2), (5, .int v5), (6, .int v6)] [] (rx_D [p0, p1, p2, 21, p4] σ) (none, rx_D [p0, p1, p2, 21, p4] o) := by
  intro v2 v5 v6 σ h
  refine rx_walk [56, 76] 2000 (by decide) rx_e15 ?_
  unfold f_chk_resolveName_56 at h
  refine rr_if h (fun c66 h => ?_) (fun c66 h => ?_)
  · skip
    exact rx_sub (f_chk_resolveName_76_ok_w1 _ _ _ _ _ _ h) [0, 1, 2, 3] rfl
  · skip
    exact rx_sub (f_chk_resolveName_76_ok_w1 _ _ _ _ _ _ h) [0, 1, 2, 3] rfl
set_option maxRecDepth 100000 in
set_option maxHeartbeats 4000000 in
theorem f_chk_resolveName_ok_w1 {p0 p1 p2 p4 : Nat} {a0 : Int32} {a1 : Int32} {σ : rx_St} : ∀ o, f_chk_resolveName 1 a0 a1 σ = some o → rx_OK 15 [.ref 37, .int a0, .int a1] 162 [] [p0, p1, p2, 21, p4] σ (none, rx_D [p0, p1, p2, 21, p4] o) := by
  intro o h
  refine rx_OK_of (by decide) (Nat.le_of_ble_eq_true rfl) ?_
  refine rx_walk [56, 76] 2000 (by decide) rx_e15 ?_
  unfold f_chk_resolveName at h
  refine rr_g h (fun c12 h => ?_)
  refine rr_callPL h (fun y hy => f_tap_valueOf_ok _ hy) (fun y1 hy1 h => ?_)
  refine rr_callP h (fun y hy => f_chk_varNamed_ok_w1 _ hy) (fun y2 hy2 h => ?_)
  refine rr_callP h (fun y hy => f_chk_settingNamed_ok_w1 _ hy) (fun y3 hy3 h => ?_)
  refine rr_if h (fun c34 h => ?_) (fun c34 h => ?_)
  · skip
    exact rx_sub (f_chk_resolveName_56_ok_w1 _ _ _ _ h) [3, 5, 1, 0] rfl
  · skip
    refine rr_if h (fun c39 h => ?_) (fun c39 h => ?_)
    · skip
      exact rx_sub (f_chk_resolveName_56_ok_w1 _ _ _ _ h) [3, 5, 1, 0] rfl
    · skip
      refine rr_g h (fun c52 h => ?_)
      refine rr_callV h (fun y hy => f_chk_find_ok _ hy) (fun y4 hy4 h => ?_)
      exact rx_sub (f_chk_resolveName_56_ok_w1 _ _ _ _ h) [3, 5, 1, 0] rfl
set_option maxRecDepth 100000 in
theorem rx_e18 : rx_Ext none 18 := rx_Ext_plain (by decide +kernel)
set_option maxRecDepth 100000 in
set_option maxHeartbeats 4000000 in
theorem f_chk_needKind_ok_w0 {p0 p1 p2 p4 : Nat} {a0 : Int32} {σ : rx_St} : ∀ o, f_chk_needKind 0 a0 σ = some o → rx_OK 18 [.ref 37, .int a0] 162 [] [p0, p1, p2, 7, p4] σ (some (.int o.1), rx_D [p0, p1, p2, 7, p4] o.2) := by
  intro o h
  refine rx_OK_of (by decide) (Nat.le_of_ble_eq_true rfl) ?_
  refine rx_walk [] 2000 (by decide) rx_e18 ?_
  unfold f_chk_needKind at h
  refine rr_callPL h (fun y hy => f_tap_valueOf_ok _ hy) (fun y1 hy1 h => ?_)
  refine rr_callP h (fun y hy => f_chk_kindNamed_ok_w0 _ hy) (fun y2 hy2 h => ?_)
  refine rr_if h (fun c14 h => ?_) (fun c14 h => ?_)
  · skip
    cases h
    exact And.intro (trivial) rfl
  · skip
    refine rr_callV h (fun y hy => f_chk_find_ok _ hy) (fun y3 hy3 h => ?_)
    cases h
    exact And.intro (trivial) rfl
set_option maxRecDepth 100000 in
set_option maxHeartbeats 4000000 in
theorem f_chk_needKind_ok_w1 {p0 p1 p2 p4 : Nat} {a0 : Int32} {σ : rx_St} : ∀ o, f_chk_needKind 1 a0 σ = some o → rx_OK 18 [.ref 37, .int a0] 162 [] [p0, p1, p2, 21, p4] σ (some (.int o.1), rx_D [p0, p1, p2, 21, p4] o.2) := by
  intro o h
  refine rx_OK_of (by decide) (Nat.le_of_ble_eq_true rfl) ?_
  refine rx_walk [] 2000 (by decide) rx_e18 ?_
  unfold f_chk_needKind at h
  refine rr_callPL h (fun y hy => f_tap_valueOf_ok _ hy) (fun y1 hy1 h => ?_)
  refine rr_callP h (fun y hy => f_chk_kindNamed_ok_w1 _ hy) (fun y2 hy2 h => ?_)
  refine rr_if h (fun c14 h => ?_) (fun c14 h => ?_)
  · skip
    cases h
    exact And.intro (trivial) rfl
  · skip
    refine rr_callV h (fun y hy => f_chk_find_ok _ hy) (fun y3 hy3 h => ?_)
    cases h
    exact And.intro (trivial) rfl
set_option maxRecDepth 100000 in
theorem rx_e19 : rx_Ext none 19 := rx_Ext_plain (by decide +kernel)
set_option maxRecDepth 100000 in
set_option maxHeartbeats 4000000 in
theorem f_chk_needVar_ok_w0 {p0 p1 p2 p4 : Nat} {a0 : Int32} {a1 : Int32} {σ : rx_St} : ∀ o, f_chk_needVar 0 a0 a1 σ = some o → rx_OK 19 [.ref 37, .int a0, .int a1] 162 [] [p0, p1, p2, 7, p4] σ (some (.int o.1), rx_D [p0, p1, p2, 7, p4] o.2) := by
  intro o h
  refine rx_OK_of (by decide) (Nat.le_of_ble_eq_true rfl) ?_
  refine rx_walk [] 2000 (by decide) rx_e19 ?_
  unfold f_chk_needVar at h
  refine rr_callPL h (fun y hy => f_tap_valueOf_ok _ hy) (fun y1 hy1 h => ?_)
  refine rr_callP h (fun y hy => f_chk_varNamed_ok_w0 _ hy) (fun y2 hy2 h => ?_)
  refine rr_if h (fun c15 h => ?_) (fun c15 h => ?_)
  · skip
    cases h
    exact And.intro (trivial) rfl
  · skip
    refine rr_callV h (fun y hy => f_chk_find_ok _ hy) (fun y3 hy3 h => ?_)
    cases h
    exact And.intro (trivial) rfl
set_option maxRecDepth 100000 in
set_option maxHeartbeats 4000000 in
theorem f_chk_needVar_ok_w1 {p0 p1 p2 p4 : Nat} {a0 : Int32} {a1 : Int32} {σ : rx_St} : ∀ o, f_chk_needVar 1 a0 a1 σ = some o → rx_OK 19 [.ref 37, .int a0, .int a1] 162 [] [p0, p1, p2, 21, p4] σ (some (.int o.1), rx_D [p0, p1, p2, 21, p4] o.2) := by
  intro o h
  refine rx_OK_of (by decide) (Nat.le_of_ble_eq_true rfl) ?_
  refine rx_walk [] 2000 (by decide) rx_e19 ?_
  unfold f_chk_needVar at h
  refine rr_callPL h (fun y hy => f_tap_valueOf_ok _ hy) (fun y1 hy1 h => ?_)
  refine rr_callP h (fun y hy => f_chk_varNamed_ok_w1 _ hy) (fun y2 hy2 h => ?_)
  refine rr_if h (fun c15 h => ?_) (fun c15 h => ?_)
  · skip
    cases h
    exact And.intro (trivial) rfl
  · skip
    refine rr_callV h (fun y hy => f_chk_find_ok _ hy) (fun y3 hy3 h => ?_)
    cases h
    exact And.intro (trivial) rfl
set_option maxRecDepth 100000 in
theorem rx_e16 : rx_Ext none 16 := rx_Ext_plain (by decide +kernel)
set_option maxRecDepth 100000 in
set_option maxHeartbeats 4000000 in
theorem f_chk_resolveSum_78_ok_w0 {p0 p1 p2 p4 : Nat} {o : rx_St} : ∀ (v2 : Int32) (v3 : Int32) (v4 : Int32) (σ : rx_St), f_chk_resolveSum_78 0 v2 v3 v4 σ = some o → rx_AtP none 16 78 [(0, .ref 37), (2, .int v2), (3, .int v3), (4, .int v4)] [] (rx_D [p0, p1, p2, 7, p4] σ) (none, rx_D [p0, p1, p2, 7, p4] o) := by
  intro v2 v3 v4 σ h
  refine rx_walk [78] 2000 (by decide) rx_e16 ?_
  unfold f_chk_resolveSum_78 at h
  refine rr_g h (fun c87 h => ?_)
  refine rr_g h (fun c98 h => ?_)
  cases h
  exact And.intro (rfl) rfl
set_option maxRecDepth 100000 in
set_option maxHeartbeats 4000000 in
theorem f_chk_resolveSum_ok_w0 {p0 p1 p2 p4 : Nat} {a0 : Int32} {a1 : Int32} {σ : rx_St} : ∀ o, f_chk_resolveSum 0 a0 a1 σ = some o → rx_OK 16 [.ref 37, .int a0, .int a1] 162 [] [p0, p1, p2, 7, p4] σ (none, rx_D [p0, p1, p2, 7, p4] o) := by
  intro o h
  refine rx_OK_of (by decide) (Nat.le_of_ble_eq_true rfl) ?_
  refine rx_walk [78] 2000 (by decide) rx_e16 ?_
  unfold f_chk_resolveSum at h
  refine rr_g h (fun c9 h => ?_)
  refine rr_callS h (fun y hy => f_chk_needKind_ok_w0 _ hy) (fun y1 hy1 h => ?_)
  refine rr_if h (fun c15 h => ?_) (fun c15 h => ?_)
  · skip
    refine rr_g h (fun c29 h => ?_)
    refine rr_callS h (fun y hy => f_chk_needVar_ok_w0 _ hy) (fun y2 hy2 h => ?_)
    refine rr_if h (fun c37 h => ?_) (fun c37 h => ?_)
    · skip
      exact rx_sub (f_chk_resolveSum_78_ok_w0 _ _ _ _ h) [2, 4, 1, 0] rfl
    · skip
      refine rr_if h (fun c42 h => ?_) (fun c42 h => ?_)
      · skip
        exact rx_sub (f_chk_resolveSum_78_ok_w0 _ _ _ _ h) [2, 4, 1, 0] rfl
      · skip
        refine rr_g h (fun c59 h => ?_)
        refine rr_if h (fun c60 h => ?_) (fun c60 h => ?_)
        · skip
          exact rx_sub (f_chk_resolveSum_78_ok_w0 _ _ _ _ h) [2, 4, 1, 0] rfl
        · skip
          refine rr_g h (fun c74 h => ?_)
          refine rr_callV h (fun y hy => f_chk_find_ok _ hy) (fun y3 hy3 h => ?_)
          exact rx_sub (f_chk_resolveSum_78_ok_w0 _ _ _ _ h) [2, 4, 1, 0] rfl
  · skip
    cases h
    exact And.intro (rfl) rfl
set_option maxRecDepth 100000 in
set_option maxHeartbeats 4000000 in
theorem f_chk_resolveSum_78_ok_w1 {p0 p1 p2 p4 : Nat} {o : rx_St} : ∀ (v2 : Int32) (v3 : Int32) (v4 : Int32) (σ : rx_St), f_chk_resolveSum_78 1 v2 v3 v4 σ = some o → rx_AtP none 16 78 [(0, .ref 37), (2, .int v2), (3, .int v3), (4, .int v4)] [] (rx_D [p0, p1, p2, 21, p4] σ) (none, rx_D [p0, p1, p2, 21, p4] o) := by
  intro v2 v3 v4 σ h
  refine rx_walk [78] 2000 (by decide) rx_e16 ?_
  unfold f_chk_resolveSum_78 at h
  refine rr_g h (fun c87 h => ?_)
  refine rr_g h (fun c98 h => ?_)
  cases h
  exact And.intro (rfl) rfl
set_option maxRecDepth 100000 in
set_option maxHeartbeats 4000000 in
theorem f_chk_resolveSum_ok_w1 {p0 p1 p2 p4 : Nat} {a0 : Int32} {a1 : Int32} {σ : rx_St} : ∀ o, f_chk_resolveSum 1 a0 a1 σ = some o → rx_OK 16 [.ref 37, .int a0, .int a1] 162 [] [p0, p1, p2, 21, p4] σ (none, rx_D [p0, p1, p2, 21, p4] o) := by
  intro o h
  refine rx_OK_of (by decide) (Nat.le_of_ble_eq_true rfl) ?_
  refine rx_walk [78] 2000 (by decide) rx_e16 ?_
  unfold f_chk_resolveSum at h
  refine rr_g h (fun c9 h => ?_)
  refine rr_callS h (fun y hy => f_chk_needKind_ok_w1 _ hy) (fun y1 hy1 h => ?_)
  refine rr_if h (fun c15 h => ?_) (fun c15 h => ?_)
  · skip
    refine rr_g h (fun c29 h => ?_)
    refine rr_callS h (fun y hy => f_chk_needVar_ok_w1 _ hy) (fun y2 hy2 h => ?_)
    refine rr_if h (fun c37 h => ?_) (fun c37 h => ?_)
    · skip
      exact rx_sub (f_chk_resolveSum_78_ok_w1 _ _ _ _ h) [2, 4, 1, 0] rfl
    · skip
      refine rr_if h (fun c42 h => ?_) (fun c42 h => ?_)
      · skip
        exact rx_sub (f_chk_resolveSum_78_ok_w1 _ _ _ _ h) [2, 4, 1, 0] rfl
      · skip
        refine rr_g h (fun c59 h => ?_)
        refine rr_if h (fun c60 h => ?_) (fun c60 h => ?_)
        · skip
          exact rx_sub (f_chk_resolveSum_78_ok_w1 _ _ _ _ h) [2, 4, 1, 0] rfl
        · skip
          refine rr_g h (fun c74 h => ?_)
          refine rr_callV h (fun y hy => f_chk_find_ok _ hy) (fun y3 hy3 h => ?_)
          exact rx_sub (f_chk_resolveSum_78_ok_w1 _ _ _ _ h) [2, 4, 1, 0] rfl
  · skip
    cases h
    exact And.intro (rfl) rfl
set_option maxRecDepth 100000 in
theorem rx_e17 : rx_Ext none 17 := rx_Ext_plain (by decide +kernel)
set_option maxRecDepth 100000 in
set_option maxHeartbeats 4000000 in
theorem f_chk_resolveGive_65_ok_w0 {p0 p1 p2 p4 : Nat} {o : rx_St} : ∀ (v1 : Int32) (v2 : Int32) (v5 : Int32) (v6 : Int32) (σ : rx_St), f_chk_resolveGive_65 0 v1 v2 v5 v6 σ = some o → rx_AtP none 17 65 [(0, .ref 37), (1, .int v1), (2, .int v2), (5, .int v5), (6, .int v6)] [] (rx_D [p0, p1, p2, 7, p4] σ) (none, rx_D [p0, p1, p2, 7, p4] o) := by
  intro v1 v2 v5 v6 σ h
  refine rx_walk [65] 2000 (by decide) rx_e17 ?_
  unfold f_chk_resolveGive_65 at h
  refine rr_g h (fun c83 h => ?_)
  refine rr_callS h (fun y hy => f_chk_needVar_ok_w0 _ hy) (fun y1 hy1 h => ?_)
  refine rr_g h (fun c87 h => ?_)
  refine rr_g h (fun c104 h => ?_)
  cases h
  exact And.intro (rfl) rfl
set_option maxRecDepth 100000 in
set_option maxHeartbeats 4000000 in
theorem f_chk_resolveGive_ok_w0 {p0 p1 p2 p4 : Nat} {a0 : Int32} {a1 : Int32} {σ : rx_St} : ∀ o, f_chk_resolveGive 0 a0 a1 σ = some o → rx_OK 17 [.ref 37, .int a0, .int a1] 162 [] [p0, p1, p2, 7, p4] σ (none, rx_D [p0, p1, p2, 7, p4] o) := by
  intro o h
  refine rx_OK_of (by decide) (Nat.le_of_ble_eq_true rfl) ?_
  refine rx_walk [65] 2000 (by decide) rx_e17 ?_
  unfold f_chk_resolveGive at h
  refine rr_g h (fun c12 h => ?_)
  refine rr_callPL h (fun y hy => f_tap_valueOf_ok _ hy) (fun y1 hy1 h => ?_)
  refine rr_g h (fun c26 h => ?_)
  refine rr_callS h (fun y hy => f_chk_needKind_ok_w0 _ hy) (fun y2 hy2 h => ?_)
  refine rr_callP h (fun y hy => f_chk_varNamed_ok_w0 _ hy) (fun y3 hy3 h => ?_)
  refine rr_if h (fun c43 h => ?_) (fun c43 h => ?_)
  · skip
    exact rx_sub (f_chk_resolveGive_65_ok_w0 _ _ _ _ _ h) [3, 4, 5, 1, 0] rfl
  · skip
    refine rr_if h (fun c48 h => ?_) (fun c48 h => ?_)
    · skip
      exact rx_sub (f_chk_resolveGive_65_ok_w0 _ _ _ _ _ h) [3, 4, 5, 1, 0] rfl
    · skip
      refine rr_g h (fun c61 h => ?_)
      refine rr_callV h (fun y hy => f_chk_find_ok _ hy) (fun y4 hy4 h => ?_)
      exact rx_sub (f_chk_resolveGive_65_ok_w0 _ _ _ _ _ h) [3, 4, 5, 1, 0] rfl
set_option maxRecDepth 100000 in
set_option maxHeartbeats 4000000 in
theorem f_chk_resolveGive_65_ok_w1 {p0 p1 p2 p4 : Nat} {o : rx_St} : ∀ (v1 : Int32) (v2 : Int32) (v5 : Int32) (v6 : Int32) (σ : rx_St), f_chk_resolveGive_65 1 v1 v2 v5 v6 σ = some o → rx_AtP none 17 65 [(0, .ref 37), (1, .int v1), (2, .int v2), (5, .int v5), (6, .int v6)] [] (rx_D [p0, p1, p2, 21, p4] σ) (none, rx_D [p0, p1, p2, 21, p4] o) := by
  intro v1 v2 v5 v6 σ h
  refine rx_walk [65] 2000 (by decide) rx_e17 ?_
  unfold f_chk_resolveGive_65 at h
  refine rr_g h (fun c83 h => ?_)
  refine rr_callS h (fun y hy => f_chk_needVar_ok_w1 _ hy) (fun y1 hy1 h => ?_)
  refine rr_g h (fun c87 h => ?_)
  refine rr_g h (fun c104 h => ?_)
  cases h
  exact And.intro (rfl) rfl
set_option maxRecDepth 100000 in
set_option maxHeartbeats 4000000 in
theorem f_chk_resolveGive_ok_w1 {p0 p1 p2 p4 : Nat} {a0 : Int32} {a1 : Int32} {σ : rx_St} : ∀ o, f_chk_resolveGive 1 a0 a1 σ = some o → rx_OK 17 [.ref 37, .int a0, .int a1] 162 [] [p0, p1, p2, 21, p4] σ (none, rx_D [p0, p1, p2, 21, p4] o) := by
  intro o h
  refine rx_OK_of (by decide) (Nat.le_of_ble_eq_true rfl) ?_
  refine rx_walk [65] 2000 (by decide) rx_e17 ?_
  unfold f_chk_resolveGive at h
  refine rr_g h (fun c12 h => ?_)
  refine rr_callPL h (fun y hy => f_tap_valueOf_ok _ hy) (fun y1 hy1 h => ?_)
  refine rr_g h (fun c26 h => ?_)
  refine rr_callS h (fun y hy => f_chk_needKind_ok_w1 _ hy) (fun y2 hy2 h => ?_)
  refine rr_callP h (fun y hy => f_chk_varNamed_ok_w1 _ hy) (fun y3 hy3 h => ?_)
  refine rr_if h (fun c43 h => ?_) (fun c43 h => ?_)
  · skip
    exact rx_sub (f_chk_resolveGive_65_ok_w1 _ _ _ _ _ h) [3, 4, 5, 1, 0] rfl
  · skip
    refine rr_if h (fun c48 h => ?_) (fun c48 h => ?_)
    · skip
      exact rx_sub (f_chk_resolveGive_65_ok_w1 _ _ _ _ _ h) [3, 4, 5, 1, 0] rfl
    · skip
      refine rr_g h (fun c61 h => ?_)
      refine rr_callV h (fun y hy => f_chk_find_ok _ hy) (fun y4 hy4 h => ?_)
      exact rx_sub (f_chk_resolveGive_65_ok_w1 _ _ _ _ _ h) [3, 4, 5, 1, 0] rfl
set_option maxRecDepth 100000 in
theorem rx_e14 : rx_Ext none 14 := rx_Ext_plain (by decide +kernel)
set_option maxRecDepth 100000 in
set_option maxHeartbeats 4000000 in
theorem f_chk_resolve_193_ok_w0 {p0 p1 p2 p4 : Nat} {o : rx_St} : ∀ (v1 : Int32) (v2 : Int32) (σ : rx_St), f_chk_resolve_193 0 v1 v2 σ = some o → rx_AtP none 14 193 [(0, .ref 37), (1, .int v1), (2, .int v2)] [] (rx_D [p0, p1, p2, 7, p4] σ) (none, rx_D [p0, p1, p2, 7, p4] o) := by
  intro v1 v2 σ h
  refine rx_walk [193] 2000 (by decide) rx_e14 ?_
  unfold f_chk_resolve_193 at h
  refine rr_callV h (fun y hy => f_chk_resolveGive_ok_w0 _ hy) (fun y1 hy1 h => ?_)
  cases h
  exact And.intro (rfl) rfl
set_option maxRecDepth 100000 in
set_option maxHeartbeats 4000000 in
theorem f_chk_resolve_ok_w0 {p0 p1 p2 p4 : Nat} {a0 : Int32} {a1 : Int32} {σ : rx_St} : ∀ o, f_chk_resolve 0 a0 a1 σ = some o → rx_OK 14 [.ref 37, .int a0, .int a1] 162 [] [p0, p1, p2, 7, p4] σ (none, rx_D [p0, p1, p2, 7, p4] o) := by
  intro o h
  refine rx_OK_of (by decide) (Nat.le_of_ble_eq_true rfl) ?_
  refine rx_walk [193] 2000 (by decide) rx_e14 ?_
  unfold f_chk_resolve at h
  refine rr_g h (fun c8 h => ?_)
  refine rr_g h (fun c18 h => ?_)
  refine rr_if h (fun c19_0 h => ?_) (fun c19_0 h => ?_)
  · skip
    refine rr_callS h (fun y hy => f_chk_needVar_ok_w0 _ hy) (fun y7 hy7 h => ?_)
    refine rr_g h (fun c189 h => ?_)
    cases h
    exact And.intro (rfl) rfl
  · skip
    refine rr_if h (fun c19_1 h => ?_) (fun c19_1 h => ?_)
    · skip
      cases h
      exact And.intro (rfl) rfl
    · skip
      refine rr_if h (fun c19_2 h => ?_) (fun c19_2 h => ?_)
      · skip
        cases h
        exact And.intro (rfl) rfl
      · skip
        refine rr_if h (fun c19_3 h => ?_) (fun c19_3 h => ?_)
        · skip
          cases h
          exact And.intro (rfl) rfl
        · skip
          refine rr_if h (fun c19_4 h => ?_) (fun c19_4 h => ?_)
          · skip
            exact rx_sub (f_chk_resolve_193_ok_w0 _ _ _ h) [1, 2, 3] rfl
          · skip
            refine rr_if h (fun c19_5 h => ?_) (fun c19_5 h => ?_)
            · skip
              exact rx_sub (f_chk_resolve_193_ok_w0 _ _ _ h) [1, 2, 3] rfl
            · skip
              refine rr_if h (fun c19_6 h => ?_) (fun c19_6 h => ?_)
              · skip
                cases h
                exact And.intro (rfl) rfl
              · skip
                refine rr_if h (fun c19_7 h => ?_) (fun c19_7 h => ?_)
                · skip
                  cases h
                  exact And.intro (rfl) rfl
                · skip
                  refine rr_if h (fun c19_8 h => ?_) (fun c19_8 h => ?_)
                  · skip
                    cases h
                    exact And.intro (rfl) rfl
                  · skip
                    refine rr_if h (fun c19_9 h => ?_) (fun c19_9 h => ?_)
                    · skip
                      cases h
                      exact And.intro (rfl) rfl
                    · skip
                      refine rr_if h (fun c19_10 h => ?_) (fun c19_10 h => ?_)
                      · skip
                        cases h
                        exact And.intro (rfl) rfl
                      · skip
                        refine rr_if h (fun c19_11 h => ?_) (fun c19_11 h => ?_)
                        · skip
                          cases h
                          exact And.intro (rfl) rfl
                        · skip
                          refine rr_if h (fun c19_12 h => ?_) (fun c19_12 h => ?_)
                          · skip
                            cases h
                            exact And.intro (rfl) rfl
                          · skip
                            refine rr_if h (fun c19_13 h => ?_) (fun c19_13 h => ?_)
                            · skip
                              refine rr_callPL h (fun y hy => f_tap_valueOf_ok _ hy) (fun y5 hy5 h => ?_)
                              refine rr_g h (fun c126 h => ?_)
                              refine rr_g h (fun c135 h => ?_)
                              refine rr_if h (fun c137 h => ?_) (fun c137 h => ?_)
                              · skip
                                cases h
                                exact And.intro (rfl) rfl
                              · skip
                                refine rr_callV h (fun y hy => f_chk_find_ok _ hy) (fun y6 hy6 h => ?_)
                                cases h
                                exact And.intro (rfl) rfl
                            · skip
                              refine rr_if h (fun c19_14 h => ?_) (fun c19_14 h => ?_)
                              · skip
                                refine rr_callV h (fun y hy => f_chk_resolveSum_ok_w0 _ hy) (fun y4 hy4 h => ?_)
                                cases h
                                exact And.intro (rfl) rfl
                              · skip
                                refine rr_if h (fun c19_15 h => ?_) (fun c19_15 h => ?_)
                                · skip
                                  refine rr_callS h (fun y hy => f_chk_needKind_ok_w0 _ hy) (fun y3 hy3 h => ?_)
                                  refine rr_g h (fun c171 h => ?_)
                                  cases h
                                  exact And.intro (rfl) rfl
                                · skip
                                  refine rr_if h (fun c19_16 h => ?_) (fun c19_16 h => ?_)
                                  · skip
                                    refine rr_callV h (fun y hy => f_chk_resolveName_ok_w0 _ hy) (fun y2 hy2 h => ?_)
                                    cases h
                                    exact And.intro (rfl) rfl
                                  · skip
                                    cases h
                                    exact And.intro (rfl) rfl
set_option maxRecDepth 100000 in
set_option maxHeartbeats 4000000 in
theorem f_chk_resolve_193_ok_w1 {p0 p1 p2 p4 : Nat} {o : rx_St} : ∀ (v1 : Int32) (v2 : Int32) (σ : rx_St), f_chk_resolve_193 1 v1 v2 σ = some o → rx_AtP none 14 193 [(0, .ref 37), (1, .int v1), (2, .int v2)] [] (rx_D [p0, p1, p2, 21, p4] σ) (none, rx_D [p0, p1, p2, 21, p4] o) := by
  intro v1 v2 σ h
  refine rx_walk [193] 2000 (by decide) rx_e14 ?_
  unfold f_chk_resolve_193 at h
  refine rr_callV h (fun y hy => f_chk_resolveGive_ok_w1 _ hy) (fun y1 hy1 h => ?_)
  cases h
  exact And.intro (rfl) rfl
set_option maxRecDepth 100000 in
set_option maxHeartbeats 4000000 in
theorem f_chk_resolve_ok_w1 {p0 p1 p2 p4 : Nat} {a0 : Int32} {a1 : Int32} {σ : rx_St} : ∀ o, f_chk_resolve 1 a0 a1 σ = some o → rx_OK 14 [.ref 37, .int a0, .int a1] 162 [] [p0, p1, p2, 21, p4] σ (none, rx_D [p0, p1, p2, 21, p4] o) := by
  intro o h
  refine rx_OK_of (by decide) (Nat.le_of_ble_eq_true rfl) ?_
  refine rx_walk [193] 2000 (by decide) rx_e14 ?_
  unfold f_chk_resolve at h
  refine rr_g h (fun c8 h => ?_)
  refine rr_g h (fun c18 h => ?_)
  refine rr_if h (fun c19_0 h => ?_) (fun c19_0 h => ?_)
  · skip
    refine rr_callS h (fun y hy => f_chk_needVar_ok_w1 _ hy) (fun y7 hy7 h => ?_)
    refine rr_g h (fun c189 h => ?_)
    cases h
    exact And.intro (rfl) rfl
  · skip
    refine rr_if h (fun c19_1 h => ?_) (fun c19_1 h => ?_)
    · skip
      cases h
      exact And.intro (rfl) rfl
    · skip
      refine rr_if h (fun c19_2 h => ?_) (fun c19_2 h => ?_)
      · skip
        cases h
        exact And.intro (rfl) rfl
      · skip
        refine rr_if h (fun c19_3 h => ?_) (fun c19_3 h => ?_)
        · skip
          cases h
          exact And.intro (rfl) rfl
        · skip
          refine rr_if h (fun c19_4 h => ?_) (fun c19_4 h => ?_)
          · skip
            exact rx_sub (f_chk_resolve_193_ok_w1 _ _ _ h) [1, 2, 3] rfl
          · skip
            refine rr_if h (fun c19_5 h => ?_) (fun c19_5 h => ?_)
            · skip
              exact rx_sub (f_chk_resolve_193_ok_w1 _ _ _ h) [1, 2, 3] rfl
            · skip
              refine rr_if h (fun c19_6 h => ?_) (fun c19_6 h => ?_)
              · skip
                cases h
                exact And.intro (rfl) rfl
              · skip
                refine rr_if h (fun c19_7 h => ?_) (fun c19_7 h => ?_)
                · skip
                  cases h
                  exact And.intro (rfl) rfl
                · skip
                  refine rr_if h (fun c19_8 h => ?_) (fun c19_8 h => ?_)
                  · skip
                    cases h
                    exact And.intro (rfl) rfl
                  · skip
                    refine rr_if h (fun c19_9 h => ?_) (fun c19_9 h => ?_)
                    · skip
                      cases h
                      exact And.intro (rfl) rfl
                    · skip
                      refine rr_if h (fun c19_10 h => ?_) (fun c19_10 h => ?_)
                      · skip
                        cases h
                        exact And.intro (rfl) rfl
                      · skip
                        refine rr_if h (fun c19_11 h => ?_) (fun c19_11 h => ?_)
                        · skip
                          cases h
                          exact And.intro (rfl) rfl
                        · skip
                          refine rr_if h (fun c19_12 h => ?_) (fun c19_12 h => ?_)
                          · skip
                            cases h
                            exact And.intro (rfl) rfl
                          · skip
                            refine rr_if h (fun c19_13 h => ?_) (fun c19_13 h => ?_)
                            · skip
                              refine rr_callPL h (fun y hy => f_tap_valueOf_ok _ hy) (fun y5 hy5 h => ?_)
                              refine rr_g h (fun c126 h => ?_)
                              refine rr_g h (fun c135 h => ?_)
                              refine rr_if h (fun c137 h => ?_) (fun c137 h => ?_)
                              · skip
                                cases h
                                exact And.intro (rfl) rfl
                              · skip
                                refine rr_callV h (fun y hy => f_chk_find_ok _ hy) (fun y6 hy6 h => ?_)
                                cases h
                                exact And.intro (rfl) rfl
                            · skip
                              refine rr_if h (fun c19_14 h => ?_) (fun c19_14 h => ?_)
                              · skip
                                refine rr_callV h (fun y hy => f_chk_resolveSum_ok_w1 _ hy) (fun y4 hy4 h => ?_)
                                cases h
                                exact And.intro (rfl) rfl
                              · skip
                                refine rr_if h (fun c19_15 h => ?_) (fun c19_15 h => ?_)
                                · skip
                                  refine rr_callS h (fun y hy => f_chk_needKind_ok_w1 _ hy) (fun y3 hy3 h => ?_)
                                  refine rr_g h (fun c171 h => ?_)
                                  cases h
                                  exact And.intro (rfl) rfl
                                · skip
                                  refine rr_if h (fun c19_16 h => ?_) (fun c19_16 h => ?_)
                                  · skip
                                    refine rr_callV h (fun y hy => f_chk_resolveName_ok_w1 _ hy) (fun y2 hy2 h => ?_)
                                    cases h
                                    exact And.intro (rfl) rfl
                                  · skip
                                    cases h
                                    exact And.intro (rfl) rfl
set_option maxRecDepth 100000 in
theorem rx_e5 : rx_Ext none 5 := rx_Ext_plain (by decide +kernel)
set_option maxRecDepth 100000 in
set_option maxHeartbeats 4000000 in
theorem f_chk_check_91_ok_w0 {p0 p1 p2 p4 : Nat} {o : Int32 × rx_St} {k25 : Int32 → rx_St → Option (Int32 × rx_St)} (hk25 : ∀ (v2 : Int32) (σ : rx_St), k25 v2 σ = some o → rx_AtP none 5 25 [(0, .ref 37), (2, .int v2)] [] (rx_D [p0, p1, p2, 7, p4] σ) (some (.int o.1), rx_D [p0, p1, p2, 7, p4] o.2)) : ∀ (v2 : Int32) (σ : rx_St), f_chk_check_91 0 k25 v2 σ = some o → rx_AtP none 5 91 [(0, .ref 37), (2, .int v2)] [] (rx_D [p0, p1, p2, 7, p4] σ) (some (.int o.1), rx_D [p0, p1, p2, 7, p4] o.2) := by
  intro v2 σ h
  refine rx_walk [25, 51, 91] 2000 (by decide) rx_e5 ?_
  unfold f_chk_check_91 at h
  exact rx_sub (hk25 _ _ h) [1, 0] rfl
set_option maxRecDepth 100000 in
set_option maxHeartbeats 4000000 in
theorem f_chk_check_51_ok_w0 {p0 p1 p2 p4 : Nat} {o : Int32 × rx_St} {k25 : Int32 → rx_St → Option (Int32 × rx_St)} (hk25 : ∀ (v2 : Int32) (σ : rx_St), k25 v2 σ = some o → rx_AtP none 5 25 [(0, .ref 37), (2, .int v2)] [] (rx_D [p0, p1, p2, 7, p4] σ) (some (.int o.1), rx_D [p0, p1, p2, 7, p4] o.2)) : ∀ (n : Nat) (v2 : Int32) (v3 : Int32) (σ : rx_St), f_chk_check_51 0 k25 n v2 v3 σ = some o → rx_AtP none 5 51 [(0, .ref 37), (2, .int v2), (3, .int v3)] [] (rx_D [p0, p1, p2, 7, p4] σ) (some (.int o.1), rx_D [p0, p1, p2, 7, p4] o.2) := by
  intro n
  induction n with
  | zero => intro _ _ _ h; cases h
  | succ n ih =>
  intro v2 v3 σ h
  refine rx_walk [25, 51, 91] 2000 (by decide) rx_e5 ?_
  rw [f_chk_check_51] at h
  refine rr_if h (fun c52 h => ?_) (fun c52 h => ?_)
  · skip
    exact rx_sub (f_chk_check_91_ok_w0 hk25 _ _ h) [0, 1] rfl
  · skip
    refine rr_g h (fun c64 h => ?_)
    refine rr_if h (fun c65 h => ?_) (fun c65 h => ?_)
    · skip
      exact rx_sub (f_chk_check_91_ok_w0 hk25 _ _ h) [0, 1] rfl
    · skip
      refine rr_if h (fun c76 h => ?_) (fun c76 h => ?_)
      · skip
        exact rx_sub (f_chk_check_91_ok_w0 hk25 _ _ h) [0, 1] rfl
      · skip
        refine rr_callV h (fun y hy => f_chk_resolve_ok_w0 _ hy) (fun y1 hy1 h => ?_)
        exact rx_sub (ih _ _ _ h) [1, 2, 0] rfl
set_option maxRecDepth 100000 in
set_option maxHeartbeats 4000000 in
theorem f_chk_check_25_ok_w0 {p0 p1 p2 p4 : Nat} {o : Int32 × rx_St} : ∀ (n : Nat) (v2 : Int32) (σ : rx_St), f_chk_check_25 0 n v2 σ = some o → rx_AtP none 5 25 [(0, .ref 37), (2, .int v2)] [] (rx_D [p0, p1, p2, 7, p4] σ) (some (.int o.1), rx_D [p0, p1, p2, 7, p4] o.2) := by
  intro n
  induction n with
  | zero => intro _ _ h; cases h
  | succ n ih =>
  intro v2 σ h
  refine rx_walk [25, 51, 91] 2000 (by decide) rx_e5 ?_
  rw [f_chk_check_25] at h
  refine rr_if h (fun c33 h => ?_) (fun c33 h => ?_)
  · skip
    cases h
    exact And.intro (trivial) rfl
  · skip
    refine rr_callV h (fun y hy => f_chk_checkVars_ok_w0 _ hy) (fun y1 hy1 h => ?_)
    refine rr_g h (fun c49 h => ?_)
    exact rx_sub (f_chk_check_51_ok_w0 ih rx_fu _ _ _ h) [1, 2, 0] rfl
set_option maxRecDepth 100000 in
set_option maxHeartbeats 4000000 in
theorem f_chk_check_ok_w0 {p0 p1 p2 p3 p4 : Nat} {σ : rx_St} : ∀ o, f_chk_check 0 σ = some o → rx_OK 5 [.ref 37, .ref 7] 162 [] [p0, p1, p2, p3, p4] σ (some (.int o.1), rx_D [p0, p1, p2, 7, p4] o.2) := by
  intro o h
  refine rx_OK_of (by decide) (Nat.le_of_ble_eq_true rfl) ?_
  refine rx_walk [25, 51, 91] 2000 (by decide) rx_e5 ?_
  unfold f_chk_check at h
  refine rr_callV h (fun y hy => f_chk_checkSettings_ok_w0 _ hy) (fun y1 hy1 h => ?_)
  refine rr_callV h (fun y hy => f_chk_checkKinds_ok_w0 _ hy) (fun y2 hy2 h => ?_)
  exact rx_sub (f_chk_check_25_ok_w0 rx_fu _ _ h) [1, 0] rfl
set_option maxRecDepth 100000 in
set_option maxHeartbeats 4000000 in
theorem f_chk_check_91_ok_w1 {p0 p1 p2 p4 : Nat} {o : Int32 × rx_St} {k25 : Int32 → rx_St → Option (Int32 × rx_St)} (hk25 : ∀ (v2 : Int32) (σ : rx_St), k25 v2 σ = some o → rx_AtP none 5 25 [(0, .ref 37), (2, .int v2)] [] (rx_D [p0, p1, p2, 21, p4] σ) (some (.int o.1), rx_D [p0, p1, p2, 21, p4] o.2)) : ∀ (v2 : Int32) (σ : rx_St), f_chk_check_91 1 k25 v2 σ = some o → rx_AtP none 5 91 [(0, .ref 37), (2, .int v2)] [] (rx_D [p0, p1, p2, 21, p4] σ) (some (.int o.1), rx_D [p0, p1, p2, 21, p4] o.2) := by
  intro v2 σ h
  refine rx_walk [25, 51, 91] 2000 (by decide) rx_e5 ?_
  unfold f_chk_check_91 at h
  exact rx_sub (hk25 _ _ h) [1, 0] rfl
set_option maxRecDepth 100000 in
set_option maxHeartbeats 4000000 in
theorem f_chk_check_51_ok_w1 {p0 p1 p2 p4 : Nat} {o : Int32 × rx_St} {k25 : Int32 → rx_St → Option (Int32 × rx_St)} (hk25 : ∀ (v2 : Int32) (σ : rx_St), k25 v2 σ = some o → rx_AtP none 5 25 [(0, .ref 37), (2, .int v2)] [] (rx_D [p0, p1, p2, 21, p4] σ) (some (.int o.1), rx_D [p0, p1, p2, 21, p4] o.2)) : ∀ (n : Nat) (v2 : Int32) (v3 : Int32) (σ : rx_St), f_chk_check_51 1 k25 n v2 v3 σ = some o → rx_AtP none 5 51 [(0, .ref 37), (2, .int v2), (3, .int v3)] [] (rx_D [p0, p1, p2, 21, p4] σ) (some (.int o.1), rx_D [p0, p1, p2, 21, p4] o.2) := by
  intro n
  induction n with
  | zero => intro _ _ _ h; cases h
  | succ n ih =>
  intro v2 v3 σ h
  refine rx_walk [25, 51, 91] 2000 (by decide) rx_e5 ?_
  rw [f_chk_check_51] at h
  refine rr_if h (fun c52 h => ?_) (fun c52 h => ?_)
  · skip
    exact rx_sub (f_chk_check_91_ok_w1 hk25 _ _ h) [0, 1] rfl
  · skip
    refine rr_g h (fun c64 h => ?_)
    refine rr_if h (fun c65 h => ?_) (fun c65 h => ?_)
    · skip
      exact rx_sub (f_chk_check_91_ok_w1 hk25 _ _ h) [0, 1] rfl
    · skip
      refine rr_if h (fun c76 h => ?_) (fun c76 h => ?_)
      · skip
        exact rx_sub (f_chk_check_91_ok_w1 hk25 _ _ h) [0, 1] rfl
      · skip
        refine rr_callV h (fun y hy => f_chk_resolve_ok_w1 _ hy) (fun y1 hy1 h => ?_)
        exact rx_sub (ih _ _ _ h) [1, 2, 0] rfl
set_option maxRecDepth 100000 in
set_option maxHeartbeats 4000000 in
theorem f_chk_check_25_ok_w1 {p0 p1 p2 p4 : Nat} {o : Int32 × rx_St} : ∀ (n : Nat) (v2 : Int32) (σ : rx_St), f_chk_check_25 1 n v2 σ = some o → rx_AtP none 5 25 [(0, .ref 37), (2, .int v2)] [] (rx_D [p0, p1, p2, 21, p4] σ) (some (.int o.1), rx_D [p0, p1, p2, 21, p4] o.2) := by
  intro n
  induction n with
  | zero => intro _ _ h; cases h
  | succ n ih =>
  intro v2 σ h
  refine rx_walk [25, 51, 91] 2000 (by decide) rx_e5 ?_
  rw [f_chk_check_25] at h
  refine rr_if h (fun c33 h => ?_) (fun c33 h => ?_)
  · skip
    cases h
    exact And.intro (trivial) rfl
  · skip
    refine rr_callV h (fun y hy => f_chk_checkVars_ok_w1 _ hy) (fun y1 hy1 h => ?_)
    refine rr_g h (fun c49 h => ?_)
    exact rx_sub (f_chk_check_51_ok_w1 ih rx_fu _ _ _ h) [1, 2, 0] rfl
set_option maxRecDepth 100000 in
set_option maxHeartbeats 4000000 in
theorem f_chk_check_ok_w1 {p0 p1 p2 p3 p4 : Nat} {σ : rx_St} : ∀ o, f_chk_check 1 σ = some o → rx_OK 5 [.ref 37, .ref 21] 162 [] [p0, p1, p2, p3, p4] σ (some (.int o.1), rx_D [p0, p1, p2, 21, p4] o.2) := by
  intro o h
  refine rx_OK_of (by decide) (Nat.le_of_ble_eq_true rfl) ?_
  refine rx_walk [25, 51, 91] 2000 (by decide) rx_e5 ?_
  unfold f_chk_check at h
  refine rr_callV h (fun y hy => f_chk_checkSettings_ok_w1 _ hy) (fun y1 hy1 h => ?_)
  refine rr_callV h (fun y hy => f_chk_checkKinds_ok_w1 _ hy) (fun y2 hy2 h => ?_)
  exact rx_sub (f_chk_check_25_ok_w1 rx_fu _ _ h) [1, 0] rfl
set_option maxRecDepth 100000 in
theorem rx_e6 : rx_Ext none 6 := rx_Ext_plain (by decide +kernel)
set_option maxRecDepth 100000 in
set_option maxHeartbeats 4000000 in
theorem f_chk_faultPlace_ok {P : List Nat} {σ : rx_St} : ∀ o, f_chk_faultPlace σ = o → rx_OK 6 [.ref 37] 162 [] P σ (some (.int o), rx_D P σ) := by
  intro o h
  refine rx_OK_of (by decide) (Nat.le_of_ble_eq_true rfl) ?_
  refine rx_walk [] 2000 (by decide) rx_e6 ?_
  unfold f_chk_faultPlace at h
  cases h
  exact And.intro (trivial) rfl
set_option maxRecDepth 100000 in
theorem rx_e33 : rx_Ext none 33 := rx_Ext_plain (by decide +kernel)
set_option maxRecDepth 100000 in
set_option maxHeartbeats 4000000 in
theorem f_gri_forget_7_ok {P : List Nat} {o : rx_St} : ∀ (n : Nat) (v1 : Int32) (σ : rx_St), f_gri_forget_7 n v1 σ = some o → rx_AtP none 33 7 [(0, .ref 76), (1, .int v1)] [] (rx_D P σ) (none, rx_D P o) := by
  intro n
  induction n with
  | zero => intro _ _ h; cases h
  | succ n ih =>
  intro v1 σ h
  refine rx_walk [7] 2000 (by decide) rx_e33 ?_
  rw [f_gri_forget_7] at h
  refine rr_if h (fun c13 h => ?_) (fun c13 h => ?_)
  · skip
    cases h
    exact And.intro (rfl) rfl
  · skip
    refine rr_g h (fun c22 h => ?_)
    exact rx_sub (ih _ _ h) [1, 0] rfl
set_option maxRecDepth 100000 in
set_option maxHeartbeats 4000000 in
theorem f_gri_forget_ok {P : List Nat} {σ : rx_St} : ∀ o, f_gri_forget σ = some o → rx_OK 33 [.ref 76] 162 [] P σ (none, rx_D P o) := by
  intro o h
  refine rx_OK_of (by decide) (Nat.le_of_ble_eq_true rfl) ?_
  refine rx_walk [7] 2000 (by decide) rx_e33 ?_
  unfold f_gri_forget at h
  exact rx_sub (f_gri_forget_7_ok rx_fu _ _ h) [1, 0] rfl
set_option maxRecDepth 100000 in
theorem rx_e32 : rx_Ext none 32 := rx_Ext_plain (by decide +kernel)
set_option maxRecDepth 100000 in
set_option maxHeartbeats 4000000 in
theorem f_gri_empty_ok {P : List Nat} {σ : rx_St} : ∀ o, f_gri_empty σ = some o → rx_OK 32 [.ref 76] 162 [] P σ (none, rx_D P o) := by
  intro o h
  refine rx_OK_of (by decide) (Nat.le_of_ble_eq_true rfl) ?_
  refine rx_walk [] 2000 (by decide) rx_e32 ?_
  unfold f_gri_empty at h
  refine rr_callV h (fun y hy => f_gri_forget_ok _ hy) (fun y1 hy1 h => ?_)
  cases h
  exact And.intro (rfl) rfl
set_option maxRecDepth 100000 in
theorem rx_e34 : rx_Ext none 34 := rx_Ext_plain (by decide +kernel)
set_option maxRecDepth 100000 in
set_option maxHeartbeats 4000000 in
theorem f_gri_tellSeen_ok {P : List Nat} {a0 : Int32} {a1 : Int32} {a2 : Int32} {a3 : Int32} {a4 : Int32} {σ : rx_St} : ∀ o, f_gri_tellSeen a0 a1 a2 a3 a4 σ = some o → rx_OK 34 [.ref 76, .int a0, .int a1, .int a2, .int a3, .int a4] 162 [] P σ (some (.int o.1), rx_D P o.2) := by
  intro o h
  refine rx_OK_of (by decide) (Nat.le_of_ble_eq_true rfl) ?_
  refine rx_walk [] 2000 (by decide) rx_e34 ?_
  unfold f_gri_tellSeen at h
  refine rr_if h (fun c6 h => ?_) (fun c6 h => ?_)
  · skip
    refine rr_g h (fun c20 h => ?_)
    refine rr_g h (fun c30 h => ?_)
    refine rr_g h (fun c40 h => ?_)
    refine rr_g h (fun c51 h => ?_)
    refine rr_g h (fun c62 h => ?_)
    refine rr_callV h (fun y hy => f_gri_forget_ok _ hy) (fun y1 hy1 h => ?_)
    cases h
    exact And.intro (trivial) rfl
  · skip
    cases h
    exact And.intro (trivial) rfl
set_option maxRecDepth 100000 in
theorem rx_e36 : rx_Ext none 36 := rx_Ext_plain (by decide +kernel)
set_option maxRecDepth 100000 in
set_option maxHeartbeats 4000000 in
theorem f_gri_hasSpan_2_ok {P : List Nat} {o : Int32} : ∀ (n : Nat) (v1 : Int32) (v2 : Int32) (σ : rx_St), f_gri_hasSpan_2 n v1 v2 σ = some o → rx_AtP none 36 2 [(0, .ref 76), (1, .int v1), (2, .int v2)] [] (rx_D P σ) (some (.int o), rx_D P σ) := by
  intro n
  induction n with
  | zero => intro _ _ _ h; cases h
  | succ n ih =>
  intro v1 v2 σ h
  refine rx_walk [2] 2000 (by decide) rx_e36 ?_
  rw [f_gri_hasSpan_2] at h
  refine rr_if h (fun c7 h => ?_) (fun c7 h => ?_)
  · skip
    cases h
    exact And.intro (Or.inl rfl) rfl
  · skip
    refine rr_g h (fun c15 h => ?_)
    refine rr_if h (fun c17 h => ?_) (fun c17 h => ?_)
    · skip
      cases h
      exact And.intro (Or.inr rfl) rfl
    · skip
      exact rx_sub (ih _ _ _ h) [1, 2, 0] rfl
set_option maxRecDepth 100000 in
set_option maxHeartbeats 4000000 in
theorem f_gri_hasSpan_ok {P : List Nat} {a0 : Int32} {σ : rx_St} : ∀ o, f_gri_hasSpan a0 σ = some o → rx_OK 36 [.ref 76, .int a0] 162 [] P σ (some (.int o), rx_D P σ) := by
  intro o h
  refine rx_OK_of (by decide) (Nat.le_of_ble_eq_true rfl) ?_
  refine rx_walk [2] 2000 (by decide) rx_e36 ?_
  unfold f_gri_hasSpan at h
  exact rx_sub (f_gri_hasSpan_2_ok rx_fu _ _ _ h) [1, 2, 0] rfl
set_option maxRecDepth 100000 in
theorem rx_e35 : rx_Ext none 35 := rx_Ext_plain (by decide +kernel)
set_option maxRecDepth 100000 in
set_option maxHeartbeats 4000000 in
theorem f_gri_tellSpan_ok_w1 {p0 p1 p2 p3 : Nat} {a0 : Int32} {a1 : Int32} {a2 : Int32} {a3 : Int32} {σ : rx_St} : ∀ o, f_gri_tellSpan 1 a0 a1 a2 a3 σ = some o → rx_OK 35 [.ref 76, .int a0, .int a1, .int a2, .int a3] 162 [] [p0, p1, p2, p3, 21] σ (some (.int o.1), rx_D [p0, p1, p2, p3, 21] o.2) := by
  intro o h
  refine rx_OK_of (by decide) (Nat.le_of_ble_eq_true rfl) ?_
  refine rx_walk [] 2000 (by decide) rx_e35 ?_
  unfold f_gri_tellSpan at h
  refine rr_if h (fun c5 h => ?_) (fun c5 h => ?_)
  · skip
    cases h
    exact And.intro (trivial) rfl
  · skip
    refine rr_callT (f_wor_hasSetting_ok_w1 _ rfl) ?_
    refine rr_if h (fun c19 h => ?_) (fun c19 h => ?_)
    · skip
      cases h
      exact And.intro (trivial) rfl
    · skip
      refine rr_callP h (fun y hy => f_gri_hasSpan_ok _ hy) (fun y1 hy1 h => ?_)
      refine rr_if h (fun c27 h => ?_) (fun c27 h => ?_)
      · skip
        refine rr_if h (fun c32 h => ?_) (fun c32 h => ?_)
        · skip
          cases h
          exact And.intro (trivial) rfl
        · skip
          refine rr_callT (f_c_isNumber_ok _ rfl) ?_
          refine rr_if h (fun c39 h => ?_) (fun c39 h => ?_)
          · skip
            cases h
            exact And.intro (trivial) rfl
          · skip
            refine rr_callT (f_c_isNumber_ok _ rfl) ?_
            refine rr_if h (fun c46 h => ?_) (fun c46 h => ?_)
            · skip
              cases h
              exact And.intro (trivial) rfl
            · skip
              refine rr_if h (fun c52 h => ?_) (fun c52 h => ?_)
              · skip
                cases h
                exact And.intro (trivial) rfl
              · skip
                refine rr_if h (fun c60 h => ?_) (fun c60 h => ?_)
                · skip
                  refine rr_c h (fun c70 h => ?_)
                  refine rr_if h (fun c85 h => ?_) (fun c85 h => ?_)
                  · skip
                    refine rr_g h (fun c99 h => ?_)
                    refine rr_g h (fun c109 h => ?_)
                    refine rr_g h (fun c120 h => ?_)
                    refine rr_g h (fun c131 h => ?_)
                    refine rr_callV h (fun y hy => f_gri_forget_ok _ hy) (fun y4 hy4 h => ?_)
                    cases h
                    exact And.intro (trivial) rfl
                  · skip
                    cases h
                    exact And.intro (trivial) rfl
                · skip
                  cases h
                  exact And.intro (trivial) rfl
      · skip
        cases h
        exact And.intro (trivial) rfl
set_option maxRecDepth 100000 in
set_option maxHeartbeats 4000000 in
theorem f_gri_tellSpan_ok_w0 {p0 p1 p2 p3 : Nat} {a0 : Int32} {a1 : Int32} {a2 : Int32} {a3 : Int32} {σ : rx_St} : ∀ o, f_gri_tellSpan 0 a0 a1 a2 a3 σ = some o → rx_OK 35 [.ref 76, .int a0, .int a1, .int a2, .int a3] 162 [] [p0, p1, p2, p3, 7] σ (some (.int o.1), rx_D [p0, p1, p2, p3, 7] o.2) := by
  intro o h
  refine rx_OK_of (by decide) (Nat.le_of_ble_eq_true rfl) ?_
  refine rx_walk [] 2000 (by decide) rx_e35 ?_
  unfold f_gri_tellSpan at h
  refine rr_if h (fun c5 h => ?_) (fun c5 h => ?_)
  · skip
    cases h
    exact And.intro (trivial) rfl
  · skip
    refine rr_callT (f_wor_hasSetting_ok_w0 _ rfl) ?_
    refine rr_if h (fun c19 h => ?_) (fun c19 h => ?_)
    · skip
      cases h
      exact And.intro (trivial) rfl
    · skip
      refine rr_callP h (fun y hy => f_gri_hasSpan_ok _ hy) (fun y1 hy1 h => ?_)
      refine rr_if h (fun c27 h => ?_) (fun c27 h => ?_)
      · skip
        refine rr_if h (fun c32 h => ?_) (fun c32 h => ?_)
        · skip
          cases h
          exact And.intro (trivial) rfl
        · skip
          refine rr_callT (f_c_isNumber_ok _ rfl) ?_
          refine rr_if h (fun c39 h => ?_) (fun c39 h => ?_)
          · skip
            cases h
            exact And.intro (trivial) rfl
          · skip
            refine rr_callT (f_c_isNumber_ok _ rfl) ?_
            refine rr_if h (fun c46 h => ?_) (fun c46 h => ?_)
            · skip
              cases h
              exact And.intro (trivial) rfl
            · skip
              refine rr_if h (fun c52 h => ?_) (fun c52 h => ?_)
              · skip
                cases h
                exact And.intro (trivial) rfl
              · skip
                refine rr_if h (fun c60 h => ?_) (fun c60 h => ?_)
                · skip
                  refine rr_c h (fun c70 h => ?_)
                  refine rr_if h (fun c85 h => ?_) (fun c85 h => ?_)
                  · skip
                    refine rr_g h (fun c99 h => ?_)
                    refine rr_g h (fun c109 h => ?_)
                    refine rr_g h (fun c120 h => ?_)
                    refine rr_g h (fun c131 h => ?_)
                    refine rr_callV h (fun y hy => f_gri_forget_ok _ hy) (fun y4 hy4 h => ?_)
                    cases h
                    exact And.intro (trivial) rfl
                  · skip
                    cases h
                    exact And.intro (trivial) rfl
                · skip
                  cases h
                  exact And.intro (trivial) rfl
      · skip
        cases h
        exact And.intro (trivial) rfl
set_option maxRecDepth 100000 in
theorem rx_e37 : rx_Ext none 37 := rx_Ext_plain (by decide +kernel)
set_option maxRecDepth 100000 in
set_option maxHeartbeats 4000000 in
theorem f_gri_turn_10_ok {P : List Nat} {o : Int32} : ∀ (n : Nat) (v2 : Int32) (v3 : Int32) (v4 : Int32) (σ : rx_St), f_gri_turn_10 n v2 v3 v4 σ = some o → rx_AtP none 37 10 [(0, .ref 76), (2, .int v2), (3, .int v3), (4, .int v4)] [] (rx_D P σ) (some (.int o), rx_D P σ) := by
  intro n
  induction n with
  | zero => intro _ _ _ _ h; cases h
  | succ n ih =>
  intro v2 v3 v4 σ h
  refine rx_walk [10] 2000 (by decide) rx_e37 ?_
  rw [f_gri_turn_10] at h
  refine rr_if h (fun c13 h => ?_) (fun c13 h => ?_)
  · skip
    refine rr_g h (fun c42 h => ?_)
    refine rr_callT (f_j_max_ok _ rfl) ?_
    refine rr_c h (fun c47 h => ?_)
    cases h
    exact And.intro (trivial) rfl
  · skip
    refine rr_g h (fun c23 h => ?_)
    refine rr_callT (f_j_max_ok _ rfl) ?_
    refine rr_c h (fun c28 h => ?_)
    exact rx_sub (ih _ _ _ _ h) [2, 3, 1, 0] rfl
set_option maxRecDepth 100000 in
set_option maxHeartbeats 4000000 in
theorem f_gri_turn_ok {P : List Nat} {a0 : Int32} {a1 : Int32} {σ : rx_St} : ∀ o, f_gri_turn a0 a1 σ = some o → rx_OK 37 [.ref 76, .int a0, .int a1] 162 [] P σ (some (.int o), rx_D P σ) := by
  intro o h
  refine rx_OK_of (by decide) (Nat.le_of_ble_eq_true rfl) ?_
  refine rx_walk [10] 2000 (by decide) rx_e37 ?_
  unfold f_gri_turn at h
  exact rx_sub (f_gri_turn_10_ok rx_fu _ _ _ _ h) [2, 4, 1, 0] rfl
set_option maxRecDepth 100000 in
theorem rx_e38 : rx_Ext none 38 := rx_Ext_plain (by decide +kernel)
set_option maxRecDepth 100000 in
set_option maxHeartbeats 4000000 in
theorem f_gri_number_ok {P : List Nat} {a0 : Int32} {a1 : Int32} {σ : rx_St} : ∀ o, f_gri_number a0 a1 σ = some o → rx_OK 38 [.ref 76, .int a0, .int a1] 162 [] P σ (some (.int o), rx_D P σ) := by
  intro o h
  refine rx_OK_of (by decide) (Nat.le_of_ble_eq_true rfl) ?_
  refine rx_walk [] 2000 (by decide) rx_e38 ?_
  unfold f_gri_number at h
  refine rr_g h (fun c5 h => ?_)
  refine rr_callP h (fun y hy => f_gri_turn_ok _ hy) (fun y1 hy1 h => ?_)
  refine rr_g h (fun c17 h => ?_)
  cases h
  exact And.intro (trivial) rfl
set_option maxRecDepth 100000 in
theorem rx_e39 : rx_Ext none 39 := rx_Ext_plain (by decide +kernel)
set_option maxRecDepth 100000 in
set_option maxHeartbeats 4000000 in
theorem f_gri_restartAt_10_ok_w1 {p0 p1 p2 p3 : Nat} {o : rx_St} : ∀ (n : Nat) (v1 : Int32) (v3 : Int32) (σ : rx_St), f_gri_restartAt_10 1 n v1 v3 σ = some o → rx_AtP none 39 10 [(0, .ref 76), (1, .int v1), (3, .int v3)] [] (rx_D [p0, p1, p2, p3, 21] σ) (none, rx_D [p0, p1, p2, p3, 21] o) := by
  intro n
  induction n with
  | zero => intro _ _ _ h; cases h
  | succ n ih =>
  intro v1 v3 σ h
  refine rx_walk [10] 2000 (by decide) rx_e39 ?_
  rw [f_gri_restartAt_10] at h
  refine rr_if h (fun c15 h => ?_) (fun c15 h => ?_)
  · skip
    cases h
    exact And.intro (rfl) rfl
  · skip
    refine rr_g h (fun c30 h => ?_)
    refine rr_callP h (fun y hy => f_gri_number_ok _ hy) (fun y1 hy1 h => ?_)
    refine rr_g h (fun c37 h => ?_)
    exact rx_sub (ih _ _ _ h) [1, 2, 0] rfl
set_option maxRecDepth 100000 in
set_option maxHeartbeats 4000000 in
theorem f_gri_restartAt_ok_w1 {p0 p1 p2 p3 : Nat} {a0 : Int32} {a1 : Int32} {σ : rx_St} : ∀ o, f_gri_restartAt 1 a0 a1 σ = some o → rx_OK 39 [.ref 76, .int a0, .int a1] 162 [] [p0, p1, p2, p3, 21] σ (none, rx_D [p0, p1, p2, p3, 21] o) := by
  intro o h
  refine rx_OK_of (by decide) (Nat.le_of_ble_eq_true rfl) ?_
  refine rx_walk [10] 2000 (by decide) rx_e39 ?_
  unfold f_gri_restartAt at h
  refine rr_callV h (fun y hy => f_run_restart_ok_r0w1 _ hy) (fun y1 hy1 h => ?_)
  exact rx_sub (f_gri_restartAt_10_ok_w1 rx_fu _ _ _ h) [1, 2, 0] rfl
set_option maxRecDepth 100000 in
set_option maxHeartbeats 4000000 in
theorem f_gri_restartAt_10_ok_w0 {p0 p1 p2 p3 : Nat} {o : rx_St} : ∀ (n : Nat) (v1 : Int32) (v3 : Int32) (σ : rx_St), f_gri_restartAt_10 0 n v1 v3 σ = some o → rx_AtP none 39 10 [(0, .ref 76), (1, .int v1), (3, .int v3)] [] (rx_D [p0, p1, p2, p3, 7] σ) (none, rx_D [p0, p1, p2, p3, 7] o) := by
  intro n
  induction n with
  | zero => intro _ _ _ h; cases h
  | succ n ih =>
  intro v1 v3 σ h
  refine rx_walk [10] 2000 (by decide) rx_e39 ?_
  rw [f_gri_restartAt_10] at h
  refine rr_if h (fun c15 h => ?_) (fun c15 h => ?_)
  · skip
    cases h
    exact And.intro (rfl) rfl
  · skip
    refine rr_g h (fun c30 h => ?_)
    refine rr_callP h (fun y hy => f_gri_number_ok _ hy) (fun y1 hy1 h => ?_)
    refine rr_g h (fun c37 h => ?_)
    exact rx_sub (ih _ _ _ h) [1, 2, 0] rfl
set_option maxRecDepth 100000 in
set_option maxHeartbeats 4000000 in
theorem f_gri_restartAt_ok_w0 {p0 p1 p2 p3 : Nat} {a0 : Int32} {a1 : Int32} {σ : rx_St} : ∀ o, f_gri_restartAt 0 a0 a1 σ = some o → rx_OK 39 [.ref 76, .int a0, .int a1] 162 [] [p0, p1, p2, p3, 7] σ (none, rx_D [p0, p1, p2, p3, 7] o) := by
  intro o h
  refine rx_OK_of (by decide) (Nat.le_of_ble_eq_true rfl) ?_
  refine rx_walk [10] 2000 (by decide) rx_e39 ?_
  unfold f_gri_restartAt at h
  refine rr_callV h (fun y hy => f_run_restart_ok_r0w0 _ hy) (fun y1 hy1 h => ?_)
  exact rx_sub (f_gri_restartAt_10_ok_w0 rx_fu _ _ _ h) [1, 2, 0] rfl
set_option maxRecDepth 100000 in
theorem rx_e42 : rx_Ext none 42 := rx_Ext_plain (by decide +kernel)
set_option maxRecDepth 100000 in
set_option maxHeartbeats 4000000 in
theorem f_gri_meetsSeenOf_62_ok {P : List Nat} {o : Int32} {k2 : Int32 → Int32 → rx_St → Option (Int32)} (hk2 : ∀ (v1 : Int32) (v2 : Int32) (σ : rx_St), k2 v1 v2 σ = some o → rx_AtP none 42 2 [(0, .ref 76), (1, .int v1), (2, .int v2)] [] (rx_D P σ) (some (.int o), rx_D P σ)) : ∀ (v1 : Int32) (v2 : Int32) (σ : rx_St), f_gri_meetsSeenOf_62 k2 v1 v2 σ = some o → rx_AtP none 42 62 [(0, .ref 76), (1, .int v1), (2, .int v2)] [] (rx_D P σ) (some (.int o), rx_D P σ) := by
  intro v1 v2 σ h
  refine rx_walk [2, 62] 2000 (by decide) rx_e42 ?_
  unfold f_gri_meetsSeenOf_62 at h
  exact rx_sub (hk2 _ _ _ h) [1, 2, 0] rfl
set_option maxRecDepth 100000 in
set_option maxHeartbeats 4000000 in
theorem f_gri_meetsSeenOf_2_ok {P : List Nat} {o : Int32} : ∀ (n : Nat) (v1 : Int32) (v2 : Int32) (σ : rx_St), f_gri_meetsSeenOf_2 n v1 v2 σ = some o → rx_AtP none 42 2 [(0, .ref 76), (1, .int v1), (2, .int v2)] [] (rx_D P σ) (some (.int o), rx_D P σ) := by
  intro n
  induction n with
  | zero => intro _ _ _ h; cases h
  | succ n ih =>
  intro v1 v2 σ h
  refine rx_walk [2, 62] 2000 (by decide) rx_e42 ?_
  rw [f_gri_meetsSeenOf_2] at h
  refine rr_if h (fun c7 h => ?_) (fun c7 h => ?_)
  · skip
    cases h
    exact And.intro (Or.inr rfl) rfl
  · skip
    refine rr_g h (fun c15 h => ?_)
    refine rr_if h (fun c17 h => ?_) (fun c17 h => ?_)
    · skip
      refine rr_g h (fun c29 h => ?_)
      refine rr_g h (fun c35 h => ?_)
      refine rr_callP h (fun y hy => f_run_total_ok_r0 _ hy) (fun y1 hy1 h => ?_)
      refine rr_g h (fun c46 h => ?_)
      refine rr_if h (fun c47 h => ?_) (fun c47 h => ?_)
      · skip
        cases h
        exact And.intro (Or.inl rfl) rfl
      · skip
        refine rr_g h (fun c56 h => ?_)
        refine rr_if h (fun c57 h => ?_) (fun c57 h => ?_)
        · skip
          exact rx_sub (f_gri_meetsSeenOf_62_ok ih _ _ _ h) [1, 2, 3] rfl
        · skip
          cases h
          exact And.intro (Or.inl rfl) rfl
    · skip
      exact rx_sub (f_gri_meetsSeenOf_62_ok ih _ _ _ h) [0, 1, 2] rfl
set_option maxRecDepth 100000 in
set_option maxHeartbeats 4000000 in
theorem f_gri_meetsSeenOf_ok {P : List Nat} {a0 : Int32} {σ : rx_St} : ∀ o, f_gri_meetsSeenOf a0 σ = some o → rx_OK 42 [.ref 76, .int a0] 162 [] P σ (some (.int o), rx_D P σ) := by
  intro o h
  refine rx_OK_of (by decide) (Nat.le_of_ble_eq_true rfl) ?_
  refine rx_walk [2, 62] 2000 (by decide) rx_e42 ?_
  unfold f_gri_meetsSeenOf at h
  exact rx_sub (f_gri_meetsSeenOf_2_ok rx_fu _ _ _ h) [1, 2, 0] rfl
set_option maxRecDepth 100000 in
theorem rx_e41 : rx_Ext none 41 := rx_Ext_plain (by decide +kernel)
set_option maxRecDepth 100000 in
set_option maxHeartbeats 4000000 in
theorem f_gri_meetsSeen_41_ok_w1 {p0 p1 p2 p3 : Nat} {o : Int32 × rx_St} : ∀ (n : Nat) (v3 : Int32) (v4 : Int32) (σ : rx_St), f_gri_meetsSeen_41 1 n v3 v4 σ = some o → rx_AtP none 41 41 [(0, .ref 76), (3, .int v3), (4, .int v4)] [] (rx_D [p0, p1, p2, p3, 21] σ) (some (.int o.1), rx_D [p0, p1, p2, p3, 21] o.2) := by
  intro n
  induction n with
  | zero => intro _ _ _ h; cases h
  | succ n ih =>
  intro v3 v4 σ h
  refine rx_walk [5, 41] 2000 (by decide) rx_e41 ?_
  rw [f_gri_meetsSeen_41] at h
  refine rr_if h (fun c44 h => ?_) (fun c44 h => ?_)
  · skip
    cases h
    exact And.intro (Or.inr rfl) rfl
  · skip
    refine rr_callV h (fun y hy => f_run_goOn_ok_r0w1 _ hy) (fun y1 hy1 h => ?_)
    refine rr_callP h (fun y hy => f_gri_meetsSeenOf_ok _ hy) (fun y2 hy2 h => ?_)
    refine rr_if h (fun c62 h => ?_) (fun c62 h => ?_)
    · skip
      cases h
      exact And.intro (Or.inl rfl) rfl
    · skip
      exact rx_sub (ih _ _ _ h) [1, 2, 0] rfl
set_option maxRecDepth 100000 in
set_option maxHeartbeats 4000000 in
theorem f_gri_meetsSeen_5_ok_w1 {p0 p1 p2 p3 : Nat} {o : Int32 × rx_St} : ∀ (n : Nat) (v1 : Int32) (v2 : Int32) (v3 : Int32) (v4 : Int32) (σ : rx_St), f_gri_meetsSeen_5 1 n v1 v2 v3 v4 σ = some o → rx_AtP none 41 5 [(0, .ref 76), (1, .int v1), (2, .int v2), (3, .int v3), (4, .int v4)] [] (rx_D [p0, p1, p2, p3, 21] σ) (some (.int o.1), rx_D [p0, p1, p2, p3, 21] o.2) := by
  intro n
  induction n with
  | zero => intro _ _ _ _ _ h; cases h
  | succ n ih =>
  intro v1 v2 v3 v4 σ h
  refine rx_walk [5, 41] 2000 (by decide) rx_e41 ?_
  rw [f_gri_meetsSeen_5] at h
  refine rr_if h (fun c11 h => ?_) (fun c11 h => ?_)
  · skip
    refine rr_callV h (fun y hy => f_gri_restartAt_ok_w1 _ hy) (fun y1 hy1 h => ?_)
    exact rx_sub (f_gri_meetsSeen_41_ok_w1 rx_fu _ _ _ h) [1, 4, 0] rfl
  · skip
    refine rr_g h (fun c21 h => ?_)
    refine rr_callT (f_j_max_ok _ rfl) ?_
    exact rx_sub (ih _ _ _ _ _ h) [2, 3, 4, 1, 0] rfl
set_option maxRecDepth 100000 in
set_option maxHeartbeats 4000000 in
theorem f_gri_meetsSeen_ok_w1 {p0 p1 p2 p3 : Nat} {a0 : Int32} {a1 : Int32} {σ : rx_St} : ∀ o, f_gri_meetsSeen 1 a0 a1 σ = some o → rx_OK 41 [.ref 76, .int a0, .int a1] 162 [] [p0, p1, p2, p3, 21] σ (some (.int o.1), rx_D [p0, p1, p2, p3, 21] o.2) := by
  intro o h
  refine rx_OK_of (by decide) (Nat.le_of_ble_eq_true rfl) ?_
  refine rx_walk [5, 41] 2000 (by decide) rx_e41 ?_
  unfold f_gri_meetsSeen at h
  exact rx_sub (f_gri_meetsSeen_5_ok_w1 rx_fu _ _ _ _ _ h) [2, 3, 4, 1, 0] rfl
set_option maxRecDepth 100000 in
set_option maxHeartbeats 4000000 in
theorem f_gri_meetsSeen_41_ok_w0 {p0 p1 p2 p3 : Nat} {o : Int32 × rx_St} : ∀ (n : Nat) (v3 : Int32) (v4 : Int32) (σ : rx_St), f_gri_meetsSeen_41 0 n v3 v4 σ = some o → rx_AtP none 41 41 [(0, .ref 76), (3, .int v3), (4, .int v4)] [] (rx_D [p0, p1, p2, p3, 7] σ) (some (.int o.1), rx_D [p0, p1, p2, p3, 7] o.2) := by
  intro n
  induction n with
  | zero => intro _ _ _ h; cases h
  | succ n ih =>
  intro v3 v4 σ h
  refine rx_walk [5, 41] 2000 (by decide) rx_e41 ?_
  rw [f_gri_meetsSeen_41] at h
  refine rr_if h (fun c44 h => ?_) (fun c44 h => ?_)
  · skip
    cases h
    exact And.intro (Or.inr rfl) rfl
  · skip
    refine rr_callV h (fun y hy => f_run_goOn_ok_r0w0 _ hy) (fun y1 hy1 h => ?_)
    refine rr_callP h (fun y hy => f_gri_meetsSeenOf_ok _ hy) (fun y2 hy2 h => ?_)
    refine rr_if h (fun c62 h => ?_) (fun c62 h => ?_)
    · skip
      cases h
      exact And.intro (Or.inl rfl) rfl
    · skip
      exact rx_sub (ih _ _ _ h) [1, 2, 0] rfl
set_option maxRecDepth 100000 in
set_option maxHeartbeats 4000000 in
theorem f_gri_meetsSeen_5_ok_w0 {p0 p1 p2 p3 : Nat} {o : Int32 × rx_St} : ∀ (n : Nat) (v1 : Int32) (v2 : Int32) (v3 : Int32) (v4 : Int32) (σ : rx_St), f_gri_meetsSeen_5 0 n v1 v2 v3 v4 σ = some o → rx_AtP none 41 5 [(0, .ref 76), (1, .int v1), (2, .int v2), (3, .int v3), (4, .int v4)] [] (rx_D [p0, p1, p2, p3, 7] σ) (some (.int o.1), rx_D [p0, p1, p2, p3, 7] o.2) := by
  intro n
  induction n with
  | zero => intro _ _ _ _ _ h; cases h
  | succ n ih =>
  intro v1 v2 v3 v4 σ h
  refine rx_walk [5, 41] 2000 (by decide) rx_e41 ?_
  rw [f_gri_meetsSeen_5] at h
  refine rr_if h (fun c11 h => ?_) (fun c11 h => ?_)
  · skip
    refine rr_callV h (fun y hy => f_gri_restartAt_ok_w0 _ hy) (fun y1 hy1 h => ?_)
    exact rx_sub (f_gri_meetsSeen_41_ok_w0 rx_fu _ _ _ h) [1, 4, 0] rfl
  · skip
    refine rr_g h (fun c21 h => ?_)
    refine rr_callT (f_j_max_ok _ rfl) ?_
    exact rx_sub (ih _ _ _ _ _ h) [2, 3, 4, 1, 0] rfl
set_option maxRecDepth 100000 in
set_option maxHeartbeats 4000000 in
theorem f_gri_meetsSeen_ok_w0 {p0 p1 p2 p3 : Nat} {a0 : Int32} {a1 : Int32} {σ : rx_St} : ∀ o, f_gri_meetsSeen 0 a0 a1 σ = some o → rx_OK 41 [.ref 76, .int a0, .int a1] 162 [] [p0, p1, p2, p3, 7] σ (some (.int o.1), rx_D [p0, p1, p2, p3, 7] o.2) := by
  intro o h
  refine rx_OK_of (by decide) (Nat.le_of_ble_eq_true rfl) ?_
  refine rx_walk [5, 41] 2000 (by decide) rx_e41 ?_
  unfold f_gri_meetsSeen at h
  exact rx_sub (f_gri_meetsSeen_5_ok_w0 rx_fu _ _ _ _ _ h) [2, 3, 4, 1, 0] rfl
set_option maxRecDepth 100000 in
theorem rx_e40 : rx_Ext none 40 := rx_Ext_plain (by decide +kernel)
set_option maxRecDepth 100000 in
set_option maxHeartbeats 4000000 in
theorem f_gri_trySeeds_78_ok_w1 {p0 p1 p2 p3 : Nat} {o : rx_St} {k34 : Int32 → Int32 → rx_St → Option (rx_St)} {k41 : Int32 → Int32 → Int32 → rx_St → Option (rx_St)} (hk34 : ∀ (v1 : Int32) (v2 : Int32) (σ : rx_St), k34 v1 v2 σ = some o → rx_AtP none 40 34 [(0, .ref 76), (1, .int v1), (2, .int v2)] [] (rx_D [p0, p1, p2, p3, 21] σ) (none, rx_D [p0, p1, p2, p3, 21] o)) (hk41 : ∀ (v1 : Int32) (v2 : Int32) (v3 : Int32) (σ : rx_St), k41 v1 v2 v3 σ = some o → rx_AtP none 40 41 [(0, .ref 76), (1, .int v1), (2, .int v2), (3, .int v3)] [] (rx_D [p0, p1, p2, p3, 21] σ) (none, rx_D [p0, p1, p2, p3, 21] o)) : ∀ (v1 : Int32) (v2 : Int32) (v3 : Int32) (σ : rx_St), f_gri_trySeeds_78 1 k34 k41 v1 v2 v3 σ = some o → rx_AtP none 40 78 [(0, .ref 76), (1, .int v1), (2, .int v2), (3, .int v3)] [] (rx_D [p0, p1, p2, p3, 21] σ) (none, rx_D [p0, p1, p2, p3, 21] o) := by
  intro v1 v2 v3 σ h
  refine rx_walk [29, 34, 41, 78] 2000 (by decide) rx_e40 ?_
  unfold f_gri_trySeeds_78 at h
  exact rx_sub (hk41 _ _ _ _ h) [1, 2, 3, 0] rfl
set_option maxRecDepth 100000 in
set_option maxHeartbeats 4000000 in
theorem f_gri_trySeeds_41_ok_w1 {p0 p1 p2 p3 : Nat} {o : rx_St} {k34 : Int32 → Int32 → rx_St → Option (rx_St)} (hk34 : ∀ (v1 : Int32) (v2 : Int32) (σ : rx_St), k34 v1 v2 σ = some o → rx_AtP none 40 34 [(0, .ref 76), (1, .int v1), (2, .int v2)] [] (rx_D [p0, p1, p2, p3, 21] σ) (none, rx_D [p0, p1, p2, p3, 21] o)) : ∀ (n : Nat) (v1 : Int32) (v2 : Int32) (v3 : Int32) (σ : rx_St), f_gri_trySeeds_41 1 k34 n v1 v2 v3 σ = some o → rx_AtP none 40 41 [(0, .ref 76), (1, .int v1), (2, .int v2), (3, .int v3)] [] (rx_D [p0, p1, p2, p3, 21] σ) (none, rx_D [p0, p1, p2, p3, 21] o) := by
  intro n
  induction n with
  | zero => intro _ _ _ _ h; cases h
  | succ n ih =>
  intro v1 v2 v3 σ h
  refine rx_walk [29, 34, 41, 78] 2000 (by decide) rx_e40 ?_
  rw [f_gri_trySeeds_41] at h
  refine rr_if h (fun c46 h => ?_) (fun c46 h => ?_)
  · skip
    exact rx_sub (hk34 _ _ _ h) [1, 2, 0] rfl
  · skip
    refine rr_g h (fun c54 h => ?_)
    refine rr_if h (fun c56 h => ?_) (fun c56 h => ?_)
    · skip
      refine rr_callS h (fun y hy => f_gri_meetsSeen_ok_w1 _ hy) (fun y1 hy1 h => ?_)
      refine rr_if h (fun c65 h => ?_) (fun c65 h => ?_)
      · skip
        exact rx_sub (f_gri_trySeeds_78_ok_w1 hk34 ih _ _ _ _ h) [0, 1, 2, 3] rfl
      · skip
        refine rr_g h (fun c74 h => ?_)
        refine rr_g h (fun c77 h => ?_)
        exact rx_sub (f_gri_trySeeds_78_ok_w1 hk34 ih _ _ _ _ h) [0, 1, 2, 3] rfl
    · skip
      exact rx_sub (f_gri_trySeeds_78_ok_w1 hk34 ih _ _ _ _ h) [0, 1, 2, 3] rfl
set_option maxRecDepth 100000 in
set_option maxHeartbeats 4000000 in
theorem f_gri_trySeeds_34_ok_w1 {p0 p1 p2 p3 : Nat} {o : rx_St} : ∀ (n : Nat) (v1 : Int32) (v2 : Int32) (σ : rx_St), f_gri_trySeeds_34 1 n v1 v2 σ = some o → rx_AtP none 40 34 [(0, .ref 76), (1, .int v1), (2, .int v2)] [] (rx_D [p0, p1, p2, p3, 21] σ) (none, rx_D [p0, p1, p2, p3, 21] o) := by
  intro n
  induction n with
  | zero => intro _ _ _ h; cases h
  | succ n ih =>
  intro v1 v2 σ h
  refine rx_walk [29, 34, 41, 78] 2000 (by decide) rx_e40 ?_
  rw [f_gri_trySeeds_34] at h
  refine rr_if h (fun c36 h => ?_) (fun c36 h => ?_)
  · skip
    cases h
    exact And.intro (rfl) rfl
  · skip
    exact rx_sub (f_gri_trySeeds_41_ok_w1 ih rx_fu _ _ _ _ h) [1, 2, 3, 0] rfl
set_option maxRecDepth 100000 in
set_option maxHeartbeats 4000000 in
theorem f_gri_trySeeds_29_ok_w1 {p0 p1 p2 p3 : Nat} {o : rx_St} : ∀ (v1 : Int32) (σ : rx_St), f_gri_trySeeds_29 1 v1 σ = some o → rx_AtP none 40 29 [(0, .ref 76), (1, .int v1)] [] (rx_D [p0, p1, p2, p3, 21] σ) (none, rx_D [p0, p1, p2, p3, 21] o) := by
  intro v1 σ h
  refine rx_walk [29, 34, 41, 78] 2000 (by decide) rx_e40 ?_
  unfold f_gri_trySeeds_29 at h
  exact rx_sub (f_gri_trySeeds_34_ok_w1 rx_fu _ _ _ h) [1, 2, 0] rfl
set_option maxRecDepth 100000 in
set_option maxHeartbeats 4000000 in
theorem f_gri_trySeeds_ok_w1 {p0 p1 p2 p3 : Nat} {a0 : Int32} {σ : rx_St} : ∀ o, f_gri_trySeeds 1 a0 σ = some o → rx_OK 40 [.ref 76, .int a0] 162 [] [p0, p1, p2, p3, 21] σ (none, rx_D [p0, p1, p2, p3, 21] o) := by
  intro o h
  refine rx_OK_of (by decide) (Nat.le_of_ble_eq_true rfl) ?_
  refine rx_walk [29, 34, 41, 78] 2000 (by decide) rx_e40 ?_
  unfold f_gri_trySeeds at h
  refine rr_if h (fun c11 h => ?_) (fun c11 h => ?_)
  · skip
    exact rx_sub (f_gri_trySeeds_29_ok_w1 _ _ h) [0, 1] rfl
  · skip
    refine rr_callV h (fun y hy => f_gri_forget_ok _ hy) (fun y1 hy1 h => ?_)
    exact rx_sub (f_gri_trySeeds_29_ok_w1 _ _ h) [0, 1] rfl
set_option maxRecDepth 100000 in
set_option maxHeartbeats 4000000 in
theorem f_gri_trySeeds_78_ok_w0 {p0 p1 p2 p3 : Nat} {o : rx_St} {k34 : Int32 → Int32 → rx_St → Option (rx_St)} {k41 : Int32 → Int32 → Int32 → rx_St → Option (rx_St)} (hk34 : ∀ (v1 : Int32) (v2 : Int32) (σ : rx_St), k34 v1 v2 σ = some o → rx_AtP none 40 34 [(0, .ref 76), (1, .int v1), (2, .int v2)] [] (rx_D [p0, p1, p2, p3, 7] σ) (none, rx_D [p0, p1, p2, p3, 7] o)) (hk41 : ∀ (v1 : Int32) (v2 : Int32) (v3 : Int32) (σ : rx_St), k41 v1 v2 v3 σ = some o → rx_AtP none 40 41 [(0, .ref 76), (1, .int v1), (2, .int v2), (3, .int v3)] [] (rx_D [p0, p1, p2, p3, 7] σ) (none, rx_D [p0, p1, p2, p3, 7] o)) : ∀ (v1 : Int32) (v2 : Int32) (v3 : Int32) (σ : rx_St), f_gri_trySeeds_78 0 k34 k41 v1 v2 v3 σ = some o → rx_AtP none 40 78 [(0, .ref 76), (1, .int v1), (2, .int v2), (3, .int v3)] [] (rx_D [p0, p1, p2, p3, 7] σ) (none, rx_D [p0, p1, p2, p3, 7] o) := by
  intro v1 v2 v3 σ h
  refine rx_walk [29, 34, 41, 78] 2000 (by decide) rx_e40 ?_
  unfold f_gri_trySeeds_78 at h
  exact rx_sub (hk41 _ _ _ _ h) [1, 2, 3, 0] rfl
set_option maxRecDepth 100000 in
set_option maxHeartbeats 4000000 in
theorem f_gri_trySeeds_41_ok_w0 {p0 p1 p2 p3 : Nat} {o : rx_St} {k34 : Int32 → Int32 → rx_St → Option (rx_St)} (hk34 : ∀ (v1 : Int32) (v2 : Int32) (σ : rx_St), k34 v1 v2 σ = some o → rx_AtP none 40 34 [(0, .ref 76), (1, .int v1), (2, .int v2)] [] (rx_D [p0, p1, p2, p3, 7] σ) (none, rx_D [p0, p1, p2, p3, 7] o)) : ∀ (n : Nat) (v1 : Int32) (v2 : Int32) (v3 : Int32) (σ : rx_St), f_gri_trySeeds_41 0 k34 n v1 v2 v3 σ = some o → rx_AtP none 40 41 [(0, .ref 76), (1, .int v1), (2, .int v2), (3, .int v3)] [] (rx_D [p0, p1, p2, p3, 7] σ) (none, rx_D [p0, p1, p2, p3, 7] o) := by
  intro n
  induction n with
  | zero => intro _ _ _ _ h; cases h
  | succ n ih =>
  intro v1 v2 v3 σ h
  refine rx_walk [29, 34, 41, 78] 2000 (by decide) rx_e40 ?_
  rw [f_gri_trySeeds_41] at h
  refine rr_if h (fun c46 h => ?_) (fun c46 h => ?_)
  · skip
    exact rx_sub (hk34 _ _ _ h) [1, 2, 0] rfl
  · skip
    refine rr_g h (fun c54 h => ?_)
    refine rr_if h (fun c56 h => ?_) (fun c56 h => ?_)
    · skip
      refine rr_callS h (fun y hy => f_gri_meetsSeen_ok_w0 _ hy) (fun y1 hy1 h => ?_)
      refine rr_if h (fun c65 h => ?_) (fun c65 h => ?_)
      · skip
        exact rx_sub (f_gri_trySeeds_78_ok_w0 hk34 ih _ _ _ _ h) [0, 1, 2, 3] rfl
      · skip
        refine rr_g h (fun c74 h => ?_)
        refine rr_g h (fun c77 h => ?_)
        exact rx_sub (f_gri_trySeeds_78_ok_w0 hk34 ih _ _ _ _ h) [0, 1, 2, 3] rfl
    · skip
      exact rx_sub (f_gri_trySeeds_78_ok_w0 hk34 ih _ _ _ _ h) [0, 1, 2, 3] rfl
set_option maxRecDepth 100000 in
set_option maxHeartbeats 4000000 in
theorem f_gri_trySeeds_34_ok_w0 {p0 p1 p2 p3 : Nat} {o : rx_St} : ∀ (n : Nat) (v1 : Int32) (v2 : Int32) (σ : rx_St), f_gri_trySeeds_34 0 n v1 v2 σ = some o → rx_AtP none 40 34 [(0, .ref 76), (1, .int v1), (2, .int v2)] [] (rx_D [p0, p1, p2, p3, 7] σ) (none, rx_D [p0, p1, p2, p3, 7] o) := by
  intro n
  induction n with
  | zero => intro _ _ _ h; cases h
  | succ n ih =>
  intro v1 v2 σ h
  refine rx_walk [29, 34, 41, 78] 2000 (by decide) rx_e40 ?_
  rw [f_gri_trySeeds_34] at h
  refine rr_if h (fun c36 h => ?_) (fun c36 h => ?_)
  · skip
    cases h
    exact And.intro (rfl) rfl
  · skip
    exact rx_sub (f_gri_trySeeds_41_ok_w0 ih rx_fu _ _ _ _ h) [1, 2, 3, 0] rfl
set_option maxRecDepth 100000 in
set_option maxHeartbeats 4000000 in
theorem f_gri_trySeeds_29_ok_w0 {p0 p1 p2 p3 : Nat} {o : rx_St} : ∀ (v1 : Int32) (σ : rx_St), f_gri_trySeeds_29 0 v1 σ = some o → rx_AtP none 40 29 [(0, .ref 76), (1, .int v1)] [] (rx_D [p0, p1, p2, p3, 7] σ) (none, rx_D [p0, p1, p2, p3, 7] o) := by
  intro v1 σ h
  refine rx_walk [29, 34, 41, 78] 2000 (by decide) rx_e40 ?_
  unfold f_gri_trySeeds_29 at h
  exact rx_sub (f_gri_trySeeds_34_ok_w0 rx_fu _ _ _ h) [1, 2, 0] rfl
set_option maxRecDepth 100000 in
set_option maxHeartbeats 4000000 in
theorem f_gri_trySeeds_ok_w0 {p0 p1 p2 p3 : Nat} {a0 : Int32} {σ : rx_St} : ∀ o, f_gri_trySeeds 0 a0 σ = some o → rx_OK 40 [.ref 76, .int a0] 162 [] [p0, p1, p2, p3, 7] σ (none, rx_D [p0, p1, p2, p3, 7] o) := by
  intro o h
  refine rx_OK_of (by decide) (Nat.le_of_ble_eq_true rfl) ?_
  refine rx_walk [29, 34, 41, 78] 2000 (by decide) rx_e40 ?_
  unfold f_gri_trySeeds at h
  refine rr_if h (fun c11 h => ?_) (fun c11 h => ?_)
  · skip
    exact rx_sub (f_gri_trySeeds_29_ok_w0 _ _ h) [0, 1] rfl
  · skip
    refine rr_callV h (fun y hy => f_gri_forget_ok _ hy) (fun y1 hy1 h => ?_)
    exact rx_sub (f_gri_trySeeds_29_ok_w0 _ _ h) [0, 1] rfl
set_option maxRecDepth 100000 in
theorem rx_e43 : rx_Ext none 43 := rx_Ext_plain (by decide +kernel)
set_option maxRecDepth 100000 in
set_option maxHeartbeats 4000000 in
theorem f_gri_countMeeting_25_ok {P : List Nat} {o : Int32} {k4 : Int32 → Int32 → Int32 → rx_St → Option (Int32)} (hk4 : ∀ (v1 : Int32) (v2 : Int32) (v3 : Int32) (σ : rx_St), k4 v1 v2 v3 σ = some o → rx_AtP none 43 4 [(0, .ref 76), (1, .int v1), (2, .int v2), (3, .int v3)] [] (rx_D P σ) (some (.int o), rx_D P σ)) : ∀ (v1 : Int32) (v2 : Int32) (v3 : Int32) (σ : rx_St), f_gri_countMeeting_25 k4 v1 v2 v3 σ = some o → rx_AtP none 43 25 [(0, .ref 76), (1, .int v1), (2, .int v2), (3, .int v3)] [] (rx_D P σ) (some (.int o), rx_D P σ) := by
  intro v1 v2 v3 σ h
  refine rx_walk [4, 25] 2000 (by decide) rx_e43 ?_
  unfold f_gri_countMeeting_25 at h
  exact rx_sub (hk4 _ _ _ _ h) [1, 2, 3, 0] rfl
set_option maxRecDepth 100000 in
set_option maxHeartbeats 4000000 in
theorem f_gri_countMeeting_4_ok {P : List Nat} {o : Int32} : ∀ (n : Nat) (v1 : Int32) (v2 : Int32) (v3 : Int32) (σ : rx_St), f_gri_countMeeting_4 n v1 v2 v3 σ = some o → rx_AtP none 43 4 [(0, .ref 76), (1, .int v1), (2, .int v2), (3, .int v3)] [] (rx_D P σ) (some (.int o), rx_D P σ) := by
  intro n
  induction n with
  | zero => intro _ _ _ _ h; cases h
  | succ n ih =>
  intro v1 v2 v3 σ h
  refine rx_walk [4, 25] 2000 (by decide) rx_e43 ?_
  rw [f_gri_countMeeting_4] at h
  refine rr_if h (fun c9 h => ?_) (fun c9 h => ?_)
  · skip
    cases h
    exact And.intro (trivial) rfl
  · skip
    refine rr_g h (fun c17 h => ?_)
    refine rr_if h (fun c19 h => ?_) (fun c19 h => ?_)
    · skip
      exact rx_sub (f_gri_countMeeting_25_ok ih _ _ _ _ h) [0, 1, 2, 3] rfl
    · skip
      exact rx_sub (f_gri_countMeeting_25_ok ih _ _ _ _ h) [1, 2, 0, 3] rfl
set_option maxRecDepth 100000 in
set_option maxHeartbeats 4000000 in
theorem f_gri_countMeeting_ok {P : List Nat} {a0 : Int32} {σ : rx_St} : ∀ o, f_gri_countMeeting a0 σ = some o → rx_OK 43 [.ref 76, .int a0] 162 [] P σ (some (.int o), rx_D P σ) := by
  intro o h
  refine rx_OK_of (by decide) (Nat.le_of_ble_eq_true rfl) ?_
  refine rx_walk [4, 25] 2000 (by decide) rx_e43 ?_
  unfold f_gri_countMeeting at h
  exact rx_sub (f_gri_countMeeting_4_ok rx_fu _ _ _ _ h) [2, 3, 1, 0] rfl
set_option maxRecDepth 100000 in
theorem rx_e44 : rx_Ext none 44 := rx_Ext_plain (by decide +kernel)
set_option maxRecDepth 100000 in
set_option maxHeartbeats 4000000 in
theorem f_gri_meetingPoint_36_ok {P : List Nat} {o : Int32} {k5 : Int32 → Int32 → Int32 → Int32 → rx_St → Option (Int32)} (hk5 : ∀ (v1 : Int32) (v2 : Int32) (v3 : Int32) (v4 : Int32) (σ : rx_St), k5 v1 v2 v3 v4 σ = some o → rx_AtP none 44 5 [(0, .ref 76), (1, .int v1), (2, .int v2), (3, .int v3), (4, .int v4)] [] (rx_D P σ) (some (.int o), rx_D P σ)) : ∀ (v1 : Int32) (v2 : Int32) (v3 : Int32) (v4 : Int32) (σ : rx_St), f_gri_meetingPoint_36 k5 v1 v2 v3 v4 σ = some o → rx_AtP none 44 36 [(0, .ref 76), (1, .int v1), (2, .int v2), (3, .int v3), (4, .int v4)] [] (rx_D P σ) (some (.int o), rx_D P σ) := by
  intro v1 v2 v3 v4 σ h
  refine rx_walk [5, 36] 2000 (by decide) rx_e44 ?_
  unfold f_gri_meetingPoint_36 at h
  exact rx_sub (hk5 _ _ _ _ _ h) [1, 2, 3, 4, 0] rfl
set_option maxRecDepth 100000 in
set_option maxHeartbeats 4000000 in
theorem f_gri_meetingPoint_5_ok {P : List Nat} {o : Int32} : ∀ (n : Nat) (v1 : Int32) (v2 : Int32) (v3 : Int32) (v4 : Int32) (σ : rx_St), f_gri_meetingPoint_5 n v1 v2 v3 v4 σ = some o → rx_AtP none 44 5 [(0, .ref 76), (1, .int v1), (2, .int v2), (3, .int v3), (4, .int v4)] [] (rx_D P σ) (some (.int o), rx_D P σ) := by
  intro n
  induction n with
  | zero => intro _ _ _ _ _ h; cases h
  | succ n ih =>
  intro v1 v2 v3 v4 σ h
  refine rx_walk [5, 36] 2000 (by decide) rx_e44 ?_
  rw [f_gri_meetingPoint_5] at h
  refine rr_if h (fun c11 h => ?_) (fun c11 h => ?_)
  · skip
    cases h
    exact And.intro (trivial) rfl
  · skip
    refine rr_g h (fun c20 h => ?_)
    refine rr_if h (fun c22 h => ?_) (fun c22 h => ?_)
    · skip
      exact rx_sub (f_gri_meetingPoint_36_ok ih _ _ _ _ _ h) [0, 1, 2, 3, 4] rfl
    · skip
      refine rr_if h (fun c27 h => ?_) (fun c27 h => ?_)
      · skip
        cases h
        exact And.intro (trivial) rfl
      · skip
        exact rx_sub (f_gri_meetingPoint_36_ok ih _ _ _ _ _ h) [1, 2, 3, 0, 4] rfl
set_option maxRecDepth 100000 in
set_option maxHeartbeats 4000000 in
theorem f_gri_meetingPoint_ok {P : List Nat} {a0 : Int32} {a1 : Int32} {σ : rx_St} : ∀ o, f_gri_meetingPoint a0 a1 σ = some o → rx_OK 44 [.ref 76, .int a0, .int a1] 162 [] P σ (some (.int o), rx_D P σ) := by
  intro o h
  refine rx_OK_of (by decide) (Nat.le_of_ble_eq_true rfl) ?_
  refine rx_walk [5, 36] 2000 (by decide) rx_e44 ?_
  unfold f_gri_meetingPoint at h
  exact rx_sub (f_gri_meetingPoint_5_ok rx_fu _ _ _ _ _ h) [2, 3, 4, 1, 0] rfl
set_option maxRecDepth 100000 in
theorem rx_e45 : rx_Ext none 45 := rx_Ext_plain (by decide +kernel)
set_option maxRecDepth 100000 in
set_option maxHeartbeats 4000000 in
theorem f_gri_untoldSpans_96_ok {P : List Nat} {o : Int32} {k7 : Int32 → Int32 → Int32 → Int32 → rx_St → Option (Int32)} (hk7 : ∀ (v1 : Int32) (v2 : Int32) (v3 : Int32) (v4 : Int32) (σ : rx_St), k7 v1 v2 v3 v4 σ = some o → rx_AtP none 45 7 [(0, .ref 76), (1, .int v1), (2, .int v2), (3, .int v3), (4, .int v4)] [] (rx_D P σ) (some (.int o), rx_D P σ)) : ∀ (v1 : Int32) (v2 : Int32) (v3 : Int32) (v4 : Int32) (σ : rx_St), f_gri_untoldSpans_96 k7 v1 v2 v3 v4 σ = some o → rx_AtP none 45 96 [(0, .ref 76), (1, .int v1), (2, .int v2), (3, .int v3), (4, .int v4)] [] (rx_D P σ) (some (.int o), rx_D P σ) := by
  intro v1 v2 v3 v4 σ h
  refine rx_walk [7, 30, 63, 88, 96] 2000 (by decide) rx_e45 ?_
  unfold f_gri_untoldSpans_96 at h
  exact rx_sub (hk7 _ _ _ _ _ h) [1, 2, 3, 4, 0] rfl
set_option maxRecDepth 100000 in
set_option maxHeartbeats 4000000 in
theorem f_gri_untoldSpans_88_ok {P : List Nat} {o : Int32} {k7 : Int32 → Int32 → Int32 → Int32 → rx_St → Option (Int32)} {k30 : Int32 → Int32 → Int32 → Int32 → Int32 → rx_St → Option (Int32)} (hk7 : ∀ (v1 : Int32) (v2 : Int32) (v3 : Int32) (v4 : Int32) (σ : rx_St), k7 v1 v2 v3 v4 σ = some o → rx_AtP none 45 7 [(0, .ref 76), (1, .int v1), (2, .int v2), (3, .int v3), (4, .int v4)] [] (rx_D P σ) (some (.int o), rx_D P σ)) (hk30 : ∀ (v1 : Int32) (v2 : Int32) (v3 : Int32) (v4 : Int32) (v5 : Int32) (σ : rx_St), k30 v1 v2 v3 v4 v5 σ = some o → rx_AtP none 45 30 [(0, .ref 76), (1, .int v1), (2, .int v2), (3, .int v3), (4, .int v4), (5, .int v5)] [] (rx_D P σ) (some (.int o), rx_D P σ)) : ∀ (v1 : Int32) (v2 : Int32) (v4 : Int32) (v5 : Int32) (s0 : Int32) (s1 : Int32) (σ : rx_St), f_gri_untoldSpans_88 k7 k30 v1 v2 v4 v5 s0 s1 σ = some o → rx_AtP none 45 88 [(0, .ref 76), (1, .int v1), (2, .int v2), (4, .int v4), (5, .int v5)] [.int s1, .int s0] (rx_D P σ) (some (.int o), rx_D P σ) := by
  intro v1 v2 v4 v5 s0 s1 σ h
  refine rx_walk [7, 30, 63, 88, 96] 2000 (by decide) rx_e45 ?_
  unfold f_gri_untoldSpans_88 at h
  exact rx_sub (hk30 _ _ _ _ _ _ h) [2, 3, 4, 1, 5, 0] rfl
set_option maxRecDepth 100000 in
set_option maxHeartbeats 4000000 in
theorem f_gri_untoldSpans_63_ok {P : List Nat} {o : Int32} {k7 : Int32 → Int32 → Int32 → Int32 → rx_St → Option (Int32)} {k30 : Int32 → Int32 → Int32 → Int32 → Int32 → rx_St → Option (Int32)} (hk7 : ∀ (v1 : Int32) (v2 : Int32) (v3 : Int32) (v4 : Int32) (σ : rx_St), k7 v1 v2 v3 v4 σ = some o → rx_AtP none 45 7 [(0, .ref 76), (1, .int v1), (2, .int v2), (3, .int v3), (4, .int v4)] [] (rx_D P σ) (some (.int o), rx_D P σ)) (hk30 : ∀ (v1 : Int32) (v2 : Int32) (v3 : Int32) (v4 : Int32) (v5 : Int32) (σ : rx_St), k30 v1 v2 v3 v4 v5 σ = some o → rx_AtP none 45 30 [(0, .ref 76), (1, .int v1), (2, .int v2), (3, .int v3), (4, .int v4), (5, .int v5)] [] (rx_D P σ) (some (.int o), rx_D P σ)) : ∀ (v1 : Int32) (v3 : Int32) (v4 : Int32) (v5 : Int32) (v6 : Int32) (s0 : Int32) (s1 : Int32) (σ : rx_St), f_gri_untoldSpans_63 k7 k30 v1 v3 v4 v5 v6 s0 s1 σ = some o → rx_AtP none 45 63 [(0, .ref 76), (1, .int v1), (3, .int v3), (4, .int v4), (5, .int v5), (6, .int v6)] [.int s1, .int s0] (rx_D P σ) (some (.int o), rx_D P σ) := by
  intro v1 v3 v4 v5 v6 s0 s1 σ h
  refine rx_walk [7, 30, 63, 88, 96] 2000 (by decide) rx_e45 ?_
  unfold f_gri_untoldSpans_63 at h
  refine rr_g h (fun c74 h => ?_)
  refine rr_if h (fun c77 h => ?_) (fun c77 h => ?_)
  · skip
    exact rx_sub (f_gri_untoldSpans_88_ok hk7 hk30 _ _ _ _ _ _ _ h) [1, 2, 0, 4, 5] rfl
  · skip
    exact rx_sub (f_gri_untoldSpans_88_ok hk7 hk30 _ _ _ _ _ _ _ h) [1, 2, 0, 4, 5] rfl
set_option maxRecDepth 100000 in
set_option maxHeartbeats 4000000 in
theorem f_gri_untoldSpans_30_ok {P : List Nat} {o : Int32} {k7 : Int32 → Int32 → Int32 → Int32 → rx_St → Option (Int32)} (hk7 : ∀ (v1 : Int32) (v2 : Int32) (v3 : Int32) (v4 : Int32) (σ : rx_St), k7 v1 v2 v3 v4 σ = some o → rx_AtP none 45 7 [(0, .ref 76), (1, .int v1), (2, .int v2), (3, .int v3), (4, .int v4)] [] (rx_D P σ) (some (.int o), rx_D P σ)) : ∀ (n : Nat) (v1 : Int32) (v2 : Int32) (v3 : Int32) (v4 : Int32) (v5 : Int32) (σ : rx_St), f_gri_untoldSpans_30 k7 n v1 v2 v3 v4 v5 σ = some o → rx_AtP none 45 30 [(0, .ref 76), (1, .int v1), (2, .int v2), (3, .int v3), (4, .int v4), (5, .int v5)] [] (rx_D P σ) (some (.int o), rx_D P σ) := by
  intro n
  induction n with
  | zero => intro _ _ _ _ _ _ h; cases h
  | succ n ih =>
  intro v1 v2 v3 v4 v5 σ h
  refine rx_walk [7, 30, 63, 88, 96] 2000 (by decide) rx_e45 ?_
  rw [f_gri_untoldSpans_30] at h
  refine rr_if h (fun c36 h => ?_) (fun c36 h => ?_)
  · skip
    exact rx_sub (f_gri_untoldSpans_96_ok hk7 _ _ _ _ _ h) [0, 1, 2, 3, 4] rfl
  · skip
    refine rr_callP h (fun y hy => f_gri_turn_ok _ hy) (fun y1 hy1 h => ?_)
    refine rr_if h (fun c52 h => ?_) (fun c52 h => ?_)
    · skip
      exact rx_sub (f_gri_untoldSpans_63_ok hk7 ih _ _ _ _ _ _ _ _ h) [1, 2, 4, 5, 6, 0] rfl
    · skip
      exact rx_sub (f_gri_untoldSpans_63_ok hk7 ih _ _ _ _ _ _ _ _ h) [1, 2, 4, 5, 6, 0] rfl
set_option maxRecDepth 100000 in
set_option maxHeartbeats 4000000 in
theorem f_gri_untoldSpans_7_ok {P : List Nat} {o : Int32} : ∀ (n : Nat) (v1 : Int32) (v2 : Int32) (v3 : Int32) (v4 : Int32) (σ : rx_St), f_gri_untoldSpans_7 n v1 v2 v3 v4 σ = some o → rx_AtP none 45 7 [(0, .ref 76), (1, .int v1), (2, .int v2), (3, .int v3), (4, .int v4)] [] (rx_D P σ) (some (.int o), rx_D P σ) := by
  intro n
  induction n with
  | zero => intro _ _ _ _ _ h; cases h
  | succ n ih =>
  intro v1 v2 v3 v4 σ h
  refine rx_walk [7, 30, 63, 88, 96] 2000 (by decide) rx_e45 ?_
  rw [f_gri_untoldSpans_7] at h
  refine rr_if h (fun c13 h => ?_) (fun c13 h => ?_)
  · skip
    cases h
    exact And.intro (trivial) rfl
  · skip
    refine rr_g h (fun c22 h => ?_)
    refine rr_if h (fun c24 h => ?_) (fun c24 h => ?_)
    · skip
      exact rx_sub (f_gri_untoldSpans_96_ok ih _ _ _ _ _ h) [0, 1, 2, 3, 4] rfl
    · skip
      exact rx_sub (f_gri_untoldSpans_30_ok ih rx_fu _ _ _ _ _ _ h) [1, 2, 3, 4, 5, 0] rfl
set_option maxRecDepth 100000 in
set_option maxHeartbeats 4000000 in
theorem f_gri_untoldSpans_ok {P : List Nat} {a0 : Int32} {σ : rx_St} : ∀ o, f_gri_untoldSpans a0 σ = some o → rx_OK 45 [.ref 76, .int a0] 162 [] P σ (some (.int o), rx_D P σ) := by
  intro o h
  refine rx_OK_of (by decide) (Nat.le_of_ble_eq_true rfl) ?_
  refine rx_walk [7, 30, 63, 88, 96] 2000 (by decide) rx_e45 ?_
  unfold f_gri_untoldSpans at h
  exact rx_sub (f_gri_untoldSpans_7_ok rx_fu _ _ _ _ _ h) [3, 4, 2, 1, 0] rfl
set_option maxRecDepth 100000 in
theorem rx_e46 : rx_Ext none 46 := rx_Ext_plain (by decide +kernel)
set_option maxRecDepth 100000 in
set_option maxHeartbeats 4000000 in
theorem f_gri_figureAt_21_ok_w1 {p0 p1 p2 p3 : Nat} {o : Int32 × rx_St} : ∀ (v5 : Int32) (v6 : Int32) (σ : rx_St), f_gri_figureAt_21 1 v5 v6 σ = some o → rx_AtP none 46 21 [(0, .ref 76), (5, .int v5), (6, .int v6)] [] (rx_D [p0, p1, p2, p3, 21] σ) (some (.int o.1), rx_D [p0, p1, p2, p3, 21] o.2) := by
  intro v5 v6 σ h
  refine rx_walk [21] 2000 (by decide) rx_e46 ?_
  unfold f_gri_figureAt_21 at h
  refine rr_callV h (fun y hy => f_run_goOn_ok_r0w1 _ hy) (fun y1 hy1 h => ?_)
  refine rr_ck ((by decide)) ?_
  refine rr_ck ((by decide)) ?_
  refine rr_callP h (fun y hy => f_run_total_ok_r0 _ hy) (fun y2 hy2 h => ?_)
  cases h
  exact And.intro (trivial) rfl
set_option maxRecDepth 100000 in
set_option maxHeartbeats 4000000 in
theorem f_gri_figureAt_ok_w1 {p0 p1 p2 p3 : Nat} {a0 : Int32} {a1 : Int32} {a2 : Int32} {a3 : Int32} {a4 : Int32} {a5 : Int32} {σ : rx_St} : ∀ o, f_gri_figureAt 1 a0 a1 a2 a3 a4 a5 σ = some o → rx_OK 46 [.ref 76, .int a0, .int a1, .int a2, .int a3, .int a4, .int a5] 162 [] [p0, p1, p2, p3, 21] σ (some (.int o.1), rx_D [p0, p1, p2, p3, 21] o.2) := by
  intro o h
  refine rx_OK_of (by decide) (Nat.le_of_ble_eq_true rfl) ?_
  refine rx_walk [21] 2000 (by decide) rx_e46 ?_
  unfold f_gri_figureAt at h
  refine rr_callV h (fun y hy => f_gri_restartAt_ok_w1 _ hy) (fun y1 hy1 h => ?_)
  refine rr_if h (fun c7 h => ?_) (fun c7 h => ?_)
  · skip
    exact rx_sub (f_gri_figureAt_21_ok_w1 _ _ _ h) [0, 5, 6] rfl
  · skip
    refine rr_g h (fun c20 h => ?_)
    exact rx_sub (f_gri_figureAt_21_ok_w1 _ _ _ h) [0, 5, 6] rfl
set_option maxRecDepth 100000 in
set_option maxHeartbeats 4000000 in
theorem f_gri_figureAt_21_ok_w0 {p0 p1 p2 p3 : Nat} {o : Int32 × rx_St} : ∀ (v5 : Int32) (v6 : Int32) (σ : rx_St), f_gri_figureAt_21 0 v5 v6 σ = some o → rx_AtP none 46 21 [(0, .ref 76), (5, .int v5), (6, .int v6)] [] (rx_D [p0, p1, p2, p3, 7] σ) (some (.int o.1), rx_D [p0, p1, p2, p3, 7] o.2) := by
  intro v5 v6 σ h
  refine rx_walk [21] 2000 (by decide) rx_e46 ?_
  unfold f_gri_figureAt_21 at h
  refine rr_callV h (fun y hy => f_run_goOn_ok_r0w0 _ hy) (fun y1 hy1 h => ?_)
  refine rr_ck ((by decide)) ?_
  refine rr_ck ((by decide)) ?_
  refine rr_callP h (fun y hy => f_run_total_ok_r0 _ hy) (fun y2 hy2 h => ?_)
  cases h
  exact And.intro (trivial) rfl
set_option maxRecDepth 100000 in
set_option maxHeartbeats 4000000 in
theorem f_gri_figureAt_ok_w0 {p0 p1 p2 p3 : Nat} {a0 : Int32} {a1 : Int32} {a2 : Int32} {a3 : Int32} {a4 : Int32} {a5 : Int32} {σ : rx_St} : ∀ o, f_gri_figureAt 0 a0 a1 a2 a3 a4 a5 σ = some o → rx_OK 46 [.ref 76, .int a0, .int a1, .int a2, .int a3, .int a4, .int a5] 162 [] [p0, p1, p2, p3, 7] σ (some (.int o.1), rx_D [p0, p1, p2, p3, 7] o.2) := by
  intro o h
  refine rx_OK_of (by decide) (Nat.le_of_ble_eq_true rfl) ?_
  refine rx_walk [21] 2000 (by decide) rx_e46 ?_
  unfold f_gri_figureAt at h
  refine rr_callV h (fun y hy => f_gri_restartAt_ok_w0 _ hy) (fun y1 hy1 h => ?_)
  refine rr_if h (fun c7 h => ?_) (fun c7 h => ?_)
  · skip
    exact rx_sub (f_gri_figureAt_21_ok_w0 _ _ _ h) [0, 5, 6] rfl
  · skip
    refine rr_g h (fun c20 h => ?_)
    exact rx_sub (f_gri_figureAt_21_ok_w0 _ _ _ h) [0, 5, 6] rfl
set_option maxRecDepth 100000 in
theorem rx_e47 : rx_Ext none 47 := rx_Ext_plain (by decide +kernel)
set_option maxRecDepth 100000 in
set_option maxHeartbeats 4000000 in
theorem f_gri_outermost_108_ok_w1 {p0 p1 p2 p3 : Nat} {o : Int32 × rx_St} {k7 : Int32 → Int32 → Int32 → Int32 → Int32 → Int32 → Int32 → Int32 → rx_St → Option (Int32 × rx_St)} (hk7 : ∀ (v1 : Int32) (v2 : Int32) (v3 : Int32) (v4 : Int32) (v5 : Int32) (v6 : Int32) (v7 : Int32) (v8 : Int32) (σ : rx_St), k7 v1 v2 v3 v4 v5 v6 v7 v8 σ = some o → rx_AtP none 47 7 [(0, .ref 76), (1, .int v1), (2, .int v2), (3, .int v3), (4, .int v4), (5, .int v5), (6, .int v6), (7, .int v7), (8, .int v8)] [] (rx_D [p0, p1, p2, p3, 21] σ) (some (.int o.1), rx_D [p0, p1, p2, p3, 21] o.2)) : ∀ (v1 : Int32) (v2 : Int32) (v3 : Int32) (v4 : Int32) (v5 : Int32) (v6 : Int32) (v7 : Int32) (v8 : Int32) (σ : rx_St), f_gri_outermost_108 1 k7 v1 v2 v3 v4 v5 v6 v7 v8 σ = some o → rx_AtP none 47 108 [(0, .ref 76), (1, .int v1), (2, .int v2), (3, .int v3), (4, .int v4), (5, .int v5), (6, .int v6), (7, .int v7), (8, .int v8)] [] (rx_D [p0, p1, p2, p3, 21] σ) (some (.int o.1), rx_D [p0, p1, p2, p3, 21] o.2) := by
  intro v1 v2 v3 v4 v5 v6 v7 v8 σ h
  refine rx_walk [7, 19, 84, 98, 102, 108] 2000 (by decide) rx_e47 ?_
  unfold f_gri_outermost_108 at h
  exact rx_sub (hk7 _ _ _ _ _ _ _ _ _ h) [1, 2, 3, 4, 5, 6, 7, 8, 0] rfl
set_option maxRecDepth 100000 in
set_option maxHeartbeats 4000000 in
theorem f_gri_outermost_102_ok_w1 {p0 p1 p2 p3 : Nat} {o : Int32 × rx_St} {k7 : Int32 → Int32 → Int32 → Int32 → Int32 → Int32 → Int32 → Int32 → rx_St → Option (Int32 × rx_St)} {k19 : Int32 → Int32 → Int32 → Int32 → Int32 → Int32 → Int32 → Int32 → Int32 → rx_St → Option (Int32 × rx_St)} (hk7 : ∀ (v1 : Int32) (v2 : Int32) (v3 : Int32) (v4 : Int32) (v5 : Int32) (v6 : Int32) (v7 : Int32) (v8 : Int32) (σ : rx_St), k7 v1 v2 v3 v4 v5 v6 v7 v8 σ = some o → rx_AtP none 47 7 [(0, .ref 76), (1, .int v1), (2, .int v2), (3, .int v3), (4, .int v4), (5, .int v5), (6, .int v6), (7, .int v7), (8, .int v8)] [] (rx_D [p0, p1, p2, p3, 21] σ) (some (.int o.1), rx_D [p0, p1, p2, p3, 21] o.2)) (hk19 : ∀ (v1 : Int32) (v2 : Int32) (v3 : Int32) (v4 : Int32) (v5 : Int32) (v6 : Int32) (v7 : Int32) (v8 : Int32) (v9 : Int32) (σ : rx_St), k19 v1 v2 v3 v4 v5 v6 v7 v8 v9 σ = some o → rx_AtP none 47 19 [(0, .ref 76), (1, .int v1), (2, .int v2), (3, .int v3), (4, .int v4), (5, .int v5), (6, .int v6), (7, .int v7), (8, .int v8), (9, .int v9)] [] (rx_D [p0, p1, p2, p3, 21] σ) (some (.int o.1), rx_D [p0, p1, p2, p3, 21] o.2)) : ∀ (v1 : Int32) (v2 : Int32) (v3 : Int32) (v4 : Int32) (v5 : Int32) (v6 : Int32) (v7 : Int32) (v8 : Int32) (v9 : Int32) (σ : rx_St), f_gri_outermost_102 1 k7 k19 v1 v2 v3 v4 v5 v6 v7 v8 v9 σ = some o → rx_AtP none 47 102 [(0, .ref 76), (1, .int v1), (2, .int v2), (3, .int v3), (4, .int v4), (5, .int v5), (6, .int v6), (7, .int v7), (8, .int v8), (9, .int v9)] [] (rx_D [p0, p1, p2, p3, 21] σ) (some (.int o.1), rx_D [p0, p1, p2, p3, 21] o.2) := by
  intro v1 v2 v3 v4 v5 v6 v7 v8 v9 σ h
  refine rx_walk [7, 19, 84, 98, 102, 108] 2000 (by decide) rx_e47 ?_
  unfold f_gri_outermost_102 at h
  exact rx_sub (hk19 _ _ _ _ _ _ _ _ _ _ h) [1, 2, 3, 4, 5, 6, 7, 8, 9, 0] rfl
set_option maxRecDepth 100000 in
set_option maxHeartbeats 4000000 in
theorem f_gri_outermost_98_ok_w1 {p0 p1 p2 p3 : Nat} {o : Int32 × rx_St} {k7 : Int32 → Int32 → Int32 → Int32 → Int32 → Int32 → Int32 → Int32 → rx_St → Option (Int32 × rx_St)} {k19 : Int32 → Int32 → Int32 → Int32 → Int32 → Int32 → Int32 → Int32 → Int32 → rx_St → Option (Int32 × rx_St)} (hk7 : ∀ (v1 : Int32) (v2 : Int32) (v3 : Int32) (v4 : Int32) (v5 : Int32) (v6 : Int32) (v7 : Int32) (v8 : Int32) (σ : rx_St), k7 v1 v2 v3 v4 v5 v6 v7 v8 σ = some o → rx_AtP none 47 7 [(0, .ref 76), (1, .int v1), (2, .int v2), (3, .int v3), (4, .int v4), (5, .int v5), (6, .int v6), (7, .int v7), (8, .int v8)] [] (rx_D [p0, p1, p2, p3, 21] σ) (some (.int o.1), rx_D [p0, p1, p2, p3, 21] o.2)) (hk19 : ∀ (v1 : Int32) (v2 : Int32) (v3 : Int32) (v4 : Int32) (v5 : Int32) (v6 : Int32) (v7 : Int32) (v8 : Int32) (v9 : Int32) (σ : rx_St), k19 v1 v2 v3 v4 v5 v6 v7 v8 v9 σ = some o → rx_AtP none 47 19 [(0, .ref 76), (1, .int v1), (2, .int v2), (3, .int v3), (4, .int v4), (5, .int v5), (6, .int v6), (7, .int v7), (8, .int v8), (9, .int v9)] [] (rx_D [p0, p1, p2, p3, 21] σ) (some (.int o.1), rx_D [p0, p1, p2, p3, 21] o.2)) : ∀ (v1 : Int32) (v2 : Int32) (v3 : Int32) (v4 : Int32) (v5 : Int32) (v6 : Int32) (v8 : Int32) (v9 : Int32) (v10 : Int32) (σ : rx_St), f_gri_outermost_98 1 k7 k19 v1 v2 v3 v4 v5 v6 v8 v9 v10 σ = some o → rx_AtP none 47 98 [(0, .ref 76), (1, .int v1), (2, .int v2), (3, .int v3), (4, .int v4), (5, .int v5), (6, .int v6), (8, .int v8), (9, .int v9), (10, .int v10)] [] (rx_D [p0, p1, p2, p3, 21] σ) (some (.int o.1), rx_D [p0, p1, p2, p3, 21] o.2) := by
  intro v1 v2 v3 v4 v5 v6 v8 v9 v10 σ h
  refine rx_walk [7, 19, 84, 98, 102, 108] 2000 (by decide) rx_e47 ?_
  unfold f_gri_outermost_98 at h
  exact rx_sub (f_gri_outermost_102_ok_w1 hk7 hk19 _ _ _ _ _ _ _ _ _ _ h) [1, 2, 3, 4, 5, 6, 7, 0, 8, 9] rfl
set_option maxRecDepth 100000 in
set_option maxHeartbeats 4000000 in
theorem f_gri_outermost_84_ok_w1 {p0 p1 p2 p3 : Nat} {o : Int32 × rx_St} {k7 : Int32 → Int32 → Int32 → Int32 → Int32 → Int32 → Int32 → Int32 → rx_St → Option (Int32 × rx_St)} {k19 : Int32 → Int32 → Int32 → Int32 → Int32 → Int32 → Int32 → Int32 → Int32 → rx_St → Option (Int32 × rx_St)} (hk7 : ∀ (v1 : Int32) (v2 : Int32) (v3 : Int32) (v4 : Int32) (v5 : Int32) (v6 : Int32) (v7 : Int32) (v8 : Int32) (σ : rx_St), k7 v1 v2 v3 v4 v5 v6 v7 v8 σ = some o → rx_AtP none 47 7 [(0, .ref 76), (1, .int v1), (2, .int v2), (3, .int v3), (4, .int v4), (5, .int v5), (6, .int v6), (7, .int v7), (8, .int v8)] [] (rx_D [p0, p1, p2, p3, 21] σ) (some (.int o.1), rx_D [p0, p1, p2, p3, 21] o.2)) (hk19 : ∀ (v1 : Int32) (v2 : Int32) (v3 : Int32) (v4 : Int32) (v5 : Int32) (v6 : Int32) (v7 : Int32) (v8 : Int32) (v9 : Int32) (σ : rx_St), k19 v1 v2 v3 v4 v5 v6 v7 v8 v9 σ = some o → rx_AtP none 47 19 [(0, .ref 76), (1, .int v1), (2, .int v2), (3, .int v3), (4, .int v4), (5, .int v5), (6, .int v6), (7, .int v7), (8, .int v8), (9, .int v9)] [] (rx_D [p0, p1, p2, p3, 21] σ) (some (.int o.1), rx_D [p0, p1, p2, p3, 21] o.2)) : ∀ (v1 : Int32) (v2 : Int32) (v3 : Int32) (v4 : Int32) (v5 : Int32) (v6 : Int32) (v7 : Int32) (v8 : Int32) (v9 : Int32) (v10 : Int32) (s0 : Int32) (σ : rx_St), f_gri_outermost_84 1 k7 k19 v1 v2 v3 v4 v5 v6 v7 v8 v9 v10 s0 σ = some o → rx_AtP none 47 84 [(0, .ref 76), (1, .int v1), (2, .int v2), (3, .int v3), (4, .int v4), (5, .int v5), (6, .int v6), (7, .int v7), (8, .int v8), (9, .int v9), (10, .int v10)] [.int s0] (rx_D [p0, p1, p2, p3, 21] σ) (some (.int o.1), rx_D [p0, p1, p2, p3, 21] o.2) := by
  intro v1 v2 v3 v4 v5 v6 v7 v8 v9 v10 s0 σ h
  refine rx_walk [7, 19, 84, 98, 102, 108] 2000 (by decide) rx_e47 ?_
  unfold f_gri_outermost_84 at h
  refine rr_if h (fun c90 h => ?_) (fun c90 h => ?_)
  · skip
    exact rx_sub (f_gri_outermost_98_ok_w1 hk7 hk19 _ _ _ _ _ _ _ _ _ _ h) [1, 2, 3, 4, 5, 6, 7, 9, 10, 11] rfl
  · skip
    refine rr_if h (fun c95 h => ?_) (fun c95 h => ?_)
    · skip
      exact rx_sub (f_gri_outermost_102_ok_w1 hk7 hk19 _ _ _ _ _ _ _ _ _ _ h) [1, 2, 3, 4, 5, 6, 7, 8, 9, 10] rfl
    · skip
      exact rx_sub (f_gri_outermost_98_ok_w1 hk7 hk19 _ _ _ _ _ _ _ _ _ _ h) [1, 2, 3, 4, 5, 6, 7, 9, 10, 11] rfl
set_option maxRecDepth 100000 in
set_option maxHeartbeats 4000000 in
theorem f_gri_outermost_19_ok_w1 {p0 p1 p2 p3 : Nat} {o : Int32 × rx_St} {k7 : Int32 → Int32 → Int32 → Int32 → Int32 → Int32 → Int32 → Int32 → rx_St → Option (Int32 × rx_St)} (hk7 : ∀ (v1 : Int32) (v2 : Int32) (v3 : Int32) (v4 : Int32) (v5 : Int32) (v6 : Int32) (v7 : Int32) (v8 : Int32) (σ : rx_St), k7 v1 v2 v3 v4 v5 v6 v7 v8 σ = some o → rx_AtP none 47 7 [(0, .ref 76), (1, .int v1), (2, .int v2), (3, .int v3), (4, .int v4), (5, .int v5), (6, .int v6), (7, .int v7), (8, .int v8)] [] (rx_D [p0, p1, p2, p3, 21] σ) (some (.int o.1), rx_D [p0, p1, p2, p3, 21] o.2)) : ∀ (n : Nat) (v1 : Int32) (v2 : Int32) (v3 : Int32) (v4 : Int32) (v5 : Int32) (v6 : Int32) (v7 : Int32) (v8 : Int32) (v9 : Int32) (σ : rx_St), f_gri_outermost_19 1 k7 n v1 v2 v3 v4 v5 v6 v7 v8 v9 σ = some o → rx_AtP none 47 19 [(0, .ref 76), (1, .int v1), (2, .int v2), (3, .int v3), (4, .int v4), (5, .int v5), (6, .int v6), (7, .int v7), (8, .int v8), (9, .int v9)] [] (rx_D [p0, p1, p2, p3, 21] σ) (some (.int o.1), rx_D [p0, p1, p2, p3, 21] o.2) := by
  intro n
  induction n with
  | zero => intro _ _ _ _ _ _ _ _ _ _ h; cases h
  | succ n ih =>
  intro v1 v2 v3 v4 v5 v6 v7 v8 v9 σ h
  refine rx_walk [7, 19, 84, 98, 102, 108] 2000 (by decide) rx_e47 ?_
  rw [f_gri_outermost_19] at h
  refine rr_if h (fun c22 h => ?_) (fun c22 h => ?_)
  · skip
    exact rx_sub (f_gri_outermost_108_ok_w1 hk7 _ _ _ _ _ _ _ _ _ h) [0, 1, 2, 3, 4, 5, 6, 7, 8] rfl
  · skip
    refine rr_g h (fun c31 h => ?_)
    refine rr_if h (fun c33 h => ?_) (fun c33 h => ?_)
    · skip
      exact rx_sub (f_gri_outermost_108_ok_w1 hk7 _ _ _ _ _ _ _ _ _ h) [0, 1, 2, 3, 4, 5, 6, 7, 8] rfl
    · skip
      refine rr_callS h (fun y hy => f_gri_figureAt_ok_w1 _ hy) (fun y1 hy1 h => ?_)
      refine rr_if h (fun c54 h => ?_) (fun c54 h => ?_)
      · skip
        refine rr_if h (fun c76 h => ?_) (fun c76 h => ?_)
        · skip
          exact rx_sub (f_gri_outermost_84_ok_w1 hk7 ih _ _ _ _ _ _ _ _ _ _ _ _ h) [1, 2, 3, 4, 5, 6, 7, 8, 9, 10, 0] rfl
        · skip
          exact rx_sub (f_gri_outermost_84_ok_w1 hk7 ih _ _ _ _ _ _ _ _ _ _ _ _ h) [1, 2, 3, 4, 5, 6, 7, 8, 9, 10, 0] rfl
      · skip
        refine rr_if h (fun c61 h => ?_) (fun c61 h => ?_)
        · skip
          exact rx_sub (f_gri_outermost_84_ok_w1 hk7 ih _ _ _ _ _ _ _ _ _ _ _ _ h) [1, 2, 3, 4, 5, 6, 7, 8, 9, 10, 0] rfl
        · skip
          exact rx_sub (f_gri_outermost_84_ok_w1 hk7 ih _ _ _ _ _ _ _ _ _ _ _ _ h) [1, 2, 3, 4, 5, 6, 7, 8, 9, 10, 0] rfl
set_option maxRecDepth 100000 in
set_option maxHeartbeats 4000000 in
theorem f_gri_outermost_7_ok_w1 {p0 p1 p2 p3 : Nat} {o : Int32 × rx_St} : ∀ (n : Nat) (v1 : Int32) (v2 : Int32) (v3 : Int32) (v4 : Int32) (v5 : Int32) (v6 : Int32) (v7 : Int32) (v8 : Int32) (σ : rx_St), f_gri_outermost_7 1 n v1 v2 v3 v4 v5 v6 v7 v8 σ = some o → rx_AtP none 47 7 [(0, .ref 76), (1, .int v1), (2, .int v2), (3, .int v3), (4, .int v4), (5, .int v5), (6, .int v6), (7, .int v7), (8, .int v8)] [] (rx_D [p0, p1, p2, p3, 21] σ) (some (.int o.1), rx_D [p0, p1, p2, p3, 21] o.2) := by
  intro n
  induction n with
  | zero => intro _ _ _ _ _ _ _ _ _ h; cases h
  | succ n ih =>
  intro v1 v2 v3 v4 v5 v6 v7 v8 σ h
  refine rx_walk [7, 19, 84, 98, 102, 108] 2000 (by decide) rx_e47 ?_
  rw [f_gri_outermost_7] at h
  refine rr_if h (fun c13 h => ?_) (fun c13 h => ?_)
  · skip
    cases h
    exact And.intro (trivial) rfl
  · skip
    exact rx_sub (f_gri_outermost_19_ok_w1 ih rx_fu _ _ _ _ _ _ _ _ _ _ h) [1, 2, 3, 4, 5, 6, 7, 8, 9, 0] rfl
set_option maxRecDepth 100000 in
set_option maxHeartbeats 4000000 in
theorem f_gri_outermost_ok_w1 {p0 p1 p2 p3 : Nat} {a0 : Int32} {a1 : Int32} {a2 : Int32} {a3 : Int32} {a4 : Int32} {a5 : Int32} {σ : rx_St} : ∀ o, f_gri_outermost 1 a0 a1 a2 a3 a4 a5 σ = some o → rx_OK 47 [.ref 76, .int a0, .int a1, .int a2, .int a3, .int a4, .int a5] 162 [] [p0, p1, p2, p3, 21] σ (some (.int o.1), rx_D [p0, p1, p2, p3, 21] o.2) := by
  intro o h
  refine rx_OK_of (by decide) (Nat.le_of_ble_eq_true rfl) ?_
  refine rx_walk [7, 19, 84, 98, 102, 108] 2000 (by decide) rx_e47 ?_
  unfold f_gri_outermost at h
  exact rx_sub (f_gri_outermost_7_ok_w1 rx_fu _ _ _ _ _ _ _ _ _ h) [2, 3, 4, 5, 6, 7, 8, 1, 0] rfl
set_option maxRecDepth 100000 in
set_option maxHeartbeats 4000000 in
theorem f_gri_outermost_108_ok_w0 {p0 p1 p2 p3 : Nat} {o : Int32 × rx_St} {k7 : Int32 → Int32 → Int32 → Int32 → Int32 → Int32 → Int32 → Int32 → rx_St → Option (Int32 × rx_St)} (hk7 : ∀ (v1 : Int32) (v2 : Int32) (v3 : Int32) (v4 : Int32) (v5 : Int32) (v6 : Int32) (v7 : Int32) (v8 : Int32) (σ : rx_St), k7 v1 v2 v3 v4 v5 v6 v7 v8 σ = some o → rx_AtP none 47 7 [(0, .ref 76), (1, .int v1), (2, .int v2), (3, .int v3), (4, .int v4), (5, .int v5), (6, .int v6), (7, .int v7), (8, .int v8)] [] (rx_D [p0, p1, p2, p3, 7] σ) (some (.int o.1), rx_D [p0, p1, p2, p3, 7] o.2)) : ∀ (v1 : Int32) (v2 : Int32) (v3 : Int32) (v4 : Int32) (v5 : Int32) (v6 : Int32) (v7 : Int32) (v8 : Int32) (σ : rx_St), f_gri_outermost_108 0 k7 v1 v2 v3 v4 v5 v6 v7 v8 σ = some o → rx_AtP none 47 108 [(0, .ref 76), (1, .int v1), (2, .int v2), (3, .int v3), (4, .int v4), (5, .int v5), (6, .int v6), (7, .int v7), (8, .int v8)] [] (rx_D [p0, p1, p2, p3, 7] σ) (some (.int o.1), rx_D [p0, p1, p2, p3, 7] o.2) := by
  intro v1 v2 v3 v4 v5 v6 v7 v8 σ h
  refine rx_walk [7, 19, 84, 98, 102, 108] 2000 (by decide) rx_e47 ?_
  unfold f_gri_outermost_108 at h
  exact rx_sub (hk7 _ _ _ _ _ _ _ _ _ h) [1, 2, 3, 4, 5, 6, 7, 8, 0] rfl
set_option maxRecDepth 100000 in
set_option maxHeartbeats 4000000 in
theorem f_gri_outermost_102_ok_w0 {p0 p1 p2 p3 : Nat} {o : Int32 × rx_St} {k7 : Int32 → Int32 → Int32 → Int32 → Int32 → Int32 → Int32 → Int32 → rx_St → Option (Int32 × rx_St)} {k19 : Int32 → Int32 → Int32 → Int32 → Int32 → Int32 → Int32 → Int32 → Int32 → rx_St → Option (Int32 × rx_St)} (hk7 : ∀ (v1 : Int32) (v2 : Int32) (v3 : Int32) (v4 : Int32) (v5 : Int32) (v6 : Int32) (v7 : Int32) (v8 : Int32) (σ : rx_St), k7 v1 v2 v3 v4 v5 v6 v7 v8 σ = some o → rx_AtP none 47 7 [(0, .ref 76), (1, .int v1), (2, .int v2), (3, .int v3), (4, .int v4), (5, .int v5), (6, .int v6), (7, .int v7), (8, .int v8)] [] (rx_D [p0, p1, p2, p3, 7] σ) (some (.int o.1), rx_D [p0, p1, p2, p3, 7] o.2)) (hk19 : ∀ (v1 : Int32) (v2 : Int32) (v3 : Int32) (v4 : Int32) (v5 : Int32) (v6 : Int32) (v7 : Int32) (v8 : Int32) (v9 : Int32) (σ : rx_St), k19 v1 v2 v3 v4 v5 v6 v7 v8 v9 σ = some o → rx_AtP none 47 19 [(0, .ref 76), (1, .int v1), (2, .int v2), (3, .int v3), (4, .int v4), (5, .int v5), (6, .int v6), (7, .int v7), (8, .int v8), (9, .int v9)] [] (rx_D [p0, p1, p2, p3, 7] σ) (some (.int o.1), rx_D [p0, p1, p2, p3, 7] o.2)) : ∀ (v1 : Int32) (v2 : Int32) (v3 : Int32) (v4 : Int32) (v5 : Int32) (v6 : Int32) (v7 : Int32) (v8 : Int32) (v9 : Int32) (σ : rx_St), f_gri_outermost_102 0 k7 k19 v1 v2 v3 v4 v5 v6 v7 v8 v9 σ = some o → rx_AtP none 47 102 [(0, .ref 76), (1, .int v1), (2, .int v2), (3, .int v3), (4, .int v4), (5, .int v5), (6, .int v6), (7, .int v7), (8, .int v8), (9, .int v9)] [] (rx_D [p0, p1, p2, p3, 7] σ) (some (.int o.1), rx_D [p0, p1, p2, p3, 7] o.2) := by
  intro v1 v2 v3 v4 v5 v6 v7 v8 v9 σ h
  refine rx_walk [7, 19, 84, 98, 102, 108] 2000 (by decide) rx_e47 ?_
  unfold f_gri_outermost_102 at h
  exact rx_sub (hk19 _ _ _ _ _ _ _ _ _ _ h) [1, 2, 3, 4, 5, 6, 7, 8, 9, 0] rfl
set_option maxRecDepth 100000 in
set_option maxHeartbeats 4000000 in
theorem f_gri_outermost_98_ok_w0 {p0 p1 p2 p3 : Nat} {o : Int32 × rx_St} {k7 : Int32 → Int32 → Int32 → Int32 → Int32 → Int32 → Int32 → Int32 → rx_St → Option (Int32 × rx_St)} {k19 : Int32 → Int32 → Int32 → Int32 → Int32 → Int32 → Int32 → Int32 → Int32 → rx_St → Option (Int32 × rx_St)} (hk7 : ∀ (v1 : Int32) (v2 : Int32) (v3 : Int32) (v4 : Int32) (v5 : Int32) (v6 : Int32) (v7 : Int32) (v8 : Int32) (σ : rx_St), k7 v1 v2 v3 v4 v5 v6 v7 v8 σ = some o → rx_AtP none 47 7 [(0, .ref 76), (1, .int v1), (2, .int v2), (3, .int v3), (4, .int v4), (5, .int v5), (6, .int v6), (7, .int v7), (8, .int v8)] [] (rx_D [p0, p1, p2, p3, 7] σ) (some (.int o.1), rx_D [p0, p1, p2, p3, 7] o.2)) (hk19 : ∀ (v1 : Int32) (v2 : Int32) (v3 : Int32) (v4 : Int32) (v5 : Int32) (v6 : Int32) (v7 : Int32) (v8 : Int32) (v9 : Int32) (σ : rx_St), k19 v1 v2 v3 v4 v5 v6 v7 v8 v9 σ = some o → rx_AtP none 47 19 [(0, .ref 76), (1, .int v1), (2, .int v2), (3, .int v3), (4, .int v4), (5, .int v5), (6, .int v6), (7, .int v7), (8, .int v8), (9, .int v9)] [] (rx_D [p0, p1, p2, p3, 7] σ) (some (.int o.1), rx_D [p0, p1, p2, p3, 7] o.2)) : ∀ (v1 : Int32) (v2 : Int32) (v3 : Int32) (v4 : Int32) (v5 : Int32) (v6 : Int32) (v8 : Int32) (v9 : Int32) (v10 : Int32) (σ : rx_St), f_gri_outermost_98 0 k7 k19 v1 v2 v3 v4 v5 v6 v8 v9 v10 σ = some o → rx_AtP none 47 98 [(0, .ref 76), (1, .int v1), (2, .int v2), (3, .int v3), (4, .int v4), (5, .int v5), (6, .int v6), (8, .int v8), (9, .int v9), (10, .int v10)] [] (rx_D [p0, p1, p2, p3, 7] σ) (some (.int o.1), rx_D [p0, p1, p2, p3, 7] o.2) := by
  intro v1 v2 v3 v4 v5 v6 v8 v9 v10 σ h
  refine rx_walk [7, 19, 84, 98, 102, 108] 2000 (by decide) rx_e47 ?_
  unfold f_gri_outermost_98 at h
  exact rx_sub (f_gri_outermost_102_ok_w0 hk7 hk19 _ _ _ _ _ _ _ _ _ _ h) [1, 2, 3, 4, 5, 6, 7, 0, 8, 9] rfl
set_option maxRecDepth 100000 in
set_option maxHeartbeats 4000000 in
theorem f_gri_outermost_84_ok_w0 {p0 p1 p2 p3 : Nat} {o : Int32 × rx_St} {k7 : Int32 → Int32 → Int32 → Int32 → Int32 → Int32 → Int32 → Int32 → rx_St → Option (Int32 × rx_St)} {k19 : Int32 → Int32 → Int32 → Int32 → Int32 → Int32 → Int32 → Int32 → Int32 → rx_St → Option (Int32 × rx_St)} (hk7 : ∀ (v1 : Int32) (v2 : Int32) (v3 : Int32) (v4 : Int32) (v5 : Int32) (v6 : Int32) (v7 : Int32) (v8 : Int32) (σ : rx_St), k7 v1 v2 v3 v4 v5 v6 v7 v8 σ = some o → rx_AtP none 47 7 [(0, .ref 76), (1, .int v1), (2, .int v2), (3, .int v3), (4, .int v4), (5, .int v5), (6, .int v6), (7, .int v7), (8, .int v8)] [] (rx_D [p0, p1, p2, p3, 7] σ) (some (.int o.1), rx_D [p0, p1, p2, p3, 7] o.2)) (hk19 : ∀ (v1 : Int32) (v2 : Int32) (v3 : Int32) (v4 : Int32) (v5 : Int32) (v6 : Int32) (v7 : Int32) (v8 : Int32) (v9 : Int32) (σ : rx_St), k19 v1 v2 v3 v4 v5 v6 v7 v8 v9 σ = some o → rx_AtP none 47 19 [(0, .ref 76), (1, .int v1), (2, .int v2), (3, .int v3), (4, .int v4), (5, .int v5), (6, .int v6), (7, .int v7), (8, .int v8), (9, .int v9)] [] (rx_D [p0, p1, p2, p3, 7] σ) (some (.int o.1), rx_D [p0, p1, p2, p3, 7] o.2)) : ∀ (v1 : Int32) (v2 : Int32) (v3 : Int32) (v4 : Int32) (v5 : Int32) (v6 : Int32) (v7 : Int32) (v8 : Int32) (v9 : Int32) (v10 : Int32) (s0 : Int32) (σ : rx_St), f_gri_outermost_84 0 k7 k19 v1 v2 v3 v4 v5 v6 v7 v8 v9 v10 s0 σ = some o → rx_AtP none 47 84 [(0, .ref 76), (1, .int v1), (2, .int v2), (3, .int v3), (4, .int v4), (5, .int v5), (6, .int v6), (7, .int v7), (8, .int v8), (9, .int v9), (10, .int v10)] [.int s0] (rx_D [p0, p1, p2, p3, 7] σ) (some (.int o.1), rx_D [p0, p1, p2, p3, 7] o.2) := by
  intro v1 v2 v3 v4 v5 v6 v7 v8 v9 v10 s0 σ h
  refine rx_walk [7, 19, 84, 98, 102, 108] 2000 (by decide) rx_e47 ?_
  unfold f_gri_outermost_84 at h
  refine rr_if h (fun c90 h => ?_) (fun c90 h => ?_)
  · skip
    exact rx_sub (f_gri_outermost_98_ok_w0 hk7 hk19 _ _ _ _ _ _ _ _ _ _ h) [1, 2, 3, 4, 5, 6, 7, 9, 10, 11] rfl
  · skip
    refine rr_if h (fun c95 h => ?_) (fun c95 h => ?_)
    · skip
      exact rx_sub (f_gri_outermost_102_ok_w0 hk7 hk19 _ _ _ _ _ _ _ _ _ _ h) [1, 2, 3, 4, 5, 6, 7, 8, 9, 10] rfl
    · skip
      exact rx_sub (f_gri_outermost_98_ok_w0 hk7 hk19 _ _ _ _ _ _ _ _ _ _ h) [1, 2, 3, 4, 5, 6, 7, 9, 10, 11] rfl
set_option maxRecDepth 100000 in
set_option maxHeartbeats 4000000 in
theorem f_gri_outermost_19_ok_w0 {p0 p1 p2 p3 : Nat} {o : Int32 × rx_St} {k7 : Int32 → Int32 → Int32 → Int32 → Int32 → Int32 → Int32 → Int32 → rx_St → Option (Int32 × rx_St)} (hk7 : ∀ (v1 : Int32) (v2 : Int32) (v3 : Int32) (v4 : Int32) (v5 : Int32) (v6 : Int32) (v7 : Int32) (v8 : Int32) (σ : rx_St), k7 v1 v2 v3 v4 v5 v6 v7 v8 σ = some o → rx_AtP none 47 7 [(0, .ref 76), (1, .int v1), (2, .int v2), (3, .int v3), (4, .int v4), (5, .int v5), (6, .int v6), (7, .int v7), (8, .int v8)] [] (rx_D [p0, p1, p2, p3, 7] σ) (some (.int o.1), rx_D [p0, p1, p2, p3, 7] o.2)) : ∀ (n : Nat) (v1 : Int32) (v2 : Int32) (v3 : Int32) (v4 : Int32) (v5 : Int32) (v6 : Int32) (v7 : Int32) (v8 : Int32) (v9 : Int32) (σ : rx_St), f_gri_outermost_19 0 k7 n v1 v2 v3 v4 v5 v6 v7 v8 v9 σ = some o → rx_AtP none 47 19 [(0, .ref 76), (1, .int v1), (2, .int v2), (3, .int v3), (4, .int v4), (5, .int v5), (6, .int v6), (7, .int v7), (8, .int v8), (9, .int v9)] [] (rx_D [p0, p1, p2, p3, 7] σ) (some (.int o.1), rx_D [p0, p1, p2, p3, 7] o.2) := by
  intro n
  induction n with
  | zero => intro _ _ _ _ _ _ _ _ _ _ h; cases h
  | succ n ih =>
  intro v1 v2 v3 v4 v5 v6 v7 v8 v9 σ h
  refine rx_walk [7, 19, 84, 98, 102, 108] 2000 (by decide) rx_e47 ?_
  rw [f_gri_outermost_19] at h
  refine rr_if h (fun c22 h => ?_) (fun c22 h => ?_)
  · skip
    exact rx_sub (f_gri_outermost_108_ok_w0 hk7 _ _ _ _ _ _ _ _ _ h) [0, 1, 2, 3, 4, 5, 6, 7, 8] rfl
  · skip
    refine rr_g h (fun c31 h => ?_)
    refine rr_if h (fun c33 h => ?_) (fun c33 h => ?_)
    · skip
      exact rx_sub (f_gri_outermost_108_ok_w0 hk7 _ _ _ _ _ _ _ _ _ h) [0, 1, 2, 3, 4, 5, 6, 7, 8] rfl
    · skip
      refine rr_callS h (fun y hy => f_gri_figureAt_ok_w0 _ hy) (fun y1 hy1 h => ?_)
      refine rr_if h (fun c54 h => ?_) (fun c54 h => ?_)
      · skip
        refine rr_if h (fun c76 h => ?_) (fun c76 h => ?_)
        · skip
          exact rx_sub (f_gri_outermost_84_ok_w0 hk7 ih _ _ _ _ _ _ _ _ _ _ _ _ h) [1, 2, 3, 4, 5, 6, 7, 8, 9, 10, 0] rfl
        · skip
          exact rx_sub (f_gri_outermost_84_ok_w0 hk7 ih _ _ _ _ _ _ _ _ _ _ _ _ h) [1, 2, 3, 4, 5, 6, 7, 8, 9, 10, 0] rfl
      · skip
        refine rr_if h (fun c61 h => ?_) (fun c61 h => ?_)
        · skip
          exact rx_sub (f_gri_outermost_84_ok_w0 hk7 ih _ _ _ _ _ _ _ _ _ _ _ _ h) [1, 2, 3, 4, 5, 6, 7, 8, 9, 10, 0] rfl
        · skip
          exact rx_sub (f_gri_outermost_84_ok_w0 hk7 ih _ _ _ _ _ _ _ _ _ _ _ _ h) [1, 2, 3, 4, 5, 6, 7, 8, 9, 10, 0] rfl
set_option maxRecDepth 100000 in
set_option maxHeartbeats 4000000 in
theorem f_gri_outermost_7_ok_w0 {p0 p1 p2 p3 : Nat} {o : Int32 × rx_St} : ∀ (n : Nat) (v1 : Int32) (v2 : Int32) (v3 : Int32) (v4 : Int32) (v5 : Int32) (v6 : Int32) (v7 : Int32) (v8 : Int32) (σ : rx_St), f_gri_outermost_7 0 n v1 v2 v3 v4 v5 v6 v7 v8 σ = some o → rx_AtP none 47 7 [(0, .ref 76), (1, .int v1), (2, .int v2), (3, .int v3), (4, .int v4), (5, .int v5), (6, .int v6), (7, .int v7), (8, .int v8)] [] (rx_D [p0, p1, p2, p3, 7] σ) (some (.int o.1), rx_D [p0, p1, p2, p3, 7] o.2) := by
  intro n
  induction n with
  | zero => intro _ _ _ _ _ _ _ _ _ h; cases h
  | succ n ih =>
  intro v1 v2 v3 v4 v5 v6 v7 v8 σ h
  refine rx_walk [7, 19, 84, 98, 102, 108] 2000 (by decide) rx_e47 ?_
  rw [f_gri_outermost_7] at h
  refine rr_if h (fun c13 h => ?_) (fun c13 h => ?_)
  · skip
    cases h
    exact And.intro (trivial) rfl
  · skip
    exact rx_sub (f_gri_outermost_19_ok_w0 ih rx_fu _ _ _ _ _ _ _ _ _ _ h) [1, 2, 3, 4, 5, 6, 7, 8, 9, 0] rfl
set_option maxRecDepth 100000 in
set_option maxHeartbeats 4000000 in
theorem f_gri_outermost_ok_w0 {p0 p1 p2 p3 : Nat} {a0 : Int32} {a1 : Int32} {a2 : Int32} {a3 : Int32} {a4 : Int32} {a5 : Int32} {σ : rx_St} : ∀ o, f_gri_outermost 0 a0 a1 a2 a3 a4 a5 σ = some o → rx_OK 47 [.ref 76, .int a0, .int a1, .int a2, .int a3, .int a4, .int a5] 162 [] [p0, p1, p2, p3, 7] σ (some (.int o.1), rx_D [p0, p1, p2, p3, 7] o.2) := by
  intro o h
  refine rx_OK_of (by decide) (Nat.le_of_ble_eq_true rfl) ?_
  refine rx_walk [7, 19, 84, 98, 102, 108] 2000 (by decide) rx_e47 ?_
  unfold f_gri_outermost at h
  exact rx_sub (f_gri_outermost_7_ok_w0 rx_fu _ _ _ _ _ _ _ _ _ h) [2, 3, 4, 5, 6, 7, 8, 1, 0] rfl
