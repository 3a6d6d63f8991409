set_option maxRecDepth 100000 in
theorem rx_e114 : rx_Ext none 114 := rx_Ext_plain (by decide +kernel)
set_option maxRecDepth 100000 in
set_option maxHeartbeats 4000000 in
theorem f_wor_hasSetting_ok_w1 {P : List Nat} {a0 : Int32} {σ : rx_St} : ∀ o, f_wor_hasSetting 1 a0 σ = o → rx_OK 114 [.ref 21, .int a0] 162 [] P σ (some (.int o), rx_D P σ) := by
  intro o h
  refine rx_OK_of (by decide) (Nat.le_of_ble_eq_true rfl) ?_
  refine rx_walk [] 2000 (by decide) rx_e114 ?_
  unfold f_wor_hasSetting at h
  refine rr_if h (fun c1 h => ?_) (fun c1 h => ?_)
  · skip
    cases h
    exact And.intro (Or.inl rfl) rfl
  · skip
    refine rr_if h (fun c9 h => ?_) (fun c9 h => ?_)
    · skip
      cases h
      exact And.intro (Or.inl rfl) rfl
    · skip
      cases h
      exact And.intro (Or.inr rfl) rfl
set_option maxRecDepth 100000 in
set_option maxHeartbeats 4000000 in
theorem f_wor_hasSetting_ok_w0 {P : List Nat} {a0 : Int32} {σ : rx_St} : ∀ o, f_wor_hasSetting 0 a0 σ = o → rx_OK 114 [.ref 7, .int a0] 162 [] P σ (some (.int o), rx_D P σ) := by
  intro o h
  refine rx_OK_of (by decide) (Nat.le_of_ble_eq_true rfl) ?_
  refine rx_walk [] 2000 (by decide) rx_e114 ?_
  unfold f_wor_hasSetting at h
  refine rr_if h (fun c1 h => ?_) (fun c1 h => ?_)
  · skip
    cases h
    exact And.intro (Or.inl rfl) rfl
  · skip
    refine rr_if h (fun c9 h => ?_) (fun c9 h => ?_)
    · skip
      cases h
      exact And.intro (Or.inl rfl) rfl
    · skip
      cases h
      exact And.intro (Or.inr rfl) rfl
set_option maxRecDepth 100000 in
theorem rx_e156 : rx_Ext none 156 := rx_Ext_plain (by decide +kernel)
set_option maxRecDepth 100000 in
set_option maxHeartbeats 4000000 in
theorem f_c_isNumber_ok {P : List Nat} {σ : rx_St} {a0 : Int32} : ∀ o, f_c_isNumber a0 = o → rx_OK 156 [.int a0] 162 [] P σ (some (.int o), rx_D P σ) := by
  intro o h
  refine rx_OK_of (by decide) (Nat.le_of_ble_eq_true rfl) ?_
  refine rx_walk [] 2000 (by decide) rx_e156 ?_
  unfold f_c_isNumber at h
  refine rr_if h (fun c4 h => ?_) (fun c4 h => ?_)
  · skip
    cases h
    exact And.intro (Or.inl rfl) rfl
  · skip
    refine rr_if h (fun c11 h => ?_) (fun c11 h => ?_)
    · skip
      cases h
      exact And.intro (Or.inl rfl) rfl
    · skip
      cases h
      exact And.intro (Or.inr rfl) rfl
set_option maxRecDepth 100000 in
theorem rx_e1 : rx_Ext none 1 := rx_Ext_plain (by decide +kernel)
set_option maxRecDepth 100000 in
set_option maxHeartbeats 4000000 in
theorem f_cau_tell_ok_w1 {p0 p1 p2 p3 : Nat} {a0 : Int32} {a1 : Int32} {σ : rx_St} : ∀ o, f_cau_tell 1 a0 a1 σ = some o → rx_OK 1 [.ref 72, .int a0, .int a1] 162 [] [p0, p1, p2, p3, 21] σ (some (.int o.1), rx_D [p0, p1, p2, p3, 21] o.2) := by
  intro o h
  refine rx_OK_of (by decide) (Nat.le_of_ble_eq_true rfl) ?_
  refine rx_walk [] 2000 (by decide) rx_e1 ?_
  unfold f_cau_tell at h
  refine rr_if h (fun c5 h => ?_) (fun c5 h => ?_)
  · skip
    cases h
    exact And.intro (trivial) rfl
  · skip
    refine rr_callT (f_wor_hasSetting_ok_w1 _ rfl) ?_
    refine rr_if h (fun c19 h => ?_) (fun c19 h => ?_)
    · skip
      cases h
      exact And.intro (trivial) rfl
    · skip
      refine rr_callT (f_c_isNumber_ok _ rfl) ?_
      refine rr_if h (fun c26 h => ?_) (fun c26 h => ?_)
      · skip
        cases h
        exact And.intro (trivial) rfl
      · skip
        refine rr_g h (fun c40 h => ?_)
        refine rr_g h (fun c50 h => ?_)
        cases h
        exact And.intro (trivial) rfl
set_option maxRecDepth 100000 in
set_option maxHeartbeats 4000000 in
theorem f_cau_tell_ok_w0 {p0 p1 p2 p3 : Nat} {a0 : Int32} {a1 : Int32} {σ : rx_St} : ∀ o, f_cau_tell 0 a0 a1 σ = some o → rx_OK 1 [.ref 72, .int a0, .int a1] 162 [] [p0, p1, p2, p3, 7] σ (some (.int o.1), rx_D [p0, p1, p2, p3, 7] o.2) := by
  intro o h
  refine rx_OK_of (by decide) (Nat.le_of_ble_eq_true rfl) ?_
  refine rx_walk [] 2000 (by decide) rx_e1 ?_
  unfold f_cau_tell at h
  refine rr_if h (fun c5 h => ?_) (fun c5 h => ?_)
  · skip
    cases h
    exact And.intro (trivial) rfl
  · skip
    refine rr_callT (f_wor_hasSetting_ok_w0 _ rfl) ?_
    refine rr_if h (fun c19 h => ?_) (fun c19 h => ?_)
    · skip
      cases h
      exact And.intro (trivial) rfl
    · skip
      refine rr_callT (f_c_isNumber_ok _ rfl) ?_
      refine rr_if h (fun c26 h => ?_) (fun c26 h => ?_)
      · skip
        cases h
        exact And.intro (trivial) rfl
      · skip
        refine rr_g h (fun c40 h => ?_)
        refine rr_g h (fun c50 h => ?_)
        cases h
        exact And.intro (trivial) rfl
set_option maxRecDepth 100000 in
theorem rx_e74 : rx_Ext none 74 := rx_Ext_plain (by decide +kernel)
set_option maxRecDepth 100000 in
set_option maxHeartbeats 4000000 in
theorem f_run_restart_90_ok_r0w1 {p0 p1 p2 p3 : Nat} {o : rx_St} : ∀ (n : Nat) (v2 : Int32) (σ : rx_St), f_run_restart_90 0 1 n v2 σ = some o → rx_AtP none 74 90 [(0, .ref 57), (2, .int v2)] [] (rx_D [p0, p1, p2, p3, 21] σ) (none, rx_D [p0, p1, p2, p3, 21] o) := by
  intro n
  induction n with
  | zero => intro _ _ h; cases h
  | succ n ih =>
  intro v2 σ h
  refine rx_walk [12, 49, 90] 2000 (by decide) rx_e74 ?_
  rw [f_run_restart_90] at h
  refine rr_if h (fun c101 h => ?_) (fun c101 h => ?_)
  · skip
    cases h
    exact And.intro (rfl) rfl
  · skip
    refine rr_g h (fun c117 h => ?_)
    refine rr_g h (fun c118 h => ?_)
    exact rx_sub (ih _ _ h) [1, 0] rfl
set_option maxRecDepth 100000 in
set_option maxHeartbeats 4000000 in
theorem f_run_restart_49_ok_r0w1 {p0 p1 p2 p3 : Nat} {o : rx_St} : ∀ (n : Nat) (v2 : Int32) (σ : rx_St), f_run_restart_49 0 1 n v2 σ = some o → rx_AtP none 74 49 [(0, .ref 57), (2, .int v2)] [] (rx_D [p0, p1, p2, p3, 21] σ) (none, rx_D [p0, p1, p2, p3, 21] o) := by
  intro n
  induction n with
  | zero => intro _ _ h; cases h
  | succ n ih =>
  intro v2 σ h
  refine rx_walk [12, 49, 90] 2000 (by decide) rx_e74 ?_
  rw [f_run_restart_49] at h
  refine rr_if h (fun c57 h => ?_) (fun c57 h => ?_)
  · skip
    exact rx_sub (f_run_restart_90_ok_r0w1 rx_fu _ _ h) [1, 0] rfl
  · skip
    refine rr_g h (fun c73 h => ?_)
    refine rr_g h (fun c74 h => ?_)
    refine rr_g h (fun c81 h => ?_)
    exact rx_sub (ih _ _ h) [1, 0] rfl
set_option maxRecDepth 100000 in
set_option maxHeartbeats 4000000 in
theorem f_run_restart_12_ok_r0w1 {p0 p1 p2 p3 : Nat} {o : rx_St} : ∀ (n : Nat) (v2 : Int32) (σ : rx_St), f_run_restart_12 0 1 n v2 σ = some o → rx_AtP none 74 12 [(0, .ref 57), (2, .int v2)] [] (rx_D [p0, p1, p2, p3, 21] σ) (none, rx_D [p0, p1, p2, p3, 21] o) := by
  intro n
  induction n with
  | zero => intro _ _ h; cases h
  | succ n ih =>
  intro v2 σ h
  refine rx_walk [12, 49, 90] 2000 (by decide) rx_e74 ?_
  rw [f_run_restart_12] at h
  refine rr_if h (fun c23 h => ?_) (fun c23 h => ?_)
  · skip
    exact rx_sub (f_run_restart_49_ok_r0w1 rx_fu _ _ h) [1, 0] rfl
  · skip
    refine rr_g h (fun c39 h => ?_)
    refine rr_g h (fun c40 h => ?_)
    exact rx_sub (ih _ _ h) [1, 0] rfl
set_option maxRecDepth 100000 in
set_option maxHeartbeats 4000000 in
theorem f_run_restart_ok_r0w1 {p0 p1 p2 p3 : Nat} {a0 : Int32} {σ : rx_St} : ∀ o, f_run_restart 0 1 a0 σ = some o → rx_OK 74 [.ref 57, .int a0] 162 [] [p0, p1, p2, p3, 21] σ (none, rx_D [p0, p1, p2, p3, 21] o) := by
  intro o h
  refine rx_OK_of (by decide) (Nat.le_of_ble_eq_true rfl) ?_
  refine rx_walk [12, 49, 90] 2000 (by decide) rx_e74 ?_
  unfold f_run_restart at h
  exact rx_sub (f_run_restart_12_ok_r0w1 rx_fu _ _ h) [1, 0] rfl
set_option maxRecDepth 100000 in
set_option maxHeartbeats 4000000 in
theorem f_run_restart_90_ok_r0w0 {p0 p1 p2 p3 : Nat} {o : rx_St} : ∀ (n : Nat) (v2 : Int32) (σ : rx_St), f_run_restart_90 0 0 n v2 σ = some o → rx_AtP none 74 90 [(0, .ref 57), (2, .int v2)] [] (rx_D [p0, p1, p2, p3, 7] σ) (none, rx_D [p0, p1, p2, p3, 7] o) := by
  intro n
  induction n with
  | zero => intro _ _ h; cases h
  | succ n ih =>
  intro v2 σ h
  refine rx_walk [12, 49, 90] 2000 (by decide) rx_e74 ?_
  rw [f_run_restart_90] at h
  refine rr_if h (fun c101 h => ?_) (fun c101 h => ?_)
  · skip
    cases h
    exact And.intro (rfl) rfl
  · skip
    refine rr_g h (fun c117 h => ?_)
    refine rr_g h (fun c118 h => ?_)
    exact rx_sub (ih _ _ h) [1, 0] rfl
set_option maxRecDepth 100000 in
set_option maxHeartbeats 4000000 in
theorem f_run_restart_49_ok_r0w0 {p0 p1 p2 p3 : Nat} {o : rx_St} : ∀ (n : Nat) (v2 : Int32) (σ : rx_St), f_run_restart_49 0 0 n v2 σ = some o → rx_AtP none 74 49 [(0, .ref 57), (2, .int v2)] [] (rx_D [p0, p1, p2, p3, 7] σ) (none, rx_D [p0, p1, p2, p3, 7] o) := by
  intro n
  induction n with
  | zero => intro _ _ h; cases h
  | succ n ih =>
  intro v2 σ h
  refine rx_walk [12, 49, 90] 2000 (by decide) rx_e74 ?_
  rw [f_run_restart_49] at h
  refine rr_if h (fun c57 h => ?_) (fun c57 h => ?_)
  · skip
    exact rx_sub (f_run_restart_90_ok_r0w0 rx_fu _ _ h) [1, 0] rfl
  · skip
    refine rr_g h (fun c73 h => ?_)
    refine rr_g h (fun c74 h => ?_)
    refine rr_g h (fun c81 h => ?_)
    exact rx_sub (ih _ _ h) [1, 0] rfl
set_option maxRecDepth 100000 in
set_option maxHeartbeats 4000000 in
theorem f_run_restart_12_ok_r0w0 {p0 p1 p2 p3 : Nat} {o : rx_St} : ∀ (n : Nat) (v2 : Int32) (σ : rx_St), f_run_restart_12 0 0 n v2 σ = some o → rx_AtP none 74 12 [(0, .ref 57), (2, .int v2)] [] (rx_D [p0, p1, p2, p3, 7] σ) (none, rx_D [p0, p1, p2, p3, 7] o) := by
  intro n
  induction n with
  | zero => intro _ _ h; cases h
  | succ n ih =>
  intro v2 σ h
  refine rx_walk [12, 49, 90] 2000 (by decide) rx_e74 ?_
  rw [f_run_restart_12] at h
  refine rr_if h (fun c23 h => ?_) (fun c23 h => ?_)
  · skip
    exact rx_sub (f_run_restart_49_ok_r0w0 rx_fu _ _ h) [1, 0] rfl
  · skip
    refine rr_g h (fun c39 h => ?_)
    refine rr_g h (fun c40 h => ?_)
    exact rx_sub (ih _ _ h) [1, 0] rfl
set_option maxRecDepth 100000 in
set_option maxHeartbeats 4000000 in
theorem f_run_restart_ok_r0w0 {p0 p1 p2 p3 : Nat} {a0 : Int32} {σ : rx_St} : ∀ o, f_run_restart 0 0 a0 σ = some o → rx_OK 74 [.ref 57, .int a0] 162 [] [p0, p1, p2, p3, 7] σ (none, rx_D [p0, p1, p2, p3, 7] o) := by
  intro o h
  refine rx_OK_of (by decide) (Nat.le_of_ble_eq_true rfl) ?_
  refine rx_walk [12, 49, 90] 2000 (by decide) rx_e74 ?_
  unfold f_run_restart at h
  exact rx_sub (f_run_restart_12_ok_r0w0 rx_fu _ _ h) [1, 0] rfl
set_option maxRecDepth 100000 in
set_option maxHeartbeats 4000000 in
theorem f_run_restart_90_ok_r1w1 {p0 p1 p2 p3 : Nat} {o : rx_St} : ∀ (n : Nat) (v2 : Int32) (σ : rx_St), f_run_restart_90 1 1 n v2 σ = some o → rx_AtP none 74 90 [(0, .ref 64), (2, .int v2)] [] (rx_D [p0, p1, p2, p3, 21] σ) (none, rx_D [p0, p1, p2, p3, 21] o) := by
  intro n
  induction n with
  | zero => intro _ _ h; cases h
  | succ n ih =>
  intro v2 σ h
  refine rx_walk [12, 49, 90] 2000 (by decide) rx_e74 ?_
  rw [f_run_restart_90] at h
  refine rr_if h (fun c101 h => ?_) (fun c101 h => ?_)
  · skip
    cases h
    exact And.intro (rfl) rfl
  · skip
    refine rr_g h (fun c117 h => ?_)
    refine rr_g h (fun c118 h => ?_)
    exact rx_sub (ih _ _ h) [1, 0] rfl
set_option maxRecDepth 100000 in
set_option maxHeartbeats 4000000 in
theorem f_run_restart_49_ok_r1w1 {p0 p1 p2 p3 : Nat} {o : rx_St} : ∀ (n : Nat) (v2 : Int32) (σ : rx_St), f_run_restart_49 1 1 n v2 σ = some o → rx_AtP none 74 49 [(0, .ref 64), (2, .int v2)] [] (rx_D [p0, p1, p2, p3, 21] σ) (none, rx_D [p0, p1, p2, p3, 21] o) := by
  intro n
  induction n with
  | zero => intro _ _ h; cases h
  | succ n ih =>
  intro v2 σ h
  refine rx_walk [12, 49, 90] 2000 (by decide) rx_e74 ?_
  rw [f_run_restart_49] at h
  refine rr_if h (fun c57 h => ?_) (fun c57 h => ?_)
  · skip
    exact rx_sub (f_run_restart_90_ok_r1w1 rx_fu _ _ h) [1, 0] rfl
  · skip
    refine rr_g h (fun c73 h => ?_)
    refine rr_g h (fun c74 h => ?_)
    refine rr_g h (fun c81 h => ?_)
    exact rx_sub (ih _ _ h) [1, 0] rfl
set_option maxRecDepth 100000 in
set_option maxHeartbeats 4000000 in
theorem f_run_restart_12_ok_r1w1 {p0 p1 p2 p3 : Nat} {o : rx_St} : ∀ (n : Nat) (v2 : Int32) (σ : rx_St), f_run_restart_12 1 1 n v2 σ = some o → rx_AtP none 74 12 [(0, .ref 64), (2, .int v2)] [] (rx_D [p0, p1, p2, p3, 21] σ) (none, rx_D [p0, p1, p2, p3, 21] o) := by
  intro n
  induction n with
  | zero => intro _ _ h; cases h
  | succ n ih =>
  intro v2 σ h
  refine rx_walk [12, 49, 90] 2000 (by decide) rx_e74 ?_
  rw [f_run_restart_12] at h
  refine rr_if h (fun c23 h => ?_) (fun c23 h => ?_)
  · skip
    exact rx_sub (f_run_restart_49_ok_r1w1 rx_fu _ _ h) [1, 0] rfl
  · skip
    refine rr_g h (fun c39 h => ?_)
    refine rr_g h (fun c40 h => ?_)
    exact rx_sub (ih _ _ h) [1, 0] rfl
set_option maxRecDepth 100000 in
set_option maxHeartbeats 4000000 in
theorem f_run_restart_ok_r1w1 {p0 p1 p2 p3 : Nat} {a0 : Int32} {σ : rx_St} : ∀ o, f_run_restart 1 1 a0 σ = some o → rx_OK 74 [.ref 64, .int a0] 162 [] [p0, p1, p2, p3, 21] σ (none, rx_D [p0, p1, p2, p3, 21] o) := by
  intro o h
  refine rx_OK_of (by decide) (Nat.le_of_ble_eq_true rfl) ?_
  refine rx_walk [12, 49, 90] 2000 (by decide) rx_e74 ?_
  unfold f_run_restart at h
  exact rx_sub (f_run_restart_12_ok_r1w1 rx_fu _ _ h) [1, 0] rfl
set_option maxRecDepth 100000 in
set_option maxHeartbeats 4000000 in
theorem f_run_restart_90_ok_r1w0 {p0 p1 p2 p3 : Nat} {o : rx_St} : ∀ (n : Nat) (v2 : Int32) (σ : rx_St), f_run_restart_90 1 0 n v2 σ = some o → rx_AtP none 74 90 [(0, .ref 64), (2, .int v2)] [] (rx_D [p0, p1, p2, p3, 7] σ) (none, rx_D [p0, p1, p2, p3, 7] o) := by
  intro n
  induction n with
  | zero => intro _ _ h; cases h
  | succ n ih =>
  intro v2 σ h
  refine rx_walk [12, 49, 90] 2000 (by decide) rx_e74 ?_
  rw [f_run_restart_90] at h
  refine rr_if h (fun c101 h => ?_) (fun c101 h => ?_)
  · skip
    cases h
    exact And.intro (rfl) rfl
  · skip
    refine rr_g h (fun c117 h => ?_)
    refine rr_g h (fun c118 h => ?_)
    exact rx_sub (ih _ _ h) [1, 0] rfl
set_option maxRecDepth 100000 in
set_option maxHeartbeats 4000000 in
theorem f_run_restart_49_ok_r1w0 {p0 p1 p2 p3 : Nat} {o : rx_St} : ∀ (n : Nat) (v2 : Int32) (σ : rx_St), f_run_restart_49 1 0 n v2 σ = some o → rx_AtP none 74 49 [(0, .ref 64), (2, .int v2)] [] (rx_D [p0, p1, p2, p3, 7] σ) (none, rx_D [p0, p1, p2, p3, 7] o) := by
  intro n
  induction n with
  | zero => intro _ _ h; cases h
  | succ n ih =>
  intro v2 σ h
  refine rx_walk [12, 49, 90] 2000 (by decide) rx_e74 ?_
  rw [f_run_restart_49] at h
  refine rr_if h (fun c57 h => ?_) (fun c57 h => ?_)
  · skip
    exact rx_sub (f_run_restart_90_ok_r1w0 rx_fu _ _ h) [1, 0] rfl
  · skip
    refine rr_g h (fun c73 h => ?_)
    refine rr_g h (fun c74 h => ?_)
    refine rr_g h (fun c81 h => ?_)
    exact rx_sub (ih _ _ h) [1, 0] rfl
set_option maxRecDepth 100000 in
set_option maxHeartbeats 4000000 in
theorem f_run_restart_12_ok_r1w0 {p0 p1 p2 p3 : Nat} {o : rx_St} : ∀ (n : Nat) (v2 : Int32) (σ : rx_St), f_run_restart_12 1 0 n v2 σ = some o → rx_AtP none 74 12 [(0, .ref 64), (2, .int v2)] [] (rx_D [p0, p1, p2, p3, 7] σ) (none, rx_D [p0, p1, p2, p3, 7] o) := by
  intro n
  induction n with
  | zero => intro _ _ h; cases h
  | succ n ih =>
  intro v2 σ h
  refine rx_walk [12, 49, 90] 2000 (by decide) rx_e74 ?_
  rw [f_run_restart_12] at h
  refine rr_if h (fun c23 h => ?_) (fun c23 h => ?_)
  · skip
    exact rx_sub (f_run_restart_49_ok_r1w0 rx_fu _ _ h) [1, 0] rfl
  · skip
    refine rr_g h (fun c39 h => ?_)
    refine rr_g h (fun c40 h => ?_)
    exact rx_sub (ih _ _ h) [1, 0] rfl
set_option maxRecDepth 100000 in
set_option maxHeartbeats 4000000 in
theorem f_run_restart_ok_r1w0 {p0 p1 p2 p3 : Nat} {a0 : Int32} {σ : rx_St} : ∀ o, f_run_restart 1 0 a0 σ = some o → rx_OK 74 [.ref 64, .int a0] 162 [] [p0, p1, p2, p3, 7] σ (none, rx_D [p0, p1, p2, p3, 7] o) := by
  intro o h
  refine rx_OK_of (by decide) (Nat.le_of_ble_eq_true rfl) ?_
  refine rx_walk [12, 49, 90] 2000 (by decide) rx_e74 ?_
  unfold f_run_restart at h
  exact rx_sub (f_run_restart_12_ok_r1w0 rx_fu _ _ h) [1, 0] rfl
set_option maxRecDepth 100000 in
theorem rx_e262 : rx_Ext none 262 := rx_Ext_plain (by decide +kernel)
set_option maxRecDepth 100000 in
set_option maxHeartbeats 4000000 in
theorem f_j_min_ok {P : List Nat} {σ : rx_St} {a0 : Int32} {a1 : Int32} : ∀ o, f_j_min a0 a1 = o → rx_OK 262 [.int a0, .int a1] 162 [] P σ (some (.int o), rx_D P σ) := by
  intro o h
  refine rx_OK_of (by decide) (Nat.le_of_ble_eq_true rfl) ?_
  refine rx_walk [] 2000 (by decide) rx_e262 ?_
  unfold f_j_min at h
  refine rr_if h (fun c2 h => ?_) (fun c2 h => ?_)
  · skip
    cases h
    exact And.intro (trivial) rfl
  · skip
    cases h
    exact And.intro (trivial) rfl
set_option maxRecDepth 100000 in
theorem rx_e22 : rx_Ext none 22 := rx_Ext_plain (by decide +kernel)
set_option maxRecDepth 100000 in
set_option maxHeartbeats 4000000 in
theorem f_cho_lookAt_55_ok_r0w1 {p0 p1 p2 p3 : Nat} {o : rx_St} : ∀ (n : Nat) (v2 : Int32) (v3 : Int32) (v4 : Int32) (v5 : Int32) (v6 : Int32) (σ : rx_St), f_cho_lookAt_55 0 1 n v2 v3 v4 v5 v6 σ = some o → rx_AtP none 22 55 [(0, .ref 51), (1, .ref 57), (2, .int v2), (3, .int v3), (4, .int v4), (5, .int v5), (6, .int v6)] [] (rx_D [p0, p1, p2, p3, 21] σ) (none, rx_D [p0, p1, p2, p3, 21] o) := by
  intro n
  induction n with
  | zero => intro _ _ _ _ _ _ h; cases h
  | succ n ih =>
  intro v2 v3 v4 v5 v6 σ h
  refine rx_walk [55] 2000 (by decide) rx_e22 ?_
  rw [f_cho_lookAt_55] at h
  refine rr_g h (fun c68 h => ?_)
  refine rr_if h (fun c69 h => ?_) (fun c69 h => ?_)
  · skip
    cases h
    exact And.intro (rfl) rfl
  · skip
    refine rr_g h (fun c90 h => ?_)
    refine rr_g h (fun c102 h => ?_)
    refine rr_g h (fun c107 h => ?_)
    exact rx_sub (ih _ _ _ _ _ _ h) [1, 2, 3, 4, 5, 6, 0] rfl
set_option maxRecDepth 100000 in
set_option maxHeartbeats 4000000 in
theorem f_cho_lookAt_ok_r0w1 {p0 p1 p2 p3 : Nat} {a1 : Int32} {σ : rx_St} : ∀ o, f_cho_lookAt 0 1 a1 σ = some o → rx_OK 22 [.ref 51, .ref 57, .int a1] 162 [] [p0, p1, p2, p3, 21] σ (none, rx_D [p0, p1, p2, p3, 21] o) := by
  intro o h
  refine rx_OK_of (by decide) (Nat.le_of_ble_eq_true rfl) ?_
  refine rx_walk [55] 2000 (by decide) rx_e22 ?_
  unfold f_cho_lookAt at h
  refine rr_g h (fun c8 h => ?_)
  refine rr_g h (fun c18 h => ?_)
  refine rr_g h (fun c26 h => ?_)
  refine rr_g h (fun c36 h => ?_)
  refine rr_g h (fun c40 h => ?_)
  refine rr_g h (fun c47 h => ?_)
  refine rr_g h (fun c51 h => ?_)
  exact rx_sub (f_cho_lookAt_55_ok_r0w1 rx_fu _ _ _ _ _ _ h) [4, 5, 6, 3, 2, 1, 0] rfl
set_option maxRecDepth 100000 in
set_option maxHeartbeats 4000000 in
theorem f_cho_lookAt_55_ok_r0w0 {p0 p1 p2 p3 : Nat} {o : rx_St} : ∀ (n : Nat) (v2 : Int32) (v3 : Int32) (v4 : Int32) (v5 : Int32) (v6 : Int32) (σ : rx_St), f_cho_lookAt_55 0 0 n v2 v3 v4 v5 v6 σ = some o → rx_AtP none 22 55 [(0, .ref 51), (1, .ref 57), (2, .int v2), (3, .int v3), (4, .int v4), (5, .int v5), (6, .int v6)] [] (rx_D [p0, p1, p2, p3, 7] σ) (none, rx_D [p0, p1, p2, p3, 7] o) := by
  intro n
  induction n with
  | zero => intro _ _ _ _ _ _ h; cases h
  | succ n ih =>
  intro v2 v3 v4 v5 v6 σ h
  refine rx_walk [55] 2000 (by decide) rx_e22 ?_
  rw [f_cho_lookAt_55] at h
  refine rr_g h (fun c68 h => ?_)
  refine rr_if h (fun c69 h => ?_) (fun c69 h => ?_)
  · skip
    cases h
    exact And.intro (rfl) rfl
  · skip
    refine rr_g h (fun c90 h => ?_)
    refine rr_g h (fun c102 h => ?_)
    refine rr_g h (fun c107 h => ?_)
    exact rx_sub (ih _ _ _ _ _ _ h) [1, 2, 3, 4, 5, 6, 0] rfl
set_option maxRecDepth 100000 in
set_option maxHeartbeats 4000000 in
theorem f_cho_lookAt_ok_r0w0 {p0 p1 p2 p3 : Nat} {a1 : Int32} {σ : rx_St} : ∀ o, f_cho_lookAt 0 0 a1 σ = some o → rx_OK 22 [.ref 51, .ref 57, .int a1] 162 [] [p0, p1, p2, p3, 7] σ (none, rx_D [p0, p1, p2, p3, 7] o) := by
  intro o h
  refine rx_OK_of (by decide) (Nat.le_of_ble_eq_true rfl) ?_
  refine rx_walk [55] 2000 (by decide) rx_e22 ?_
  unfold f_cho_lookAt at h
  refine rr_g h (fun c8 h => ?_)
  refine rr_g h (fun c18 h => ?_)
  refine rr_g h (fun c26 h => ?_)
  refine rr_g h (fun c36 h => ?_)
  refine rr_g h (fun c40 h => ?_)
  refine rr_g h (fun c47 h => ?_)
  refine rr_g h (fun c51 h => ?_)
  exact rx_sub (f_cho_lookAt_55_ok_r0w0 rx_fu _ _ _ _ _ _ h) [4, 5, 6, 3, 2, 1, 0] rfl
set_option maxRecDepth 100000 in
set_option maxHeartbeats 4000000 in
theorem f_cho_lookAt_55_ok_r1w1 {p0 p1 p2 p3 : Nat} {o : rx_St} : ∀ (n : Nat) (v2 : Int32) (v3 : Int32) (v4 : Int32) (v5 : Int32) (v6 : Int32) (σ : rx_St), f_cho_lookAt_55 1 1 n v2 v3 v4 v5 v6 σ = some o → rx_AtP none 22 55 [(0, .ref 51), (1, .ref 64), (2, .int v2), (3, .int v3), (4, .int v4), (5, .int v5), (6, .int v6)] [] (rx_D [p0, p1, p2, p3, 21] σ) (none, rx_D [p0, p1, p2, p3, 21] o) := by
  intro n
  induction n with
  | zero => intro _ _ _ _ _ _ h; cases h
  | succ n ih =>
  intro v2 v3 v4 v5 v6 σ h
  refine rx_walk [55] 2000 (by decide) rx_e22 ?_
  rw [f_cho_lookAt_55] at h
  refine rr_g h (fun c68 h => ?_)
  refine rr_if h (fun c69 h => ?_) (fun c69 h => ?_)
  · skip
    cases h
    exact And.intro (rfl) rfl
  · skip
    refine rr_g h (fun c90 h => ?_)
    refine rr_g h (fun c102 h => ?_)
    refine rr_g h (fun c107 h => ?_)
    exact rx_sub (ih _ _ _ _ _ _ h) [1, 2, 3, 4, 5, 6, 0] rfl
set_option maxRecDepth 100000 in
set_option maxHeartbeats 4000000 in
theorem f_cho_lookAt_ok_r1w1 {p0 p1 p2 p3 : Nat} {a1 : Int32} {σ : rx_St} : ∀ o, f_cho_lookAt 1 1 a1 σ = some o → rx_OK 22 [.ref 51, .ref 64, .int a1] 162 [] [p0, p1, p2, p3, 21] σ (none, rx_D [p0, p1, p2, p3, 21] o) := by
  intro o h
  refine rx_OK_of (by decide) (Nat.le_of_ble_eq_true rfl) ?_
  refine rx_walk [55] 2000 (by decide) rx_e22 ?_
  unfold f_cho_lookAt at h
  refine rr_g h (fun c8 h => ?_)
  refine rr_g h (fun c18 h => ?_)
  refine rr_g h (fun c26 h => ?_)
  refine rr_g h (fun c36 h => ?_)
  refine rr_g h (fun c40 h => ?_)
  refine rr_g h (fun c47 h => ?_)
  refine rr_g h (fun c51 h => ?_)
  exact rx_sub (f_cho_lookAt_55_ok_r1w1 rx_fu _ _ _ _ _ _ h) [4, 5, 6, 3, 2, 1, 0] rfl
set_option maxRecDepth 100000 in
set_option maxHeartbeats 4000000 in
theorem f_cho_lookAt_55_ok_r1w0 {p0 p1 p2 p3 : Nat} {o : rx_St} : ∀ (n : Nat) (v2 : Int32) (v3 : Int32) (v4 : Int32) (v5 : Int32) (v6 : Int32) (σ : rx_St), f_cho_lookAt_55 1 0 n v2 v3 v4 v5 v6 σ = some o → rx_AtP none 22 55 [(0, .ref 51), (1, .ref 64), (2, .int v2), (3, .int v3), (4, .int v4), (5, .int v5), (6, .int v6)] [] (rx_D [p0, p1, p2, p3, 7] σ) (none, rx_D [p0, p1, p2, p3, 7] o) := by
  intro n
  induction n with
  | zero => intro _ _ _ _ _ _ h; cases h
  | succ n ih =>
  intro v2 v3 v4 v5 v6 σ h
  refine rx_walk [55] 2000 (by decide) rx_e22 ?_
  rw [f_cho_lookAt_55] at h
  refine rr_g h (fun c68 h => ?_)
  refine rr_if h (fun c69 h => ?_) (fun c69 h => ?_)
  · skip
    cases h
    exact And.intro (rfl) rfl
  · skip
    refine rr_g h (fun c90 h => ?_)
    refine rr_g h (fun c102 h => ?_)
    refine rr_g h (fun c107 h => ?_)
    exact rx_sub (ih _ _ _ _ _ _ h) [1, 2, 3, 4, 5, 6, 0] rfl
set_option maxRecDepth 100000 in
set_option maxHeartbeats 4000000 in
theorem f_cho_lookAt_ok_r1w0 {p0 p1 p2 p3 : Nat} {a1 : Int32} {σ : rx_St} : ∀ o, f_cho_lookAt 1 0 a1 σ = some o → rx_OK 22 [.ref 51, .ref 64, .int a1] 162 [] [p0, p1, p2, p3, 7] σ (none, rx_D [p0, p1, p2, p3, 7] o) := by
  intro o h
  refine rx_OK_of (by decide) (Nat.le_of_ble_eq_true rfl) ?_
  refine rx_walk [55] 2000 (by decide) rx_e22 ?_
  unfold f_cho_lookAt at h
  refine rr_g h (fun c8 h => ?_)
  refine rr_g h (fun c18 h => ?_)
  refine rr_g h (fun c26 h => ?_)
  refine rr_g h (fun c36 h => ?_)
  refine rr_g h (fun c40 h => ?_)
  refine rr_g h (fun c47 h => ?_)
  refine rr_g h (fun c51 h => ?_)
  exact rx_sub (f_cho_lookAt_55_ok_r1w0 rx_fu _ _ _ _ _ _ h) [4, 5, 6, 3, 2, 1, 0] rfl
set_option maxRecDepth 100000 in
theorem rx_e21 : rx_Ext none 21 := rx_Ext_plain (by decide +kernel)
set_option maxRecDepth 100000 in
set_option maxHeartbeats 4000000 in
theorem f_cho_look_110_ok_r0w1 {p0 p1 p2 p3 : Nat} {o : rx_St} {k84 : Int32 → rx_St → Option (rx_St)} (hk84 : ∀ (v3 : Int32) (σ : rx_St), k84 v3 σ = some o → rx_AtP none 21 84 [(0, .ref 51), (1, .ref 57), (3, .int v3)] [] (rx_D [p0, p1, p2, p3, 21] σ) (none, rx_D [p0, p1, p2, p3, 21] o)) : ∀ (v3 : Int32) (σ : rx_St), f_cho_look_110 0 1 k84 v3 σ = some o → rx_AtP none 21 110 [(0, .ref 51), (1, .ref 57), (3, .int v3)] [] (rx_D [p0, p1, p2, p3, 21] σ) (none, rx_D [p0, p1, p2, p3, 21] o) := by
  intro v3 σ h
  refine rx_walk [17, 38, 58, 84, 110] 2000 (by decide) rx_e21 ?_
  unfold f_cho_look_110 at h
  exact rx_sub (hk84 _ _ h) [1, 2, 0] rfl
set_option maxRecDepth 100000 in
set_option maxHeartbeats 4000000 in
theorem f_cho_look_84_ok_r0w1 {p0 p1 p2 p3 : Nat} {o : rx_St} : ∀ (n : Nat) (v3 : Int32) (σ : rx_St), f_cho_look_84 0 1 n v3 σ = some o → rx_AtP none 21 84 [(0, .ref 51), (1, .ref 57), (3, .int v3)] [] (rx_D [p0, p1, p2, p3, 21] σ) (none, rx_D [p0, p1, p2, p3, 21] o) := by
  intro n
  induction n with
  | zero => intro _ _ h; cases h
  | succ n ih =>
  intro v3 σ h
  refine rx_walk [17, 38, 58, 84, 110] 2000 (by decide) rx_e21 ?_
  rw [f_cho_look_84] at h
  refine rr_if h (fun c92 h => ?_) (fun c92 h => ?_)
  · skip
    cases h
    exact And.intro (rfl) rfl
  · skip
    refine rr_g h (fun c100 h => ?_)
    refine rr_if h (fun c101 h => ?_) (fun c101 h => ?_)
    · skip
      refine rr_callV h (fun y hy => f_cho_lookAt_ok_r0w1 _ hy) (fun y1 hy1 h => ?_)
      exact rx_sub (f_cho_look_110_ok_r0w1 ih _ _ h) [0, 1, 2] rfl
    · skip
      exact rx_sub (f_cho_look_110_ok_r0w1 ih _ _ h) [0, 1, 2] rfl
set_option maxRecDepth 100000 in
set_option maxHeartbeats 4000000 in
theorem f_cho_look_58_ok_r0w1 {p0 p1 p2 p3 : Nat} {o : rx_St} : ∀ (n : Nat) (v2 : Int32) (v3 : Int32) (σ : rx_St), f_cho_look_58 0 1 n v2 v3 σ = some o → rx_AtP none 21 58 [(0, .ref 51), (1, .ref 57), (2, .int v2), (3, .int v3)] [] (rx_D [p0, p1, p2, p3, 21] σ) (none, rx_D [p0, p1, p2, p3, 21] o) := by
  intro n
  induction n with
  | zero => intro _ _ _ h; cases h
  | succ n ih =>
  intro v2 v3 σ h
  refine rx_walk [17, 38, 58, 84, 110] 2000 (by decide) rx_e21 ?_
  rw [f_cho_look_58] at h
  refine rr_if h (fun c66 h => ?_) (fun c66 h => ?_)
  · skip
    exact rx_sub (f_cho_look_84_ok_r0w1 rx_fu _ _ h) [1, 2, 0] rfl
  · skip
    refine rr_g h (fun c75 h => ?_)
    exact rx_sub (ih _ _ _ h) [1, 2, 3, 0] rfl
set_option maxRecDepth 100000 in
set_option maxHeartbeats 4000000 in
theorem f_cho_look_38_ok_r0w1 {p0 p1 p2 p3 : Nat} {o : rx_St} : ∀ (n : Nat) (v2 : Int32) (v3 : Int32) (σ : rx_St), f_cho_look_38 0 1 n v2 v3 σ = some o → rx_AtP none 21 38 [(0, .ref 51), (1, .ref 57), (2, .int v2), (3, .int v3)] [] (rx_D [p0, p1, p2, p3, 21] σ) (none, rx_D [p0, p1, p2, p3, 21] o) := by
  intro n
  induction n with
  | zero => intro _ _ _ h; cases h
  | succ n ih =>
  intro v2 v3 σ h
  refine rx_walk [17, 38, 58, 84, 110] 2000 (by decide) rx_e21 ?_
  rw [f_cho_look_38] at h
  refine rr_if h (fun c40 h => ?_) (fun c40 h => ?_)
  · skip
    exact rx_sub (f_cho_look_58_ok_r0w1 rx_fu _ _ _ h) [1, 2, 3, 0] rfl
  · skip
    refine rr_g h (fun c49 h => ?_)
    exact rx_sub (ih _ _ _ h) [1, 2, 3, 0] rfl
set_option maxRecDepth 100000 in
set_option maxHeartbeats 4000000 in
theorem f_cho_look_17_ok_r0w1 {p0 p1 p2 p3 : Nat} {o : rx_St} : ∀ (n : Nat) (v2 : Int32) (v3 : Int32) (σ : rx_St), f_cho_look_17 0 1 n v2 v3 σ = some o → rx_AtP none 21 17 [(0, .ref 51), (1, .ref 57), (2, .int v2), (3, .int v3)] [] (rx_D [p0, p1, p2, p3, 21] σ) (none, rx_D [p0, p1, p2, p3, 21] o) := by
  intro n
  induction n with
  | zero => intro _ _ _ h; cases h
  | succ n ih =>
  intro v2 v3 σ h
  refine rx_walk [17, 38, 58, 84, 110] 2000 (by decide) rx_e21 ?_
  rw [f_cho_look_17] at h
  refine rr_if h (fun c20 h => ?_) (fun c20 h => ?_)
  · skip
    exact rx_sub (f_cho_look_38_ok_r0w1 rx_fu _ _ _ h) [1, 2, 3, 0] rfl
  · skip
    refine rr_g h (fun c29 h => ?_)
    exact rx_sub (ih _ _ _ h) [1, 2, 3, 0] rfl
set_option maxRecDepth 100000 in
set_option maxHeartbeats 4000000 in
theorem f_cho_look_ok_r0w1 {p0 p1 p2 p3 : Nat} {σ : rx_St} : ∀ o, f_cho_look 0 1 σ = some o → rx_OK 21 [.ref 51, .ref 57] 162 [] [p0, p1, p2, p3, 21] σ (none, rx_D [p0, p1, p2, p3, 21] o) := by
  intro o h
  refine rx_OK_of (by decide) (Nat.le_of_ble_eq_true rfl) ?_
  refine rx_walk [17, 38, 58, 84, 110] 2000 (by decide) rx_e21 ?_
  unfold f_cho_look at h
  refine rr_callT (f_j_min_ok _ rfl) ?_
  exact rx_sub (f_cho_look_17_ok_r0w1 rx_fu _ _ _ h) [2, 3, 1, 0] rfl
set_option maxRecDepth 100000 in
set_option maxHeartbeats 4000000 in
theorem f_cho_look_110_ok_r0w0 {p0 p1 p2 p3 : Nat} {o : rx_St} {k84 : Int32 → rx_St → Option (rx_St)} (hk84 : ∀ (v3 : Int32) (σ : rx_St), k84 v3 σ = some o → rx_AtP none 21 84 [(0, .ref 51), (1, .ref 57), (3, .int v3)] [] (rx_D [p0, p1, p2, p3, 7] σ) (none, rx_D [p0, p1, p2, p3, 7] o)) : ∀ (v3 : Int32) (σ : rx_St), f_cho_look_110 0 0 k84 v3 σ = some o → rx_AtP none 21 110 [(0, .ref 51), (1, .ref 57), (3, .int v3)] [] (rx_D [p0, p1, p2, p3, 7] σ) (none, rx_D [p0, p1, p2, p3, 7] o) := by
  intro v3 σ h
  refine rx_walk [17, 38, 58, 84, 110] 2000 (by decide) rx_e21 ?_
  unfold f_cho_look_110 at h
  exact rx_sub (hk84 _ _ h) [1, 2, 0] rfl
set_option maxRecDepth 100000 in
set_option maxHeartbeats 4000000 in
theorem f_cho_look_84_ok_r0w0 {p0 p1 p2 p3 : Nat} {o : rx_St} : ∀ (n : Nat) (v3 : Int32) (σ : rx_St), f_cho_look_84 0 0 n v3 σ = some o → rx_AtP none 21 84 [(0, .ref 51), (1, .ref 57), (3, .int v3)] [] (rx_D [p0, p1, p2, p3, 7] σ) (none, rx_D [p0, p1, p2, p3, 7] o) := by
  intro n
  induction n with
  | zero => intro _ _ h; cases h
  | succ n ih =>
  intro v3 σ h
  refine rx_walk [17, 38, 58, 84, 110] 2000 (by decide) rx_e21 ?_
  rw [f_cho_look_84] at h
  refine rr_if h (fun c92 h => ?_) (fun c92 h => ?_)
  · skip
    cases h
    exact And.intro (rfl) rfl
  · skip
    refine rr_g h (fun c100 h => ?_)
    refine rr_if h (fun c101 h => ?_) (fun c101 h => ?_)
    · skip
      refine rr_callV h (fun y hy => f_cho_lookAt_ok_r0w0 _ hy) (fun y1 hy1 h => ?_)
      exact rx_sub (f_cho_look_110_ok_r0w0 ih _ _ h) [0, 1, 2] rfl
    · skip
      exact rx_sub (f_cho_look_110_ok_r0w0 ih _ _ h) [0, 1, 2] rfl
set_option maxRecDepth 100000 in
set_option maxHeartbeats 4000000 in
theorem f_cho_look_58_ok_r0w0 {p0 p1 p2 p3 : Nat} {o : rx_St} : ∀ (n : Nat) (v2 : Int32) (v3 : Int32) (σ : rx_St), f_cho_look_58 0 0 n v2 v3 σ = some o → rx_AtP none 21 58 [(0, .ref 51), (1, .ref 57), (2, .int v2), (3, .int v3)] [] (rx_D [p0, p1, p2, p3, 7] σ) (none, rx_D [p0, p1, p2, p3, 7] o) := by
  intro n
  induction n with
  | zero => intro _ _ _ h; cases h
  | succ n ih =>
  intro v2 v3 σ h
  refine rx_walk [17, 38, 58, 84, 110] 2000 (by decide) rx_e21 ?_
  rw [f_cho_look_58] at h
  refine rr_if h (fun c66 h => ?_) (fun c66 h => ?_)
  · skip
    exact rx_sub (f_cho_look_84_ok_r0w0 rx_fu _ _ h) [1, 2, 0] rfl
  · skip
    refine rr_g h (fun c75 h => ?_)
    exact rx_sub (ih _ _ _ h) [1, 2, 3, 0] rfl
set_option maxRecDepth 100000 in
set_option maxHeartbeats 4000000 in
theorem f_cho_look_38_ok_r0w0 {p0 p1 p2 p3 : Nat} {o : rx_St} : ∀ (n : Nat) (v2 : Int32) (v3 : Int32) (σ : rx_St), f_cho_look_38 0 0 n v2 v3 σ = some o → rx_AtP none 21 38 [(0, .ref 51), (1, .ref 57), (2, .int v2), (3, .int v3)] [] (rx_D [p0, p1, p2, p3, 7] σ) (none, rx_D [p0, p1, p2, p3, 7] o) := by
  intro n
  induction n with
  | zero => intro _ _ _ h; cases h
  | succ n ih =>
  intro v2 v3 σ h
  refine rx_walk [17, 38, 58, 84, 110] 2000 (by decide) rx_e21 ?_
  rw [f_cho_look_38] at h
  refine rr_if h (fun c40 h => ?_) (fun c40 h => ?_)
  · skip
    exact rx_sub (f_cho_look_58_ok_r0w0 rx_fu _ _ _ h) [1, 2, 3, 0] rfl
  · skip
    refine rr_g h (fun c49 h => ?_)
    exact rx_sub (ih _ _ _ h) [1, 2, 3, 0] rfl
set_option maxRecDepth 100000 in
set_option maxHeartbeats 4000000 in
theorem f_cho_look_17_ok_r0w0 {p0 p1 p2 p3 : Nat} {o : rx_St} : ∀ (n : Nat) (v2 : Int32) (v3 : Int32) (σ : rx_St), f_cho_look_17 0 0 n v2 v3 σ = some o → rx_AtP none 21 17 [(0, .ref 51), (1, .ref 57), (2, .int v2), (3, .int v3)] [] (rx_D [p0, p1, p2, p3, 7] σ) (none, rx_D [p0, p1, p2, p3, 7] o) := by
  intro n
  induction n with
  | zero => intro _ _ _ h; cases h
  | succ n ih =>
  intro v2 v3 σ h
  refine rx_walk [17, 38, 58, 84, 110] 2000 (by decide) rx_e21 ?_
  rw [f_cho_look_17] at h
  refine rr_if h (fun c20 h => ?_) (fun c20 h => ?_)
  · skip
    exact rx_sub (f_cho_look_38_ok_r0w0 rx_fu _ _ _ h) [1, 2, 3, 0] rfl
  · skip
    refine rr_g h (fun c29 h => ?_)
    exact rx_sub (ih _ _ _ h) [1, 2, 3, 0] rfl
set_option maxRecDepth 100000 in
set_option maxHeartbeats 4000000 in
theorem f_cho_look_ok_r0w0 {p0 p1 p2 p3 : Nat} {σ : rx_St} : ∀ o, f_cho_look 0 0 σ = some o → rx_OK 21 [.ref 51, .ref 57] 162 [] [p0, p1, p2, p3, 7] σ (none, rx_D [p0, p1, p2, p3, 7] o) := by
  intro o h
  refine rx_OK_of (by decide) (Nat.le_of_ble_eq_true rfl) ?_
  refine rx_walk [17, 38, 58, 84, 110] 2000 (by decide) rx_e21 ?_
  unfold f_cho_look at h
  refine rr_callT (f_j_min_ok _ rfl) ?_
  exact rx_sub (f_cho_look_17_ok_r0w0 rx_fu _ _ _ h) [2, 3, 1, 0] rfl
set_option maxRecDepth 100000 in
set_option maxHeartbeats 4000000 in
theorem f_cho_look_110_ok_r1w1 {p0 p1 p2 p3 : Nat} {o : rx_St} {k84 : Int32 → rx_St → Option (rx_St)} (hk84 : ∀ (v3 : Int32) (σ : rx_St), k84 v3 σ = some o → rx_AtP none 21 84 [(0, .ref 51), (1, .ref 64), (3, .int v3)] [] (rx_D [p0, p1, p2, p3, 21] σ) (none, rx_D [p0, p1, p2, p3, 21] o)) : ∀ (v3 : Int32) (σ : rx_St), f_cho_look_110 1 1 k84 v3 σ = some o → rx_AtP none 21 110 [(0, .ref 51), (1, .ref 64), (3, .int v3)] [] (rx_D [p0, p1, p2, p3, 21] σ) (none, rx_D [p0, p1, p2, p3, 21] o) := by
  intro v3 σ h
  refine rx_walk [17, 38, 58, 84, 110] 2000 (by decide) rx_e21 ?_
  unfold f_cho_look_110 at h
  exact rx_sub (hk84 _ _ h) [1, 2, 0] rfl
set_option maxRecDepth 100000 in
set_option maxHeartbeats 4000000 in
theorem f_cho_look_84_ok_r1w1 {p0 p1 p2 p3 : Nat} {o : rx_St} : ∀ (n : Nat) (v3 : Int32) (σ : rx_St), f_cho_look_84 1 1 n v3 σ = some o → rx_AtP none 21 84 [(0, .ref 51), (1, .ref 64), (3, .int v3)] [] (rx_D [p0, p1, p2, p3, 21] σ) (none, rx_D [p0, p1, p2, p3, 21] o) := by
  intro n
  induction n with
  | zero => intro _ _ h; cases h
  | succ n ih =>
  intro v3 σ h
  refine rx_walk [17, 38, 58, 84, 110] 2000 (by decide) rx_e21 ?_
  rw [f_cho_look_84] at h
  refine rr_if h (fun c92 h => ?_) (fun c92 h => ?_)
  · skip
    cases h
    exact And.intro (rfl) rfl
  · skip
    refine rr_g h (fun c100 h => ?_)
    refine rr_if h (fun c101 h => ?_) (fun c101 h => ?_)
    · skip
      refine rr_callV h (fun y hy => f_cho_lookAt_ok_r1w1 _ hy) (fun y1 hy1 h => ?_)
      exact rx_sub (f_cho_look_110_ok_r1w1 ih _ _ h) [0, 1, 2] rfl
    · skip
      exact rx_sub (f_cho_look_110_ok_r1w1 ih _ _ h) [0, 1, 2] rfl
set_option maxRecDepth 100000 in
set_option maxHeartbeats 4000000 in
theorem f_cho_look_58_ok_r1w1 {p0 p1 p2 p3 : Nat} {o : rx_St} : ∀ (n : Nat) (v2 : Int32) (v3 : Int32) (σ : rx_St), f_cho_look_58 1 1 n v2 v3 σ = some o → rx_AtP none 21 58 [(0, .ref 51), (1, .ref 64), (2, .int v2), (3, .int v3)] [] (rx_D [p0, p1, p2, p3, 21] σ) (none, rx_D [p0, p1, p2, p3, 21] o) := by
  intro n
  induction n with
  | zero => intro _ _ _ h; cases h
  | succ n ih =>
  intro v2 v3 σ h
  refine rx_walk [17, 38, 58, 84, 110] 2000 (by decide) rx_e21 ?_
  rw [f_cho_look_58] at h
  refine rr_if h (fun c66 h => ?_) (fun c66 h => ?_)
  · skip
    exact rx_sub (f_cho_look_84_ok_r1w1 rx_fu _ _ h) [1, 2, 0] rfl
  · skip
    refine rr_g h (fun c75 h => ?_)
    exact rx_sub (ih _ _ _ h) [1, 2, 3, 0] rfl
set_option maxRecDepth 100000 in
set_option maxHeartbeats 4000000 in
theorem f_cho_look_38_ok_r1w1 {p0 p1 p2 p3 : Nat} {o : rx_St} : ∀ (n : Nat) (v2 : Int32) (v3 : Int32) (σ : rx_St), f_cho_look_38 1 1 n v2 v3 σ = some o → rx_AtP none 21 38 [(0, .ref 51), (1, .ref 64), (2, .int v2), (3, .int v3)] [] (rx_D [p0, p1, p2, p3, 21] σ) (none, rx_D [p0, p1, p2, p3, 21] o) := by
  intro n
  induction n with
  | zero => intro _ _ _ h; cases h
  | succ n ih =>
  intro v2 v3 σ h
  refine rx_walk [17, 38, 58, 84, 110] 2000 (by decide) rx_e21 ?_
  rw [f_cho_look_38] at h
  refine rr_if h (fun c40 h => ?_) (fun c40 h => ?_)
  · skip
    exact rx_sub (f_cho_look_58_ok_r1w1 rx_fu _ _ _ h) [1, 2, 3, 0] rfl
  · skip
    refine rr_g h (fun c49 h => ?_)
    exact rx_sub (ih _ _ _ h) [1, 2, 3, 0] rfl
set_option maxRecDepth 100000 in
set_option maxHeartbeats 4000000 in
theorem f_cho_look_17_ok_r1w1 {p0 p1 p2 p3 : Nat} {o : rx_St} : ∀ (n : Nat) (v2 : Int32) (v3 : Int32) (σ : rx_St), f_cho_look_17 1 1 n v2 v3 σ = some o → rx_AtP none 21 17 [(0, .ref 51), (1, .ref 64), (2, .int v2), (3, .int v3)] [] (rx_D [p0, p1, p2, p3, 21] σ) (none, rx_D [p0, p1, p2, p3, 21] o) := by
  intro n
  induction n with
  | zero => intro _ _ _ h; cases h
  | succ n ih =>
  intro v2 v3 σ h
  refine rx_walk [17, 38, 58, 84, 110] 2000 (by decide) rx_e21 ?_
  rw [f_cho_look_17] at h
  refine rr_if h (fun c20 h => ?_) (fun c20 h => ?_)
  · skip
    exact rx_sub (f_cho_look_38_ok_r1w1 rx_fu _ _ _ h) [1, 2, 3, 0] rfl
  · skip
    refine rr_g h (fun c29 h => ?_)
    exact rx_sub (ih _ _ _ h) [1, 2, 3, 0] rfl
set_option maxRecDepth 100000 in
set_option maxHeartbeats 4000000 in
theorem f_cho_look_ok_r1w1 {p0 p1 p2 p3 : Nat} {σ : rx_St} : ∀ o, f_cho_look 1 1 σ = some o → rx_OK 21 [.ref 51, .ref 64] 162 [] [p0, p1, p2, p3, 21] σ (none, rx_D [p0, p1, p2, p3, 21] o) := by
  intro o h
  refine rx_OK_of (by decide) (Nat.le_of_ble_eq_true rfl) ?_
  refine rx_walk [17, 38, 58, 84, 110] 2000 (by decide) rx_e21 ?_
  unfold f_cho_look at h
  refine rr_callT (f_j_min_ok _ rfl) ?_
  exact rx_sub (f_cho_look_17_ok_r1w1 rx_fu _ _ _ h) [2, 3, 1, 0] rfl
set_option maxRecDepth 100000 in
set_option maxHeartbeats 4000000 in
theorem f_cho_look_110_ok_r1w0 {p0 p1 p2 p3 : Nat} {o : rx_St} {k84 : Int32 → rx_St → Option (rx_St)} (hk84 : ∀ (v3 : Int32) (σ : rx_St), k84 v3 σ = some o → rx_AtP none 21 84 [(0, .ref 51), (1, .ref 64), (3, .int v3)] [] (rx_D [p0, p1, p2, p3, 7] σ) (none, rx_D [p0, p1, p2, p3, 7] o)) : ∀ (v3 : Int32) (σ : rx_St), f_cho_look_110 1 0 k84 v3 σ = some o → rx_AtP none 21 110 [(0, .ref 51), (1, .ref 64), (3, .int v3)] [] (rx_D [p0, p1, p2, p3, 7] σ) (none, rx_D [p0, p1, p2, p3, 7] o) := by
  intro v3 σ h
  refine rx_walk [17, 38, 58, 84, 110] 2000 (by decide) rx_e21 ?_
  unfold f_cho_look_110 at h
  exact rx_sub (hk84 _ _ h) [1, 2, 0] rfl
set_option maxRecDepth 100000 in
set_option maxHeartbeats 4000000 in
theorem f_cho_look_84_ok_r1w0 {p0 p1 p2 p3 : Nat} {o : rx_St} : ∀ (n : Nat) (v3 : Int32) (σ : rx_St), f_cho_look_84 1 0 n v3 σ = some o → rx_AtP none 21 84 [(0, .ref 51), (1, .ref 64), (3, .int v3)] [] (rx_D [p0, p1, p2, p3, 7] σ) (none, rx_D [p0, p1, p2, p3, 7] o) := by
  intro n
  induction n with
  | zero => intro _ _ h; cases h
  | succ n ih =>
  intro v3 σ h
  refine rx_walk [17, 38, 58, 84, 110] 2000 (by decide) rx_e21 ?_
  rw [f_cho_look_84] at h
  refine rr_if h (fun c92 h => ?_) (fun c92 h => ?_)
  · skip
    cases h
    exact And.intro (rfl) rfl
  · skip
    refine rr_g h (fun c100 h => ?_)
    refine rr_if h (fun c101 h => ?_) (fun c101 h => ?_)
    · skip
      refine rr_callV h (fun y hy => f_cho_lookAt_ok_r1w0 _ hy) (fun y1 hy1 h => ?_)
      exact rx_sub (f_cho_look_110_ok_r1w0 ih _ _ h) [0, 1, 2] rfl
    · skip
      exact rx_sub (f_cho_look_110_ok_r1w0 ih _ _ h) [0, 1, 2] rfl
set_option maxRecDepth 100000 in
set_option maxHeartbeats 4000000 in
theorem f_cho_look_58_ok_r1w0 {p0 p1 p2 p3 : Nat} {o : rx_St} : ∀ (n : Nat) (v2 : Int32) (v3 : Int32) (σ : rx_St), f_cho_look_58 1 0 n v2 v3 σ = some o → rx_AtP none 21 58 [(0, .ref 51), (1, .ref 64), (2, .int v2), (3, .int v3)] [] (rx_D [p0, p1, p2, p3, 7] σ) (none, rx_D [p0, p1, p2, p3, 7] o) := by
  intro n
  induction n with
  | zero => intro _ _ _ h; cases h
  | succ n ih =>
  intro v2 v3 σ h
  refine rx_walk [17, 38, 58, 84, 110] 2000 (by decide) rx_e21 ?_
  rw [f_cho_look_58] at h
  refine rr_if h (fun c66 h => ?_) (fun c66 h => ?_)
  · skip
    exact rx_sub (f_cho_look_84_ok_r1w0 rx_fu _ _ h) [1, 2, 0] rfl
  · skip
    refine rr_g h (fun c75 h => ?_)
    exact rx_sub (ih _ _ _ h) [1, 2, 3, 0] rfl
set_option maxRecDepth 100000 in
set_option maxHeartbeats 4000000 in
theorem f_cho_look_38_ok_r1w0 {p0 p1 p2 p3 : Nat} {o : rx_St} : ∀ (n : Nat) (v2 : Int32) (v3 : Int32) (σ : rx_St), f_cho_look_38 1 0 n v2 v3 σ = some o → rx_AtP none 21 38 [(0, .ref 51), (1, .ref 64), (2, .int v2), (3, .int v3)] [] (rx_D [p0, p1, p2, p3, 7] σ) (none, rx_D [p0, p1, p2, p3, 7] o) := by
  intro n
  induction n with
  | zero => intro _ _ _ h; cases h
  | succ n ih =>
  intro v2 v3 σ h
  refine rx_walk [17, 38, 58, 84, 110] 2000 (by decide) rx_e21 ?_
  rw [f_cho_look_38] at h
  refine rr_if h (fun c40 h => ?_) (fun c40 h => ?_)
  · skip
    exact rx_sub (f_cho_look_58_ok_r1w0 rx_fu _ _ _ h) [1, 2, 3, 0] rfl
  · skip
    refine rr_g h (fun c49 h => ?_)
    exact rx_sub (ih _ _ _ h) [1, 2, 3, 0] rfl
set_option maxRecDepth 100000 in
set_option maxHeartbeats 4000000 in
theorem f_cho_look_17_ok_r1w0 {p0 p1 p2 p3 : Nat} {o : rx_St} : ∀ (n : Nat) (v2 : Int32) (v3 : Int32) (σ : rx_St), f_cho_look_17 1 0 n v2 v3 σ = some o → rx_AtP none 21 17 [(0, .ref 51), (1, .ref 64), (2, .int v2), (3, .int v3)] [] (rx_D [p0, p1, p2, p3, 7] σ) (none, rx_D [p0, p1, p2, p3, 7] o) := by
  intro n
  induction n with
  | zero => intro _ _ _ h; cases h
  | succ n ih =>
  intro v2 v3 σ h
  refine rx_walk [17, 38, 58, 84, 110] 2000 (by decide) rx_e21 ?_
  rw [f_cho_look_17] at h
  refine rr_if h (fun c20 h => ?_) (fun c20 h => ?_)
  · skip
    exact rx_sub (f_cho_look_38_ok_r1w0 rx_fu _ _ _ h) [1, 2, 3, 0] rfl
  · skip
    refine rr_g h (fun c29 h => ?_)
    exact rx_sub (ih _ _ _ h) [1, 2, 3, 0] rfl
set_option maxRecDepth 100000 in
set_option maxHeartbeats 4000000 in
theorem f_cho_look_ok_r1w0 {p0 p1 p2 p3 : Nat} {σ : rx_St} : ∀ o, f_cho_look 1 0 σ = some o → rx_OK 21 [.ref 51, .ref 64] 162 [] [p0, p1, p2, p3, 7] σ (none, rx_D [p0, p1, p2, p3, 7] o) := by
  intro o h
  refine rx_OK_of (by decide) (Nat.le_of_ble_eq_true rfl) ?_
  refine rx_walk [17, 38, 58, 84, 110] 2000 (by decide) rx_e21 ?_
  unfold f_cho_look at h
  refine rr_callT (f_j_min_ok _ rfl) ?_
  exact rx_sub (f_cho_look_17_ok_r1w0 rx_fu _ _ _ h) [2, 3, 1, 0] rfl
set_option maxRecDepth 100000 in
theorem rx_e261 : rx_Ext none 261 := rx_Ext_plain (by decide +kernel)
set_option maxRecDepth 100000 in
set_option maxHeartbeats 4000000 in
theorem f_j_max_ok {P : List Nat} {σ : rx_St} {a0 : Int32} {a1 : Int32} : ∀ o, f_j_max a0 a1 = o → rx_OK 261 [.int a0, .int a1] 162 [] P σ (some (.int o), rx_D P σ) := by
  intro o h
  refine rx_OK_of (by decide) (Nat.le_of_ble_eq_true rfl) ?_
  refine rx_walk [] 2000 (by decide) rx_e261 ?_
  unfold f_j_max at h
  refine rr_if h (fun c2 h => ?_) (fun c2 h => ?_)
  · skip
    cases h
    exact And.intro (trivial) rfl
  · skip
    cases h
    exact And.intro (trivial) rfl
set_option maxRecDepth 100000 in
theorem rx_e25 : rx_Ext none 25 := rx_Ext_plain (by decide +kernel)
set_option maxRecDepth 100000 in
set_option maxHeartbeats 4000000 in
theorem f_cho_pop_ok {P : List Nat} {σ : rx_St} : ∀ o, f_cho_pop σ = some o → rx_OK 25 [.ref 51] 162 [] P σ (some (.int o.1), rx_D P o.2) := by
  intro o h
  refine rx_OK_of (by decide) (Nat.le_of_ble_eq_true rfl) ?_
  refine rx_walk [] 2000 (by decide) rx_e25 ?_
  unfold f_cho_pop at h
  refine rr_if h (fun c5 h => ?_) (fun c5 h => ?_)
  · skip
    cases h
    exact And.intro (trivial) rfl
  · skip
    refine rr_if h (fun c17 h => ?_) (fun c17 h => ?_)
    · skip
      refine rr_g h (fun c40 h => ?_)
      cases h
      exact And.intro (trivial) rfl
    · skip
      cases h
      exact And.intro (trivial) rfl
set_option maxRecDepth 100000 in
theorem rx_e26 : rx_Ext none 26 := rx_Ext_plain (by decide +kernel)
set_option maxRecDepth 100000 in
set_option maxHeartbeats 4000000 in
theorem f_cho_holds_22_ok {P : List Nat} {o : Int32 × rx_St} : ∀ (v1 : Int32) (v2 : Int32) (v3 : Int32) (s0 : Int32) (σ : rx_St), f_cho_holds_22 v1 v2 v3 s0 σ = some o → rx_AtP none 26 22 [(0, .ref 51), (1, .int v1), (2, .int v2), (3, .int v3)] [.int s0] (rx_D P σ) (some (.int o.1), rx_D P o.2) := by
  intro v1 v2 v3 s0 σ h
  refine rx_walk [22] 2000 (by decide) rx_e26 ?_
  unfold f_cho_holds_22 at h
  refine rr_ck (Or.inl rfl) ?_
  refine rr_if h (fun c30_0 h => ?_) (fun c30_0 h => ?_)
  · skip
    refine rr_if h (fun c58 h => ?_) (fun c58 h => ?_)
    · skip
      cases h
      exact And.intro (Or.inl rfl) rfl
    · skip
      refine rr_if h (fun c63 h => ?_) (fun c63 h => ?_)
      · skip
        cases h
        exact And.intro (Or.inr rfl) rfl
      · skip
        cases h
        exact And.intro (Or.inl rfl) rfl
  · skip
    refine rr_if h (fun c30_1 h => ?_) (fun c30_1 h => ?_)
    · skip
      refine rr_if h (fun c74 h => ?_) (fun c74 h => ?_)
      · skip
        cases h
        exact And.intro (Or.inl rfl) rfl
      · skip
        refine rr_if h (fun c79 h => ?_) (fun c79 h => ?_)
        · skip
          cases h
          exact And.intro (Or.inl rfl) rfl
        · skip
          cases h
          exact And.intro (Or.inr rfl) rfl
    · skip
      refine rr_if h (fun c30_2 h => ?_) (fun c30_2 h => ?_)
      · skip
        refine rr_if h (fun c90 h => ?_) (fun c90 h => ?_)
        · skip
          cases h
          exact And.intro (Or.inl rfl) rfl
        · skip
          refine rr_if h (fun c95 h => ?_) (fun c95 h => ?_)
          · skip
            cases h
            exact And.intro (Or.inl rfl) rfl
          · skip
            cases h
            exact And.intro (Or.inr rfl) rfl
      · skip
        refine rr_if h (fun c106 h => ?_) (fun c106 h => ?_)
        · skip
          cases h
          exact And.intro (Or.inl rfl) rfl
        · skip
          refine rr_if h (fun c111 h => ?_) (fun c111 h => ?_)
          · skip
            cases h
            exact And.intro (Or.inl rfl) rfl
          · skip
            cases h
            exact And.intro (Or.inr rfl) rfl
set_option maxRecDepth 100000 in
set_option maxHeartbeats 4000000 in
theorem f_cho_holds_ok {P : List Nat} {a0 : Int32} {σ : rx_St} : ∀ o, f_cho_holds a0 σ = some o → rx_OK 26 [.ref 51, .int a0] 162 [] P σ (some (.int o.1), rx_D P o.2) := by
  intro o h
  refine rx_OK_of (by decide) (Nat.le_of_ble_eq_true rfl) ?_
  refine rx_walk [22] 2000 (by decide) rx_e26 ?_
  unfold f_cho_holds at h
  refine rr_callS h (fun y hy => f_cho_pop_ok _ hy) (fun y1 hy1 h => ?_)
  refine rr_callS h (fun y hy => f_cho_pop_ok _ hy) (fun y2 hy2 h => ?_)
  refine rr_if h (fun c14 h => ?_) (fun c14 h => ?_)
  · skip
    exact rx_sub (f_cho_holds_22_ok _ _ _ _ _ h) [2, 3, 1, 0] rfl
  · skip
    exact rx_sub (f_cho_holds_22_ok _ _ _ _ _ h) [2, 3, 1, 0] rfl
set_option maxRecDepth 100000 in
theorem rx_e24 : rx_Ext none 24 := rx_Ext_plain (by decide +kernel)
set_option maxRecDepth 100000 in
set_option maxHeartbeats 4000000 in
theorem f_cho_push_ok {P : List Nat} {a0 : Int32} {σ : rx_St} : ∀ o, f_cho_push a0 σ = some o → rx_OK 24 [.ref 51, .int a0] 162 [] P σ (none, rx_D P o) := by
  intro o h
  refine rx_OK_of (by decide) (Nat.le_of_ble_eq_true rfl) ?_
  refine rx_walk [] 2000 (by decide) rx_e24 ?_
  unfold f_cho_push at h
  refine rr_if h (fun c4 h => ?_) (fun c4 h => ?_)
  · skip
    cases h
    exact And.intro (rfl) rfl
  · skip
    refine rr_if h (fun c16 h => ?_) (fun c16 h => ?_)
    · skip
      cases h
      exact And.intro (rfl) rfl
    · skip
      refine rr_g h (fun c28 h => ?_)
      cases h
      exact And.intro (rfl) rfl
set_option maxRecDepth 100000 in
theorem rx_e27 : rx_Ext none 27 := rx_Ext_plain (by decide +kernel)
set_option maxRecDepth 100000 in
set_option maxHeartbeats 4000000 in
theorem f_cho_join_98_ok {P : List Nat} {o : rx_St} : ∀ (s1 : Int32) (σ : rx_St), f_cho_join_98 s1 σ = some o → rx_AtP none 27 98 [] [.int s1, .ref 51] (rx_D P σ) (none, rx_D P o) := by
  intro s1 σ h
  refine rx_walk [78, 83, 98] 2000 (by decide) rx_e27 ?_
  unfold f_cho_join_98 at h
  refine rr_callV h (fun y hy => f_cho_push_ok _ hy) (fun y1 hy1 h => ?_)
  cases h
  exact And.intro (rfl) rfl
set_option maxRecDepth 100000 in
set_option maxHeartbeats 4000000 in
theorem f_cho_join_83_ok {P : List Nat} {o : rx_St} : ∀ (v2 : Int32) (v3 : Int32) (s1 : Int32) (σ : rx_St), f_cho_join_83 v2 v3 s1 σ = some o → rx_AtP none 27 83 [(0, .ref 51), (2, .int v2), (3, .int v3)] [.int s1, .ref 51] (rx_D P σ) (none, rx_D P o) := by
  intro v2 v3 s1 σ h
  refine rx_walk [78, 83, 98] 2000 (by decide) rx_e27 ?_
  unfold f_cho_join_83 at h
  refine rr_c h (fun c83 h => ?_)
  refine rr_if h (fun c88 h => ?_) (fun c88 h => ?_)
  · skip
    exact rx_sub (f_cho_join_98_ok _ _ h) [] rfl
  · skip
    refine rr_c h (fun c97 h => ?_)
    exact rx_sub (f_cho_join_98_ok _ _ h) [] rfl
set_option maxRecDepth 100000 in
set_option maxHeartbeats 4000000 in
theorem f_cho_join_78_ok {P : List Nat} {o : rx_St} : ∀ (v2 : Int32) (v3 : Int32) (σ : rx_St), f_cho_join_78 v2 v3 σ = some o → rx_AtP none 27 78 [(0, .ref 51), (2, .int v2), (3, .int v3)] [.ref 51] (rx_D P σ) (none, rx_D P o) := by
  intro v2 v3 σ h
  refine rx_walk [78, 83, 98] 2000 (by decide) rx_e27 ?_
  unfold f_cho_join_78 at h
  exact rx_sub (f_cho_join_83_ok _ _ _ _ h) [0, 1, 2] rfl
set_option maxRecDepth 100000 in
set_option maxHeartbeats 4000000 in
theorem f_cho_join_ok {P : List Nat} {a0 : Int32} {σ : rx_St} : ∀ o, f_cho_join a0 σ = some o → rx_OK 27 [.ref 51, .int a0] 162 [] P σ (none, rx_D P o) := by
  intro o h
  refine rx_OK_of (by decide) (Nat.le_of_ble_eq_true rfl) ?_
  refine rx_walk [78, 83, 98] 2000 (by decide) rx_e27 ?_
  unfold f_cho_join at h
  refine rr_callS h (fun y hy => f_cho_pop_ok _ hy) (fun y1 hy1 h => ?_)
  refine rr_callS h (fun y hy => f_cho_pop_ok _ hy) (fun y2 hy2 h => ?_)
  refine rr_if h (fun c11_0 h => ?_) (fun c11_0 h => ?_)
  · skip
    refine rr_callV h (fun y hy => f_cho_push_ok _ hy) (fun y5 hy5 h => ?_)
    cases h
    exact And.intro (rfl) rfl
  · skip
    refine rr_if h (fun c11_1 h => ?_) (fun c11_1 h => ?_)
    · skip
      refine rr_callV h (fun y hy => f_cho_push_ok _ hy) (fun y4 hy4 h => ?_)
      cases h
      exact And.intro (rfl) rfl
    · skip
      refine rr_if h (fun c11_2 h => ?_) (fun c11_2 h => ?_)
      · skip
        refine rr_callV h (fun y hy => f_cho_push_ok _ hy) (fun y3 hy3 h => ?_)
        cases h
        exact And.intro (rfl) rfl
      · skip
        refine rr_if h (fun c71 h => ?_) (fun c71 h => ?_)
        · skip
          refine rr_if h (fun c75 h => ?_) (fun c75 h => ?_)
          · skip
            exact rx_sub (f_cho_join_78_ok _ _ _ h) [2, 1, 0] rfl
          · skip
            exact rx_sub (f_cho_join_83_ok _ _ _ _ h) [2, 1, 0] rfl
        · skip
          exact rx_sub (f_cho_join_78_ok _ _ _ h) [2, 1, 0] rfl
set_option maxRecDepth 100000 in
theorem rx_e111 : rx_Ext none 111 := rx_Ext_plain (by decide +kernel)
set_option maxRecDepth 100000 in
set_option maxHeartbeats 4000000 in
theorem f_wis_add_ok {P : List Nat} {a0 : Int32} {a1 : Int32} {a2 : Int32} {a3 : Int32} {a4 : Int32} {a5 : Int32} {σ : rx_St} : ∀ o, f_wis_add a0 a1 a2 a3 a4 a5 σ = some o → rx_OK 111 [.ref 44, .int a0, .int a1, .int a2, .int a3, .int a4, .int a5] 162 [] P σ (none, rx_D P o) := by
  intro o h
  refine rx_OK_of (by decide) (Nat.le_of_ble_eq_true rfl) ?_
  refine rx_walk [] 2000 (by decide) rx_e111 ?_
  unfold f_wis_add at h
  refine rr_g h (fun c5 h => ?_)
  refine rr_if h (fun c8 h => ?_) (fun c8 h => ?_)
  · skip
    refine rr_g h (fun c21 h => ?_)
    refine rr_g h (fun c32 h => ?_)
    refine rr_g h (fun c40 h => ?_)
    refine rr_g h (fun c49 h => ?_)
    refine rr_g h (fun c58 h => ?_)
    refine rr_g h (fun c67 h => ?_)
    refine rr_g h (fun c74 h => ?_)
    refine rr_g h (fun c77 h => ?_)
    cases h
    exact And.intro (rfl) rfl
  · skip
    cases h
    exact And.intro (rfl) rfl
set_option maxRecDepth 100000 in
theorem rx_e30 : rx_Ext none 30 := rx_Ext_plain (by decide +kernel)
set_option maxRecDepth 100000 in
set_option maxHeartbeats 4000000 in
theorem f_cho_gather_80_ok_r0 {P : List Nat} {o : Int32 × rx_St} {k5 : Int32 → Int32 → Int32 → rx_St → Option (Int32 × rx_St)} (hk5 : ∀ (v2 : Int32) (v3 : Int32) (v4 : Int32) (σ : rx_St), k5 v2 v3 v4 σ = some o → rx_AtP none 30 5 [(0, .ref 51), (1, .ref 57), (2, .int v2), (3, .int v3), (4, .int v4)] [] (rx_D P σ) (some (.int o.1), rx_D P o.2)) : ∀ (v2 : Int32) (v3 : Int32) (v4 : Int32) (σ : rx_St), f_cho_gather_80 0 k5 v2 v3 v4 σ = some o → rx_AtP none 30 80 [(0, .ref 51), (1, .ref 57), (2, .int v2), (3, .int v3), (4, .int v4)] [] (rx_D P σ) (some (.int o.1), rx_D P o.2) := by
  intro v2 v3 v4 σ h
  refine rx_walk [5, 80] 2000 (by decide) rx_e30 ?_
  unfold f_cho_gather_80 at h
  exact rx_sub (hk5 _ _ _ _ h) [1, 2, 3, 4, 0] rfl
set_option maxRecDepth 100000 in
set_option maxHeartbeats 4000000 in
theorem f_cho_gather_5_ok_r0 {P : List Nat} {o : Int32 × rx_St} : ∀ (n : Nat) (v2 : Int32) (v3 : Int32) (v4 : Int32) (σ : rx_St), f_cho_gather_5 0 n v2 v3 v4 σ = some o → rx_AtP none 30 5 [(0, .ref 51), (1, .ref 57), (2, .int v2), (3, .int v3), (4, .int v4)] [] (rx_D P σ) (some (.int o.1), rx_D P o.2) := by
  intro n
  induction n with
  | zero => intro _ _ _ _ h; cases h
  | succ n ih =>
  intro v2 v3 v4 σ h
  refine rx_walk [5, 80] 2000 (by decide) rx_e30 ?_
  rw [f_cho_gather_5] at h
  refine rr_if h (fun c14 h => ?_) (fun c14 h => ?_)
  · skip
    cases h
    exact And.intro (trivial) rfl
  · skip
    refine rr_if h (fun c23 h => ?_) (fun c23 h => ?_)
    · skip
      exact rx_sub (f_cho_gather_80_ok_r0 ih _ _ _ _ h) [0, 1, 2, 3, 4] rfl
    · skip
      refine rr_g h (fun c32 h => ?_)
      refine rr_if h (fun c33 h => ?_) (fun c33 h => ?_)
      · skip
        refine rr_g h (fun c45 h => ?_)
        refine rr_if h (fun c47 h => ?_) (fun c47 h => ?_)
        · skip
          refine rr_g h (fun c56 h => ?_)
          refine rr_g h (fun c65 h => ?_)
          refine rr_if h (fun c66 h => ?_) (fun c66 h => ?_)
          · skip
            refine rr_g h (fun c76 h => ?_)
            exact rx_sub (f_cho_gather_80_ok_r0 ih _ _ _ _ h) [1, 2, 3, 0, 4] rfl
          · skip
            exact rx_sub (f_cho_gather_80_ok_r0 ih _ _ _ _ h) [0, 1, 2, 3, 4] rfl
        · skip
          exact rx_sub (f_cho_gather_80_ok_r0 ih _ _ _ _ h) [0, 1, 2, 3, 4] rfl
      · skip
        exact rx_sub (f_cho_gather_80_ok_r0 ih _ _ _ _ h) [0, 1, 2, 3, 4] rfl
set_option maxRecDepth 100000 in
set_option maxHeartbeats 4000000 in
theorem f_cho_gather_ok_r0 {P : List Nat} {a1 : Int32} {σ : rx_St} : ∀ o, f_cho_gather 0 a1 σ = some o → rx_OK 30 [.ref 51, .ref 57, .int a1] 162 [] P σ (some (.int o.1), rx_D P o.2) := by
  intro o h
  refine rx_OK_of (by decide) (Nat.le_of_ble_eq_true rfl) ?_
  refine rx_walk [5, 80] 2000 (by decide) rx_e30 ?_
  unfold f_cho_gather at h
  exact rx_sub (f_cho_gather_5_ok_r0 rx_fu _ _ _ _ h) [2, 3, 4, 1, 0] rfl
set_option maxRecDepth 100000 in
set_option maxHeartbeats 4000000 in
theorem f_cho_gather_80_ok_r1 {P : List Nat} {o : Int32 × rx_St} {k5 : Int32 → Int32 → Int32 → rx_St → Option (Int32 × rx_St)} (hk5 : ∀ (v2 : Int32) (v3 : Int32) (v4 : Int32) (σ : rx_St), k5 v2 v3 v4 σ = some o → rx_AtP none 30 5 [(0, .ref 51), (1, .ref 64), (2, .int v2), (3, .int v3), (4, .int v4)] [] (rx_D P σ) (some (.int o.1), rx_D P o.2)) : ∀ (v2 : Int32) (v3 : Int32) (v4 : Int32) (σ : rx_St), f_cho_gather_80 1 k5 v2 v3 v4 σ = some o → rx_AtP none 30 80 [(0, .ref 51), (1, .ref 64), (2, .int v2), (3, .int v3), (4, .int v4)] [] (rx_D P σ) (some (.int o.1), rx_D P o.2) := by
  intro v2 v3 v4 σ h
  refine rx_walk [5, 80] 2000 (by decide) rx_e30 ?_
  unfold f_cho_gather_80 at h
  exact rx_sub (hk5 _ _ _ _ h) [1, 2, 3, 4, 0] rfl
set_option maxRecDepth 100000 in
set_option maxHeartbeats 4000000 in
theorem f_cho_gather_5_ok_r1 {P : List Nat} {o : Int32 × rx_St} : ∀ (n : Nat) (v2 : Int32) (v3 : Int32) (v4 : Int32) (σ : rx_St), f_cho_gather_5 1 n v2 v3 v4 σ = some o → rx_AtP none 30 5 [(0, .ref 51), (1, .ref 64), (2, .int v2), (3, .int v3), (4, .int v4)] [] (rx_D P σ) (some (.int o.1), rx_D P o.2) := by
  intro n
  induction n with
  | zero => intro _ _ _ _ h; cases h
  | succ n ih =>
  intro v2 v3 v4 σ h
  refine rx_walk [5, 80] 2000 (by decide) rx_e30 ?_
  rw [f_cho_gather_5] at h
  refine rr_if h (fun c14 h => ?_) (fun c14 h => ?_)
  · skip
    cases h
    exact And.intro (trivial) rfl
  · skip
    refine rr_if h (fun c23 h => ?_) (fun c23 h => ?_)
    · skip
      exact rx_sub (f_cho_gather_80_ok_r1 ih _ _ _ _ h) [0, 1, 2, 3, 4] rfl
    · skip
      refine rr_g h (fun c32 h => ?_)
      refine rr_if h (fun c33 h => ?_) (fun c33 h => ?_)
      · skip
        refine rr_g h (fun c45 h => ?_)
        refine rr_if h (fun c47 h => ?_) (fun c47 h => ?_)
        · skip
          refine rr_g h (fun c56 h => ?_)
          refine rr_g h (fun c65 h => ?_)
          refine rr_if h (fun c66 h => ?_) (fun c66 h => ?_)
          · skip
            refine rr_g h (fun c76 h => ?_)
            exact rx_sub (f_cho_gather_80_ok_r1 ih _ _ _ _ h) [1, 2, 3, 0, 4] rfl
          · skip
            exact rx_sub (f_cho_gather_80_ok_r1 ih _ _ _ _ h) [0, 1, 2, 3, 4] rfl
        · skip
          exact rx_sub (f_cho_gather_80_ok_r1 ih _ _ _ _ h) [0, 1, 2, 3, 4] rfl
      · skip
        exact rx_sub (f_cho_gather_80_ok_r1 ih _ _ _ _ h) [0, 1, 2, 3, 4] rfl
set_option maxRecDepth 100000 in
set_option maxHeartbeats 4000000 in
theorem f_cho_gather_ok_r1 {P : List Nat} {a1 : Int32} {σ : rx_St} : ∀ o, f_cho_gather 1 a1 σ = some o → rx_OK 30 [.ref 51, .ref 64, .int a1] 162 [] P σ (some (.int o.1), rx_D P o.2) := by
  intro o h
  refine rx_OK_of (by decide) (Nat.le_of_ble_eq_true rfl) ?_
  refine rx_walk [5, 80] 2000 (by decide) rx_e30 ?_
  unfold f_cho_gather at h
  exact rx_sub (f_cho_gather_5_ok_r1 rx_fu _ _ _ _ h) [2, 3, 4, 1, 0] rfl
set_option maxRecDepth 100000 in
theorem rx_e159 : rx_Ext none 159 := rx_Ext_plain (by decide +kernel)
set_option maxRecDepth 100000 in
set_option maxHeartbeats 4000000 in
theorem f_c_dealLot_32_ok {P : List Nat} {σ : rx_St} {o : Int32} {k6 : Int32 → Int32 → Int32 → Int32 → Int32 → Int32 → Option (Int32)} (hk6 : ∀ (v1 : Int32) (v2 : Int32) (v3 : Int32) (v4 : Int32) (v5 : Int32) (v6 : Int32), k6 v1 v2 v3 v4 v5 v6 = some o → rx_AtP none 159 6 [(1, .int v1), (2, .int v2), (3, .int v3), (4, .int v4), (5, .int v5), (6, .int v6)] [] (rx_D P σ) (some (.int o), rx_D P σ)) : ∀ (v1 : Int32) (v2 : Int32) (v3 : Int32) (v4 : Int32) (v5 : Int32) (v6 : Int32) (s0 : Int32), f_c_dealLot_32 k6 v1 v2 v3 v4 v5 v6 s0 = some o → rx_AtP none 159 32 [(1, .int v1), (2, .int v2), (3, .int v3), (4, .int v4), (5, .int v5), (6, .int v6)] [.int s0] (rx_D P σ) (some (.int o), rx_D P σ) := by
  intro v1 v2 v3 v4 v5 v6 s0 h
  refine rx_walk [6, 32] 2000 (by decide) rx_e159 ?_
  unfold f_c_dealLot_32 at h
  exact rx_sub (hk6 _ _ _ _ _ _ h) [3, 4, 5, 6, 1, 0] rfl
set_option maxRecDepth 100000 in
set_option maxHeartbeats 4000000 in
theorem f_c_dealLot_6_ok {P : List Nat} {σ : rx_St} {o : Int32} : ∀ (n : Nat) (v1 : Int32) (v2 : Int32) (v3 : Int32) (v4 : Int32) (v5 : Int32) (v6 : Int32), f_c_dealLot_6 n v1 v2 v3 v4 v5 v6 = some o → rx_AtP none 159 6 [(1, .int v1), (2, .int v2), (3, .int v3), (4, .int v4), (5, .int v5), (6, .int v6)] [] (rx_D P σ) (some (.int o), rx_D P σ) := by
  intro n
  induction n with
  | zero => intro _ _ _ _ _ _ h; cases h
  | succ n ih =>
  intro v1 v2 v3 v4 v5 v6 h
  refine rx_walk [6, 32] 2000 (by decide) rx_e159 ?_
  rw [f_c_dealLot_6] at h
  refine rr_if h (fun c9 h => ?_) (fun c9 h => ?_)
  · skip
    refine rr_if h (fun c68 h => ?_) (fun c68 h => ?_)
    · skip
      refine rr_c h (fun c81 h => ?_)
      cases h
      exact And.intro (trivial) rfl
    · skip
      cases h
      exact And.intro (trivial) rfl
  · skip
    refine rr_if h (fun c14 h => ?_) (fun c14 h => ?_)
    · skip
      exact rx_sub (f_c_dealLot_32_ok ih _ _ _ _ _ _ _ h) [0, 1, 2, 3, 4, 5] rfl
    · skip
      refine rr_if h (fun c24 h => ?_) (fun c24 h => ?_)
      · skip
        exact rx_sub (f_c_dealLot_32_ok ih _ _ _ _ _ _ _ h) [0, 1, 2, 3, 4, 5] rfl
      · skip
        exact rx_sub (f_c_dealLot_32_ok ih _ _ _ _ _ _ _ h) [0, 1, 2, 3, 4, 5] rfl
set_option maxRecDepth 100000 in
set_option maxHeartbeats 4000000 in
theorem f_c_dealLot_ok {P : List Nat} {σ : rx_St} {a0 : Int32} {a1 : Int32} {a2 : Int32} {a3 : Int32} {a4 : Int32} : ∀ o, f_c_dealLot a0 a1 a2 a3 a4 = some o → rx_OK 159 [.int a0, .int a1, .int a2, .int a3, .int a4] 162 [] P σ (some (.int o), rx_D P σ) := by
  intro o h
  refine rx_OK_of (by decide) (Nat.le_of_ble_eq_true rfl) ?_
  refine rx_walk [6, 32] 2000 (by decide) rx_e159 ?_
  unfold f_c_dealLot at h
  exact rx_sub (f_c_dealLot_6_ok rx_fu _ _ _ _ _ _ h) [3, 4, 5, 6, 1, 0] rfl
set_option maxRecDepth 100000 in
theorem rx_e29 : rx_Ext none 29 := rx_Ext_plain (by decide +kernel)
set_option maxRecDepth 100000 in
set_option maxHeartbeats 4000000 in
theorem f_cho_wish_62_ok_r0 {P : List Nat} {o : rx_St} : ∀ (v2 : Int32) (v3 : Int32) (v6 : Int32) (σ : rx_St), f_cho_wish_62 0 v2 v3 v6 σ = some o → rx_AtP none 29 62 [(0, .ref 51), (2, .int v2), (3, .int v3), (6, .int v6)] [] (rx_D P σ) (none, rx_D P o) := by
  intro v2 v3 v6 σ h
  refine rx_walk [43, 62, 141, 172] 2000 (by decide) rx_e29 ?_
  unfold f_cho_wish_62 at h
  refine rr_callV h (fun y hy => f_wis_add_ok _ hy) (fun y1 hy1 h => ?_)
  cases h
  exact And.intro (rfl) rfl
set_option maxRecDepth 100000 in
set_option maxHeartbeats 4000000 in
theorem f_cho_wish_172_ok_r0 {P : List Nat} {o : rx_St} : ∀ (v4 : Int32) (s1 : Int32) (s2 : Int32) (s3 : Int32) (s4 : Int32) (s5 : Int32) (σ : rx_St), f_cho_wish_172 0 v4 s1 s2 s3 s4 s5 σ = some o → rx_AtP none 29 172 [(4, .int v4)] [.int s5, .int s4, .int s3, .int s2, .int s1, .ref 44] (rx_D P σ) (none, rx_D P o) := by
  intro v4 s1 s2 s3 s4 s5 σ h
  refine rx_walk [43, 62, 141, 172] 2000 (by decide) rx_e29 ?_
  unfold f_cho_wish_172 at h
  refine rr_ck ((by decide)) ?_
  refine rr_callV h (fun y hy => f_wis_add_ok _ hy) (fun y1 hy1 h => ?_)
  cases h
  exact And.intro (rfl) rfl
set_option maxRecDepth 100000 in
set_option maxHeartbeats 4000000 in
theorem f_cho_wish_141_ok_r0 {P : List Nat} {o : rx_St} : ∀ (v3 : Int32) (v4 : Int32) (v6 : Int32) (v7 : Int32) (v8 : Int32) (σ : rx_St), f_cho_wish_141 0 v3 v4 v6 v7 v8 σ = some o → rx_AtP none 29 141 [(0, .ref 51), (3, .int v3), (4, .int v4), (6, .int v6), (7, .int v7), (8, .int v8)] [] (rx_D P σ) (none, rx_D P o) := by
  intro v3 v4 v6 v7 v8 σ h
  refine rx_walk [43, 62, 141, 172] 2000 (by decide) rx_e29 ?_
  unfold f_cho_wish_141 at h
  refine rr_if h (fun c158 h => ?_) (fun c158 h => ?_)
  · skip
    exact rx_sub (f_cho_wish_172_ok_r0 _ _ _ _ _ _ _ h) [2] rfl
  · skip
    refine rr_g h (fun c167 h => ?_)
    exact rx_sub (f_cho_wish_172_ok_r0 _ _ _ _ _ _ _ h) [2] rfl
set_option maxRecDepth 100000 in
set_option maxHeartbeats 4000000 in
theorem f_cho_wish_43_ok_r0 {P : List Nat} {o : rx_St} : ∀ (v2 : Int32) (v3 : Int32) (v4 : Int32) (s0 : Int32) (σ : rx_St), f_cho_wish_43 0 v2 v3 v4 s0 σ = some o → rx_AtP none 29 43 [(0, .ref 51), (1, .ref 57), (2, .int v2), (3, .int v3), (4, .int v4)] [.int s0] (rx_D P σ) (none, rx_D P o) := by
  intro v2 v3 v4 s0 σ h
  refine rx_walk [43, 62, 141, 172] 2000 (by decide) rx_e29 ?_
  unfold f_cho_wish_43 at h
  refine rr_ck (Or.inl rfl) ?_
  refine rr_if h (fun c53 h => ?_) (fun c53 h => ?_)
  · skip
    exact rx_sub (f_cho_wish_62_ok_r0 _ _ _ _ h) [1, 3, 4, 0] rfl
  · skip
    refine rr_if h (fun c59 h => ?_) (fun c59 h => ?_)
    · skip
      exact rx_sub (f_cho_wish_62_ok_r0 _ _ _ _ h) [1, 3, 4, 0] rfl
    · skip
      refine rr_ck ((by decide)) ?_
      refine rr_callS h (fun y hy => f_cho_gather_ok_r0 _ hy) (fun y1 hy1 h => ?_)
      refine rr_if h (fun c98 h => ?_) (fun c98 h => ?_)
      · skip
        refine rr_if h (fun c103 h => ?_) (fun c103 h => ?_)
        · skip
          exact rx_sub (f_cho_wish_141_ok_r0 _ _ _ _ _ _ h) [3, 6, 7, 2, 1, 0] rfl
        · skip
          refine rr_callP h (fun y hy => f_c_dealLot_ok _ hy) (fun y2 hy2 h => ?_)
          exact rx_sub (f_cho_wish_141_ok_r0 _ _ _ _ _ _ h) [3, 6, 7, 2, 1, 0] rfl
      · skip
        exact rx_sub (f_cho_wish_141_ok_r0 _ _ _ _ _ _ h) [3, 6, 7, 2, 1, 0] rfl
set_option maxRecDepth 100000 in
set_option maxHeartbeats 4000000 in
theorem f_cho_wish_ok_r0 {P : List Nat} {a1 : Int32} {a2 : Int32} {a3 : Int32} {σ : rx_St} : ∀ o, f_cho_wish 0 a1 a2 a3 σ = some o → rx_OK 29 [.ref 51, .ref 57, .int a1, .int a2, .int a3] 162 [] P σ (none, rx_D P o) := by
  intro o h
  refine rx_OK_of (by decide) (Nat.le_of_ble_eq_true rfl) ?_
  refine rx_walk [43, 62, 141, 172] 2000 (by decide) rx_e29 ?_
  unfold f_cho_wish at h
  refine rr_if h (fun c3 h => ?_) (fun c3 h => ?_)
  · skip
    refine rr_callV h (fun y hy => f_wis_add_ok _ hy) (fun y1 hy1 h => ?_)
    cases h
    exact And.intro (rfl) rfl
  · skip
    refine rr_callS h (fun y hy => f_cho_pop_ok _ hy) (fun y2 hy2 h => ?_)
    refine rr_if h (fun c34 h => ?_) (fun c34 h => ?_)
    · skip
      exact rx_sub (f_cho_wish_43_ok_r0 _ _ _ _ _ h) [1, 2, 3, 4, 5] rfl
    · skip
      exact rx_sub (f_cho_wish_43_ok_r0 _ _ _ _ _ h) [1, 2, 3, 4, 5] rfl
set_option maxRecDepth 100000 in
set_option maxHeartbeats 4000000 in
theorem f_cho_wish_62_ok_r1 {P : List Nat} {o : rx_St} : ∀ (v2 : Int32) (v3 : Int32) (v6 : Int32) (σ : rx_St), f_cho_wish_62 1 v2 v3 v6 σ = some o → rx_AtP none 29 62 [(0, .ref 51), (2, .int v2), (3, .int v3), (6, .int v6)] [] (rx_D P σ) (none, rx_D P o) := by
  intro v2 v3 v6 σ h
  refine rx_walk [43, 62, 141, 172] 2000 (by decide) rx_e29 ?_
  unfold f_cho_wish_62 at h
  refine rr_callV h (fun y hy => f_wis_add_ok _ hy) (fun y1 hy1 h => ?_)
  cases h
  exact And.intro (rfl) rfl
set_option maxRecDepth 100000 in
set_option maxHeartbeats 4000000 in
theorem f_cho_wish_172_ok_r1 {P : List Nat} {o : rx_St} : ∀ (v4 : Int32) (s1 : Int32) (s2 : Int32) (s3 : Int32) (s4 : Int32) (s5 : Int32) (σ : rx_St), f_cho_wish_172 1 v4 s1 s2 s3 s4 s5 σ = some o → rx_AtP none 29 172 [(4, .int v4)] [.int s5, .int s4, .int s3, .int s2, .int s1, .ref 44] (rx_D P σ) (none, rx_D P o) := by
  intro v4 s1 s2 s3 s4 s5 σ h
  refine rx_walk [43, 62, 141, 172] 2000 (by decide) rx_e29 ?_
  unfold f_cho_wish_172 at h
  refine rr_ck ((by decide)) ?_
  refine rr_callV h (fun y hy => f_wis_add_ok _ hy) (fun y1 hy1 h => ?_)
  cases h
  exact And.intro (rfl) rfl
set_option maxRecDepth 100000 in
set_option maxHeartbeats 4000000 in
theorem f_cho_wish_141_ok_r1 {P : List Nat} {o : rx_St} : ∀ (v3 : Int32) (v4 : Int32) (v6 : Int32) (v7 : Int32) (v8 : Int32) (σ : rx_St), f_cho_wish_141 1 v3 v4 v6 v7 v8 σ = some o → rx_AtP none 29 141 [(0, .ref 51), (3, .int v3), (4, .int v4), (6, .int v6), (7, .int v7), (8, .int v8)] [] (rx_D P σ) (none, rx_D P o) := by
  intro v3 v4 v6 v7 v8 σ h
  refine rx_walk [43, 62, 141, 172] 2000 (by decide) rx_e29 ?_
  unfold f_cho_wish_141 at h
  refine rr_if h (fun c158 h => ?_) (fun c158 h => ?_)
  · skip
    exact rx_sub (f_cho_wish_172_ok_r1 _ _ _ _ _ _ _ h) [2] rfl
  · skip
    refine rr_g h (fun c167 h => ?_)
    exact rx_sub (f_cho_wish_172_ok_r1 _ _ _ _ _ _ _ h) [2] rfl
set_option maxRecDepth 100000 in
set_option maxHeartbeats 4000000 in
theorem f_cho_wish_43_ok_r1 {P : List Nat} {o : rx_St} : ∀ (v2 : Int32) (v3 : Int32) (v4 : Int32) (s0 : Int32) (σ : rx_St), f_cho_wish_43 1 v2 v3 v4 s0 σ = some o → rx_AtP none 29 43 [(0, .ref 51), (1, .ref 64), (2, .int v2), (3, .int v3), (4, .int v4)] [.int s0] (rx_D P σ) (none, rx_D P o) := by
  intro v2 v3 v4 s0 σ h
  refine rx_walk [43, 62, 141, 172] 2000 (by decide) rx_e29 ?_
  unfold f_cho_wish_43 at h
  refine rr_ck (Or.inl rfl) ?_
  refine rr_if h (fun c53 h => ?_) (fun c53 h => ?_)
  · skip
    exact rx_sub (f_cho_wish_62_ok_r1 _ _ _ _ h) [1, 3, 4, 0] rfl
  · skip
    refine rr_if h (fun c59 h => ?_) (fun c59 h => ?_)
    · skip
      exact rx_sub (f_cho_wish_62_ok_r1 _ _ _ _ h) [1, 3, 4, 0] rfl
    · skip
      refine rr_ck ((by decide)) ?_
      refine rr_callS h (fun y hy => f_cho_gather_ok_r1 _ hy) (fun y1 hy1 h => ?_)
      refine rr_if h (fun c98 h => ?_) (fun c98 h => ?_)
      · skip
        refine rr_if h (fun c103 h => ?_) (fun c103 h => ?_)
        · skip
          exact rx_sub (f_cho_wish_141_ok_r1 _ _ _ _ _ _ h) [3, 6, 7, 2, 1, 0] rfl
        · skip
          refine rr_callP h (fun y hy => f_c_dealLot_ok _ hy) (fun y2 hy2 h => ?_)
          exact rx_sub (f_cho_wish_141_ok_r1 _ _ _ _ _ _ h) [3, 6, 7, 2, 1, 0] rfl
      · skip
        exact rx_sub (f_cho_wish_141_ok_r1 _ _ _ _ _ _ h) [3, 6, 7, 2, 1, 0] rfl
set_option maxRecDepth 100000 in
set_option maxHeartbeats 4000000 in
theorem f_cho_wish_ok_r1 {P : List Nat} {a1 : Int32} {a2 : Int32} {a3 : Int32} {σ : rx_St} : ∀ o, f_cho_wish 1 a1 a2 a3 σ = some o → rx_OK 29 [.ref 51, .ref 64, .int a1, .int a2, .int a3] 162 [] P σ (none, rx_D P o) := by
  intro o h
  refine rx_OK_of (by decide) (Nat.le_of_ble_eq_true rfl) ?_
  refine rx_walk [43, 62, 141, 172] 2000 (by decide) rx_e29 ?_
  unfold f_cho_wish at h
  refine rr_if h (fun c3 h => ?_) (fun c3 h => ?_)
  · skip
    refine rr_callV h (fun y hy => f_wis_add_ok _ hy) (fun y1 hy1 h => ?_)
    cases h
    exact And.intro (rfl) rfl
  · skip
    refine rr_callS h (fun y hy => f_cho_pop_ok _ hy) (fun y2 hy2 h => ?_)
    refine rr_if h (fun c34 h => ?_) (fun c34 h => ?_)
    · skip
      exact rx_sub (f_cho_wish_43_ok_r1 _ _ _ _ _ h) [1, 2, 3, 4, 5] rfl
    · skip
      exact rx_sub (f_cho_wish_43_ok_r1 _ _ _ _ _ h) [1, 2, 3, 4, 5] rfl
set_option maxRecDepth 100000 in
theorem rx_e160 : rx_Ext none 160 := rx_Ext_plain (by decide +kernel)
set_option maxRecDepth 100000 in
set_option maxHeartbeats 4000000 in
theorem f_c_cell_58_ok_r0 {P : List Nat} {a1 : Int32} {σ : rx_St} : ∀ o, f_c_cell_58 0 a1 σ = some o → rx_OK 160 [.ref 58, .int a1] 162 [] P σ (some (.int o), rx_D P σ) := by
  intro o h
  refine rx_OK_of (by decide) (Nat.le_of_ble_eq_true rfl) ?_
  refine rx_walk [] 2000 (by decide) rx_e160 ?_
  unfold f_c_cell_58 at h
  refine rr_if h (fun c1 h => ?_) (fun c1 h => ?_)
  · skip
    cases h
    exact And.intro (trivial) rfl
  · skip
    refine rr_if h (fun c7 h => ?_) (fun c7 h => ?_)
    · skip
      cases h
      exact And.intro (trivial) rfl
    · skip
      refine rr_g h (fun c12 h => ?_)
      cases h
      exact And.intro (trivial) rfl
set_option maxRecDepth 100000 in
set_option maxHeartbeats 4000000 in
theorem f_c_cell_58_ok_r1 {P : List Nat} {a1 : Int32} {σ : rx_St} : ∀ o, f_c_cell_58 1 a1 σ = some o → rx_OK 160 [.ref 65, .int a1] 162 [] P σ (some (.int o), rx_D P σ) := by
  intro o h
  refine rx_OK_of (by decide) (Nat.le_of_ble_eq_true rfl) ?_
  refine rx_walk [] 2000 (by decide) rx_e160 ?_
  unfold f_c_cell_58 at h
  refine rr_if h (fun c1 h => ?_) (fun c1 h => ?_)
  · skip
    cases h
    exact And.intro (trivial) rfl
  · skip
    refine rr_if h (fun c7 h => ?_) (fun c7 h => ?_)
    · skip
      cases h
      exact And.intro (trivial) rfl
    · skip
      refine rr_g h (fun c12 h => ?_)
      cases h
      exact And.intro (trivial) rfl
set_option maxRecDepth 100000 in
set_option maxHeartbeats 4000000 in
theorem f_c_cell_59_ok_r0 {P : List Nat} {a1 : Int32} {σ : rx_St} : ∀ o, f_c_cell_59 0 a1 σ = some o → rx_OK 160 [.ref 59, .int a1] 162 [] P σ (some (.int o), rx_D P σ) := by
  intro o h
  refine rx_OK_of (by decide) (Nat.le_of_ble_eq_true rfl) ?_
  refine rx_walk [] 2000 (by decide) rx_e160 ?_
  unfold f_c_cell_59 at h
  refine rr_if h (fun c1 h => ?_) (fun c1 h => ?_)
  · skip
    cases h
    exact And.intro (trivial) rfl
  · skip
    refine rr_if h (fun c7 h => ?_) (fun c7 h => ?_)
    · skip
      cases h
      exact And.intro (trivial) rfl
    · skip
      refine rr_g h (fun c12 h => ?_)
      cases h
      exact And.intro (trivial) rfl
set_option maxRecDepth 100000 in
set_option maxHeartbeats 4000000 in
theorem f_c_cell_59_ok_r1 {P : List Nat} {a1 : Int32} {σ : rx_St} : ∀ o, f_c_cell_59 1 a1 σ = some o → rx_OK 160 [.ref 66, .int a1] 162 [] P σ (some (.int o), rx_D P σ) := by
  intro o h
  refine rx_OK_of (by decide) (Nat.le_of_ble_eq_true rfl) ?_
  refine rx_walk [] 2000 (by decide) rx_e160 ?_
  unfold f_c_cell_59 at h
  refine rr_if h (fun c1 h => ?_) (fun c1 h => ?_)
  · skip
    cases h
    exact And.intro (trivial) rfl
  · skip
    refine rr_if h (fun c7 h => ?_) (fun c7 h => ?_)
    · skip
      cases h
      exact And.intro (trivial) rfl
    · skip
      refine rr_g h (fun c12 h => ?_)
      cases h
      exact And.intro (trivial) rfl
set_option maxRecDepth 100000 in
set_option maxHeartbeats 4000000 in
theorem f_c_cell_53_ok {P : List Nat} {a1 : Int32} {σ : rx_St} : ∀ o, f_c_cell_53 a1 σ = some o → rx_OK 160 [.ref 53, .int a1] 162 [] P σ (some (.int o), rx_D P σ) := by
  intro o h
  refine rx_OK_of (by decide) (Nat.le_of_ble_eq_true rfl) ?_
  refine rx_walk [] 2000 (by decide) rx_e160 ?_
  unfold f_c_cell_53 at h
  refine rr_if h (fun c1 h => ?_) (fun c1 h => ?_)
  · skip
    cases h
    exact And.intro (trivial) rfl
  · skip
    refine rr_if h (fun c7 h => ?_) (fun c7 h => ?_)
    · skip
      cases h
      exact And.intro (trivial) rfl
    · skip
      refine rr_g h (fun c12 h => ?_)
      cases h
      exact And.intro (trivial) rfl
set_option maxRecDepth 100000 in
set_option maxHeartbeats 4000000 in
theorem f_c_cell_54_ok {P : List Nat} {a1 : Int32} {σ : rx_St} : ∀ o, f_c_cell_54 a1 σ = some o → rx_OK 160 [.ref 54, .int a1] 162 [] P σ (some (.int o), rx_D P σ) := by
  intro o h
  refine rx_OK_of (by decide) (Nat.le_of_ble_eq_true rfl) ?_
  refine rx_walk [] 2000 (by decide) rx_e160 ?_
  unfold f_c_cell_54 at h
  refine rr_if h (fun c1 h => ?_) (fun c1 h => ?_)
  · skip
    cases h
    exact And.intro (trivial) rfl
  · skip
    refine rr_if h (fun c7 h => ?_) (fun c7 h => ?_)
    · skip
      cases h
      exact And.intro (trivial) rfl
    · skip
      refine rr_g h (fun c12 h => ?_)
      cases h
      exact And.intro (trivial) rfl
set_option maxRecDepth 100000 in
set_option maxHeartbeats 4000000 in
theorem f_c_cell_52_ok {P : List Nat} {a1 : Int32} {σ : rx_St} : ∀ o, f_c_cell_52 a1 σ = some o → rx_OK 160 [.ref 52, .int a1] 162 [] P σ (some (.int o), rx_D P σ) := by
  intro o h
  refine rx_OK_of (by decide) (Nat.le_of_ble_eq_true rfl) ?_
  refine rx_walk [] 2000 (by decide) rx_e160 ?_
  unfold f_c_cell_52 at h
  refine rr_if h (fun c1 h => ?_) (fun c1 h => ?_)
  · skip
    cases h
    exact And.intro (trivial) rfl
  · skip
    refine rr_if h (fun c7 h => ?_) (fun c7 h => ?_)
    · skip
      cases h
      exact And.intro (trivial) rfl
    · skip
      refine rr_g h (fun c12 h => ?_)
      cases h
      exact And.intro (trivial) rfl
set_option maxRecDepth 100000 in
theorem rx_e28 : rx_Ext none 28 := rx_Ext_plain (by decide +kernel)
set_option maxRecDepth 100000 in
set_option maxHeartbeats 4000000 in
theorem f_cho_unit_ok_r0 {P : List Nat} {a1 : Int32} {a2 : Int32} {a3 : Int32} {σ : rx_St} : ∀ o, f_cho_unit 0 a1 a2 a3 σ = some o → rx_OK 28 [.ref 51, .ref 57, .int a1, .int a2, .int a3] 162 [] P σ (some (.int o.1), rx_D P o.2) := by
  intro o h
  refine rx_OK_of (by decide) (Nat.le_of_ble_eq_true rfl) ?_
  refine rx_walk [] 2000 (by decide) rx_e28 ?_
  unfold f_cho_unit at h
  refine rr_g h (fun c8 h => ?_)
  refine rr_if h (fun c12_0 h => ?_) (fun c12_0 h => ?_)
  · skip
    cases h
    exact And.intro (trivial) rfl
  · skip
    refine rr_if h (fun c12_1 h => ?_) (fun c12_1 h => ?_)
    · skip
      refine rr_callP h (fun y hy => f_c_cell_52_ok _ hy) (fun y7 hy7 h => ?_)
      cases h
      exact And.intro (trivial) rfl
    · skip
      refine rr_if h (fun c12_2 h => ?_) (fun c12_2 h => ?_)
      · skip
        cases h
        exact And.intro (trivial) rfl
      · skip
        refine rr_if h (fun c12_3 h => ?_) (fun c12_3 h => ?_)
        · skip
          refine rr_callP h (fun y hy => f_c_dealLot_ok _ hy) (fun y6 hy6 h => ?_)
          cases h
          exact And.intro (trivial) rfl
        · skip
          refine rr_if h (fun c12_4 h => ?_) (fun c12_4 h => ?_)
          · skip
            refine rr_callP h (fun y hy => f_c_cell_54_ok _ hy) (fun y5 hy5 h => ?_)
            cases h
            exact And.intro (trivial) rfl
          · skip
            refine rr_if h (fun c12_5 h => ?_) (fun c12_5 h => ?_)
            · skip
              refine rr_callP h (fun y hy => f_c_cell_53_ok _ hy) (fun y4 hy4 h => ?_)
              cases h
              exact And.intro (trivial) rfl
            · skip
              refine rr_if h (fun c12_6 h => ?_) (fun c12_6 h => ?_)
              · skip
                cases h
                exact And.intro (trivial) rfl
              · skip
                refine rr_if h (fun c12_7 h => ?_) (fun c12_7 h => ?_)
                · skip
                  cases h
                  exact And.intro (trivial) rfl
                · skip
                  refine rr_if h (fun c12_8 h => ?_) (fun c12_8 h => ?_)
                  · skip
                    cases h
                    exact And.intro (trivial) rfl
                  · skip
                    refine rr_if h (fun c12_9 h => ?_) (fun c12_9 h => ?_)
                    · skip
                      cases h
                      exact And.intro (trivial) rfl
                    · skip
                      refine rr_if h (fun c12_10 h => ?_) (fun c12_10 h => ?_)
                      · skip
                        cases h
                        exact And.intro (trivial) rfl
                      · skip
                        refine rr_if h (fun c12_11 h => ?_) (fun c12_11 h => ?_)
                        · skip
                          cases h
                          exact And.intro (trivial) rfl
                        · skip
                          refine rr_if h (fun c12_12 h => ?_) (fun c12_12 h => ?_)
                          · skip
                            cases h
                            exact And.intro (trivial) rfl
                          · skip
                            refine rr_if h (fun c12_13 h => ?_) (fun c12_13 h => ?_)
                            · skip
                              cases h
                              exact And.intro (trivial) rfl
                            · skip
                              refine rr_if h (fun c12_14 h => ?_) (fun c12_14 h => ?_)
                              · skip
                                cases h
                                exact And.intro (trivial) rfl
                              · skip
                                refine rr_if h (fun c12_15 h => ?_) (fun c12_15 h => ?_)
                                · skip
                                  cases h
                                  exact And.intro (trivial) rfl
                                · skip
                                  refine rr_if h (fun c12_16 h => ?_) (fun c12_16 h => ?_)
                                  · skip
                                    cases h
                                    exact And.intro (trivial) rfl
                                  · skip
                                    refine rr_if h (fun c12_17 h => ?_) (fun c12_17 h => ?_)
                                    · skip
                                      cases h
                                      exact And.intro (trivial) rfl
                                    · skip
                                      refine rr_if h (fun c12_18 h => ?_) (fun c12_18 h => ?_)
                                      · skip
                                        cases h
                                        exact And.intro (trivial) rfl
                                      · skip
                                        refine rr_if h (fun c12_19 h => ?_) (fun c12_19 h => ?_)
                                        · skip
                                          cases h
                                          exact And.intro (trivial) rfl
                                        · skip
                                          refine rr_if h (fun c12_20 h => ?_) (fun c12_20 h => ?_)
                                          · skip
                                            cases h
                                            exact And.intro (trivial) rfl
                                          · skip
                                            refine rr_if h (fun c12_21 h => ?_) (fun c12_21 h => ?_)
                                            · skip
                                              cases h
                                              exact And.intro (trivial) rfl
                                            · skip
                                              refine rr_if h (fun c12_22 h => ?_) (fun c12_22 h => ?_)
                                              · skip
                                                refine rr_callP h (fun y hy => f_c_cell_59_ok_r0 _ hy) (fun y3 hy3 h => ?_)
                                                cases h
                                                exact And.intro (trivial) rfl
                                              · skip
                                                refine rr_if h (fun c12_23 h => ?_) (fun c12_23 h => ?_)
                                                · skip
                                                  refine rr_callP h (fun y hy => f_c_cell_58_ok_r0 _ hy) (fun y2 hy2 h => ?_)
                                                  cases h
                                                  exact And.intro (trivial) rfl
                                                · skip
                                                  cases h
                                                  exact And.intro (trivial) rfl
set_option maxRecDepth 100000 in
set_option maxHeartbeats 4000000 in
theorem f_cho_unit_ok_r1 {P : List Nat} {a1 : Int32} {a2 : Int32} {a3 : Int32} {σ : rx_St} : ∀ o, f_cho_unit 1 a1 a2 a3 σ = some o → rx_OK 28 [.ref 51, .ref 64, .int a1, .int a2, .int a3] 162 [] P σ (some (.int o.1), rx_D P o.2) := by
  intro o h
  refine rx_OK_of (by decide) (Nat.le_of_ble_eq_true rfl) ?_
  refine rx_walk [] 2000 (by decide) rx_e28 ?_
  unfold f_cho_unit at h
  refine rr_g h (fun c8 h => ?_)
  refine rr_if h (fun c12_0 h => ?_) (fun c12_0 h => ?_)
  · skip
    cases h
    exact And.intro (trivial) rfl
  · skip
    refine rr_if h (fun c12_1 h => ?_) (fun c12_1 h => ?_)
    · skip
      refine rr_callP h (fun y hy => f_c_cell_52_ok _ hy) (fun y7 hy7 h => ?_)
      cases h
      exact And.intro (trivial) rfl
    · skip
      refine rr_if h (fun c12_2 h => ?_) (fun c12_2 h => ?_)
      · skip
        cases h
        exact And.intro (trivial) rfl
      · skip
        refine rr_if h (fun c12_3 h => ?_) (fun c12_3 h => ?_)
        · skip
          refine rr_callP h (fun y hy => f_c_dealLot_ok _ hy) (fun y6 hy6 h => ?_)
          cases h
          exact And.intro (trivial) rfl
        · skip
          refine rr_if h (fun c12_4 h => ?_) (fun c12_4 h => ?_)
          · skip
            refine rr_callP h (fun y hy => f_c_cell_54_ok _ hy) (fun y5 hy5 h => ?_)
            cases h
            exact And.intro (trivial) rfl
          · skip
            refine rr_if h (fun c12_5 h => ?_) (fun c12_5 h => ?_)
            · skip
              refine rr_callP h (fun y hy => f_c_cell_53_ok _ hy) (fun y4 hy4 h => ?_)
              cases h
              exact And.intro (trivial) rfl
            · skip
              refine rr_if h (fun c12_6 h => ?_) (fun c12_6 h => ?_)
              · skip
                cases h
                exact And.intro (trivial) rfl
              · skip
                refine rr_if h (fun c12_7 h => ?_) (fun c12_7 h => ?_)
                · skip
                  cases h
                  exact And.intro (trivial) rfl
                · skip
                  refine rr_if h (fun c12_8 h => ?_) (fun c12_8 h => ?_)
                  · skip
                    cases h
                    exact And.intro (trivial) rfl
                  · skip
                    refine rr_if h (fun c12_9 h => ?_) (fun c12_9 h => ?_)
                    · skip
                      cases h
                      exact And.intro (trivial) rfl
                    · skip
                      refine rr_if h (fun c12_10 h => ?_) (fun c12_10 h => ?_)
                      · skip
                        cases h
                        exact And.intro (trivial) rfl
                      · skip
                        refine rr_if h (fun c12_11 h => ?_) (fun c12_11 h => ?_)
                        · skip
                          cases h
                          exact And.intro (trivial) rfl
                        · skip
                          refine rr_if h (fun c12_12 h => ?_) (fun c12_12 h => ?_)
                          · skip
                            cases h
                            exact And.intro (trivial) rfl
                          · skip
                            refine rr_if h (fun c12_13 h => ?_) (fun c12_13 h => ?_)
                            · skip
                              cases h
                              exact And.intro (trivial) rfl
                            · skip
                              refine rr_if h (fun c12_14 h => ?_) (fun c12_14 h => ?_)
                              · skip
                                cases h
                                exact And.intro (trivial) rfl
                              · skip
                                refine rr_if h (fun c12_15 h => ?_) (fun c12_15 h => ?_)
                                · skip
                                  cases h
                                  exact And.intro (trivial) rfl
                                · skip
                                  refine rr_if h (fun c12_16 h => ?_) (fun c12_16 h => ?_)
                                  · skip
                                    cases h
                                    exact And.intro (trivial) rfl
                                  · skip
                                    refine rr_if h (fun c12_17 h => ?_) (fun c12_17 h => ?_)
                                    · skip
                                      cases h
                                      exact And.intro (trivial) rfl
                                    · skip
                                      refine rr_if h (fun c12_18 h => ?_) (fun c12_18 h => ?_)
                                      · skip
                                        cases h
                                        exact And.intro (trivial) rfl
                                      · skip
                                        refine rr_if h (fun c12_19 h => ?_) (fun c12_19 h => ?_)
                                        · skip
                                          cases h
                                          exact And.intro (trivial) rfl
                                        · skip
                                          refine rr_if h (fun c12_20 h => ?_) (fun c12_20 h => ?_)
                                          · skip
                                            cases h
                                            exact And.intro (trivial) rfl
                                          · skip
                                            refine rr_if h (fun c12_21 h => ?_) (fun c12_21 h => ?_)
                                            · skip
                                              cases h
                                              exact And.intro (trivial) rfl
                                            · skip
                                              refine rr_if h (fun c12_22 h => ?_) (fun c12_22 h => ?_)
                                              · skip
                                                refine rr_callP h (fun y hy => f_c_cell_59_ok_r1 _ hy) (fun y3 hy3 h => ?_)
                                                cases h
                                                exact And.intro (trivial) rfl
                                              · skip
                                                refine rr_if h (fun c12_23 h => ?_) (fun c12_23 h => ?_)
                                                · skip
                                                  refine rr_callP h (fun y hy => f_c_cell_58_ok_r1 _ hy) (fun y2 hy2 h => ?_)
                                                  cases h
                                                  exact And.intro (trivial) rfl
                                                · skip
                                                  cases h
                                                  exact And.intro (trivial) rfl
set_option maxRecDepth 100000 in
theorem rx_e23 : rx_Ext none 23 := rx_Ext_plain (by decide +kernel)
set_option maxRecDepth 100000 in
set_option maxHeartbeats 4000000 in
theorem f_cho_choose_346_ok_r0w1 {p0 p1 p2 p3 : Nat} {o : rx_St} {k78 : Int32 → Int32 → rx_St → Option (rx_St)} (hk78 : ∀ (v5 : Int32) (v7 : Int32) (σ : rx_St), k78 v5 v7 σ = some o → rx_AtP none 23 78 [(0, .ref 51), (1, .ref 57), (3, .ref 21), (5, .int v5), (7, .int v7)] [] (rx_D [p0, p1, p2, p3, 21] σ) (none, rx_D [p0, p1, p2, p3, 21] o)) : ∀ (v5 : Int32) (v6 : Int32) (σ : rx_St), f_cho_choose_346 0 1 k78 v5 v6 σ = some o → rx_AtP none 23 346 [(0, .ref 51), (1, .ref 57), (3, .ref 21), (5, .int v5), (6, .int v6)] [] (rx_D [p0, p1, p2, p3, 21] σ) (none, rx_D [p0, p1, p2, p3, 21] o) := by
  intro v5 v6 σ h
  refine rx_walk [78, 244, 266, 293, 307, 326, 346] 2000 (by decide) rx_e23 ?_
  unfold f_cho_choose_346 at h
  exact rx_sub (hk78 _ _ _ h) [1, 2, 3, 4, 0] rfl
set_option maxRecDepth 100000 in
set_option maxHeartbeats 4000000 in
theorem f_cho_choose_307_ok_r0w1 {p0 p1 p2 p3 : Nat} {o : rx_St} {k78 : Int32 → Int32 → rx_St → Option (rx_St)} (hk78 : ∀ (v5 : Int32) (v7 : Int32) (σ : rx_St), k78 v5 v7 σ = some o → rx_AtP none 23 78 [(0, .ref 51), (1, .ref 57), (3, .ref 21), (5, .int v5), (7, .int v7)] [] (rx_D [p0, p1, p2, p3, 21] σ) (none, rx_D [p0, p1, p2, p3, 21] o)) : ∀ (v5 : Int32) (v6 : Int32) (v7 : Int32) (v8 : Int32) (v9 : Int32) (σ : rx_St), f_cho_choose_307 0 1 k78 v5 v6 v7 v8 v9 σ = some o → rx_AtP none 23 307 [(0, .ref 51), (1, .ref 57), (3, .ref 21), (5, .int v5), (6, .int v6), (7, .int v7), (8, .int v8), (9, .int v9)] [] (rx_D [p0, p1, p2, p3, 21] σ) (none, rx_D [p0, p1, p2, p3, 21] o) := by
  intro v5 v6 v7 v8 v9 σ h
  refine rx_walk [78, 244, 266, 293, 307, 326, 346] 2000 (by decide) rx_e23 ?_
  unfold f_cho_choose_307 at h
  refine rr_g h (fun c315 h => ?_)
  refine rr_callV h (fun y hy => f_cho_wish_ok_r0 _ hy) (fun y1 hy1 h => ?_)
  exact rx_sub (f_cho_choose_346_ok_r0w1 hk78 _ _ _ h) [0, 1, 2, 3, 4] rfl
set_option maxRecDepth 100000 in
set_option maxHeartbeats 4000000 in
theorem f_cho_choose_326_ok_r0w1 {p0 p1 p2 p3 : Nat} {o : rx_St} {k78 : Int32 → Int32 → rx_St → Option (rx_St)} (hk78 : ∀ (v5 : Int32) (v7 : Int32) (σ : rx_St), k78 v5 v7 σ = some o → rx_AtP none 23 78 [(0, .ref 51), (1, .ref 57), (3, .ref 21), (5, .int v5), (7, .int v7)] [] (rx_D [p0, p1, p2, p3, 21] σ) (none, rx_D [p0, p1, p2, p3, 21] o)) : ∀ (v5 : Int32) (v6 : Int32) (v7 : Int32) (v8 : Int32) (v9 : Int32) (σ : rx_St), f_cho_choose_326 0 1 k78 v5 v6 v7 v8 v9 σ = some o → rx_AtP none 23 326 [(0, .ref 51), (1, .ref 57), (3, .ref 21), (5, .int v5), (6, .int v6), (7, .int v7), (8, .int v8), (9, .int v9)] [] (rx_D [p0, p1, p2, p3, 21] σ) (none, rx_D [p0, p1, p2, p3, 21] o) := by
  intro v5 v6 v7 v8 v9 σ h
  refine rx_walk [78, 244, 266, 293, 307, 326, 346] 2000 (by decide) rx_e23 ?_
  unfold f_cho_choose_326 at h
  refine rr_g h (fun c335 h => ?_)
  refine rr_callS h (fun y hy => f_cho_unit_ok_r0 _ hy) (fun y1 hy1 h => ?_)
  refine rr_callV h (fun y hy => f_cho_push_ok _ hy) (fun y2 hy2 h => ?_)
  exact rx_sub (f_cho_choose_346_ok_r0w1 hk78 _ _ _ h) [0, 1, 2, 3, 4] rfl
set_option maxRecDepth 100000 in
set_option maxHeartbeats 4000000 in
theorem f_cho_choose_293_ok_r0w1 {p0 p1 p2 p3 : Nat} {o : rx_St} {k78 : Int32 → Int32 → rx_St → Option (rx_St)} (hk78 : ∀ (v5 : Int32) (v7 : Int32) (σ : rx_St), k78 v5 v7 σ = some o → rx_AtP none 23 78 [(0, .ref 51), (1, .ref 57), (3, .ref 21), (5, .int v5), (7, .int v7)] [] (rx_D [p0, p1, p2, p3, 21] σ) (none, rx_D [p0, p1, p2, p3, 21] o)) : ∀ (v5 : Int32) (v6 : Int32) (v7 : Int32) (σ : rx_St), f_cho_choose_293 0 1 k78 v5 v6 v7 σ = some o → rx_AtP none 23 293 [(0, .ref 51), (1, .ref 57), (3, .ref 21), (5, .int v5), (6, .int v6), (7, .int v7)] [] (rx_D [p0, p1, p2, p3, 21] σ) (none, rx_D [p0, p1, p2, p3, 21] o) := by
  intro v5 v6 v7 σ h
  refine rx_walk [78, 244, 266, 293, 307, 326, 346] 2000 (by decide) rx_e23 ?_
  unfold f_cho_choose_293 at h
  refine rr_g h (fun c300 h => ?_)
  refine rr_callV h (fun y hy => f_cho_join_ok _ hy) (fun y1 hy1 h => ?_)
  exact rx_sub (f_cho_choose_346_ok_r0w1 hk78 _ _ _ h) [0, 1, 2, 3, 4] rfl
set_option maxRecDepth 100000 in
set_option maxHeartbeats 4000000 in
theorem f_cho_choose_266_ok_r0w1 {p0 p1 p2 p3 : Nat} {o : rx_St} {k78 : Int32 → Int32 → rx_St → Option (rx_St)} (hk78 : ∀ (v5 : Int32) (v7 : Int32) (σ : rx_St), k78 v5 v7 σ = some o → rx_AtP none 23 78 [(0, .ref 51), (1, .ref 57), (3, .ref 21), (5, .int v5), (7, .int v7)] [] (rx_D [p0, p1, p2, p3, 21] σ) (none, rx_D [p0, p1, p2, p3, 21] o)) : ∀ (v5 : Int32) (v6 : Int32) (v9 : Int32) (s0 : Int32) (s1 : Int32) (σ : rx_St), f_cho_choose_266 0 1 k78 v5 v6 v9 s0 s1 σ = some o → rx_AtP none 23 266 [(0, .ref 51), (1, .ref 57), (3, .ref 21), (5, .int v5), (6, .int v6), (9, .int v9)] [.int s1, .int s0] (rx_D [p0, p1, p2, p3, 21] σ) (none, rx_D [p0, p1, p2, p3, 21] o) := by
  intro v5 v6 v9 s0 s1 σ h
  refine rx_walk [78, 244, 266, 293, 307, 326, 346] 2000 (by decide) rx_e23 ?_
  unfold f_cho_choose_266 at h
  refine rr_if h (fun c266 h => ?_) (fun c266 h => ?_)
  · skip
    refine rr_callT (f_j_max_ok _ rfl) ?_
    exact rx_sub (f_cho_choose_346_ok_r0w1 hk78 _ _ _ h) [1, 2, 3, 4, 0] rfl
  · skip
    exact rx_sub (f_cho_choose_346_ok_r0w1 hk78 _ _ _ h) [0, 1, 2, 3, 4] rfl
set_option maxRecDepth 100000 in
set_option maxHeartbeats 4000000 in
theorem f_cho_choose_244_ok_r0w1 {p0 p1 p2 p3 : Nat} {o : rx_St} {k78 : Int32 → Int32 → rx_St → Option (rx_St)} (hk78 : ∀ (v5 : Int32) (v7 : Int32) (σ : rx_St), k78 v5 v7 σ = some o → rx_AtP none 23 78 [(0, .ref 51), (1, .ref 57), (3, .ref 21), (5, .int v5), (7, .int v7)] [] (rx_D [p0, p1, p2, p3, 21] σ) (none, rx_D [p0, p1, p2, p3, 21] o)) : ∀ (v5 : Int32) (v6 : Int32) (v7 : Int32) (v8 : Int32) (v9 : Int32) (σ : rx_St), f_cho_choose_244 0 1 k78 v5 v6 v7 v8 v9 σ = some o → rx_AtP none 23 244 [(0, .ref 51), (1, .ref 57), (3, .ref 21), (5, .int v5), (6, .int v6), (7, .int v7), (8, .int v8), (9, .int v9)] [] (rx_D [p0, p1, p2, p3, 21] σ) (none, rx_D [p0, p1, p2, p3, 21] o) := by
  intro v5 v6 v7 v8 v9 σ h
  refine rx_walk [78, 244, 266, 293, 307, 326, 346] 2000 (by decide) rx_e23 ?_
  unfold f_cho_choose_244 at h
  refine rr_g h (fun c251 h => ?_)
  refine rr_callS h (fun y hy => f_cho_holds_ok _ hy) (fun y1 hy1 h => ?_)
  refine rr_if h (fun c258 h => ?_) (fun c258 h => ?_)
  · skip
    exact rx_sub (f_cho_choose_266_ok_r0w1 hk78 _ _ _ _ _ _ h) [0, 1, 2, 3, 4, 7] rfl
  · skip
    exact rx_sub (f_cho_choose_266_ok_r0w1 hk78 _ _ _ _ _ _ h) [0, 1, 2, 3, 4, 7] rfl
set_option maxRecDepth 100000 in
set_option maxHeartbeats 4000000 in
theorem f_cho_choose_78_ok_r0w1 {p0 p1 p2 p3 : Nat} {o : rx_St} : ∀ (n : Nat) (v5 : Int32) (v7 : Int32) (σ : rx_St), f_cho_choose_78 0 1 n v5 v7 σ = some o → rx_AtP none 23 78 [(0, .ref 51), (1, .ref 57), (3, .ref 21), (5, .int v5), (7, .int v7)] [] (rx_D [p0, p1, p2, p3, 21] σ) (none, rx_D [p0, p1, p2, p3, 21] o) := by
  intro n
  induction n with
  | zero => intro _ _ _ h; cases h
  | succ n ih =>
  intro v5 v7 σ h
  refine rx_walk [78, 244, 266, 293, 307, 326, 346] 2000 (by decide) rx_e23 ?_
  rw [f_cho_choose_78] at h
  refine rr_if h (fun c82 h => ?_) (fun c82 h => ?_)
  · skip
    cases h
    exact And.intro (rfl) rfl
  · skip
    refine rr_g h (fun c97 h => ?_)
    refine rr_g h (fun c106 h => ?_)
    refine rr_g h (fun c115 h => ?_)
    refine rr_if h (fun c116_0 h => ?_) (fun c116_0 h => ?_)
    · skip
      exact rx_sub (f_cho_choose_307_ok_r0w1 ih _ _ _ _ _ _ h) [3, 4, 5, 6, 2, 7, 1, 0] rfl
    · skip
      refine rr_if h (fun c116_1 h => ?_) (fun c116_1 h => ?_)
      · skip
        exact rx_sub (f_cho_choose_307_ok_r0w1 ih _ _ _ _ _ _ h) [3, 4, 5, 6, 2, 7, 1, 0] rfl
      · skip
        refine rr_if h (fun c116_2 h => ?_) (fun c116_2 h => ?_)
        · skip
          exact rx_sub (f_cho_choose_326_ok_r0w1 ih _ _ _ _ _ _ h) [3, 4, 5, 6, 2, 7, 1, 0] rfl
        · skip
          refine rr_if h (fun c116_3 h => ?_) (fun c116_3 h => ?_)
          · skip
            exact rx_sub (f_cho_choose_326_ok_r0w1 ih _ _ _ _ _ _ h) [3, 4, 5, 6, 2, 7, 1, 0] rfl
          · skip
            refine rr_if h (fun c116_4 h => ?_) (fun c116_4 h => ?_)
            · skip
              exact rx_sub (f_cho_choose_307_ok_r0w1 ih _ _ _ _ _ _ h) [3, 4, 5, 6, 2, 7, 1, 0] rfl
            · skip
              refine rr_if h (fun c116_5 h => ?_) (fun c116_5 h => ?_)
              · skip
                exact rx_sub (f_cho_choose_307_ok_r0w1 ih _ _ _ _ _ _ h) [3, 4, 5, 6, 2, 7, 1, 0] rfl
              · skip
                refine rr_if h (fun c116_6 h => ?_) (fun c116_6 h => ?_)
                · skip
                  exact rx_sub (f_cho_choose_307_ok_r0w1 ih _ _ _ _ _ _ h) [3, 4, 5, 6, 2, 7, 1, 0] rfl
                · skip
                  refine rr_if h (fun c116_7 h => ?_) (fun c116_7 h => ?_)
                  · skip
                    refine rr_callT (f_j_max_ok _ rfl) ?_
                    exact rx_sub (f_cho_choose_346_ok_r0w1 ih _ _ _ h) [3, 4, 5, 6, 0] rfl
                  · skip
                    refine rr_if h (fun c116_8 h => ?_) (fun c116_8 h => ?_)
                    · skip
                      exact rx_sub (f_cho_choose_326_ok_r0w1 ih _ _ _ _ _ _ h) [3, 4, 5, 6, 2, 7, 1, 0] rfl
                    · skip
                      refine rr_if h (fun c116_9 h => ?_) (fun c116_9 h => ?_)
                      · skip
                        exact rx_sub (f_cho_choose_326_ok_r0w1 ih _ _ _ _ _ _ h) [3, 4, 5, 6, 2, 7, 1, 0] rfl
                      · skip
                        refine rr_if h (fun c116_10 h => ?_) (fun c116_10 h => ?_)
                        · skip
                          exact rx_sub (f_cho_choose_326_ok_r0w1 ih _ _ _ _ _ _ h) [3, 4, 5, 6, 2, 7, 1, 0] rfl
                        · skip
                          refine rr_if h (fun c116_11 h => ?_) (fun c116_11 h => ?_)
                          · skip
                            exact rx_sub (f_cho_choose_326_ok_r0w1 ih _ _ _ _ _ _ h) [3, 4, 5, 6, 2, 7, 1, 0] rfl
                          · skip
                            refine rr_if h (fun c116_12 h => ?_) (fun c116_12 h => ?_)
                            · skip
                              exact rx_sub (f_cho_choose_326_ok_r0w1 ih _ _ _ _ _ _ h) [3, 4, 5, 6, 2, 7, 1, 0] rfl
                            · skip
                              refine rr_if h (fun c116_13 h => ?_) (fun c116_13 h => ?_)
                              · skip
                                exact rx_sub (f_cho_choose_326_ok_r0w1 ih _ _ _ _ _ _ h) [3, 4, 5, 6, 2, 7, 1, 0] rfl
                              · skip
                                refine rr_if h (fun c116_14 h => ?_) (fun c116_14 h => ?_)
                                · skip
                                  exact rx_sub (f_cho_choose_326_ok_r0w1 ih _ _ _ _ _ _ h) [3, 4, 5, 6, 2, 7, 1, 0] rfl
                                · skip
                                  refine rr_if h (fun c116_15 h => ?_) (fun c116_15 h => ?_)
                                  · skip
                                    exact rx_sub (f_cho_choose_326_ok_r0w1 ih _ _ _ _ _ _ h) [3, 4, 5, 6, 2, 7, 1, 0] rfl
                                  · skip
                                    refine rr_if h (fun c116_16 h => ?_) (fun c116_16 h => ?_)
                                    · skip
                                      exact rx_sub (f_cho_choose_326_ok_r0w1 ih _ _ _ _ _ _ h) [3, 4, 5, 6, 2, 7, 1, 0] rfl
                                    · skip
                                      refine rr_if h (fun c116_17 h => ?_) (fun c116_17 h => ?_)
                                      · skip
                                        exact rx_sub (f_cho_choose_326_ok_r0w1 ih _ _ _ _ _ _ h) [3, 4, 5, 6, 2, 7, 1, 0] rfl
                                      · skip
                                        refine rr_if h (fun c116_18 h => ?_) (fun c116_18 h => ?_)
                                        · skip
                                          exact rx_sub (f_cho_choose_326_ok_r0w1 ih _ _ _ _ _ _ h) [3, 4, 5, 6, 2, 7, 1, 0] rfl
                                        · skip
                                          refine rr_if h (fun c116_19 h => ?_) (fun c116_19 h => ?_)
                                          · skip
                                            exact rx_sub (f_cho_choose_326_ok_r0w1 ih _ _ _ _ _ _ h) [3, 4, 5, 6, 2, 7, 1, 0] rfl
                                          · skip
                                            refine rr_if h (fun c116_20 h => ?_) (fun c116_20 h => ?_)
                                            · skip
                                              exact rx_sub (f_cho_choose_293_ok_r0w1 ih _ _ _ _ h) [3, 4, 5, 6, 2, 7] rfl
                                            · skip
                                              refine rr_if h (fun c116_21 h => ?_) (fun c116_21 h => ?_)
                                              · skip
                                                exact rx_sub (f_cho_choose_293_ok_r0w1 ih _ _ _ _ h) [3, 4, 5, 6, 2, 7] rfl
                                              · skip
                                                refine rr_if h (fun c116_22 h => ?_) (fun c116_22 h => ?_)
                                                · skip
                                                  exact rx_sub (f_cho_choose_293_ok_r0w1 ih _ _ _ _ h) [3, 4, 5, 6, 2, 7] rfl
                                                · skip
                                                  refine rr_if h (fun c116_23 h => ?_) (fun c116_23 h => ?_)
                                                  · skip
                                                    exact rx_sub (f_cho_choose_293_ok_r0w1 ih _ _ _ _ h) [3, 4, 5, 6, 2, 7] rfl
                                                  · skip
                                                    refine rr_if h (fun c116_24 h => ?_) (fun c116_24 h => ?_)
                                                    · skip
                                                      exact rx_sub (f_cho_choose_244_ok_r0w1 ih _ _ _ _ _ _ h) [3, 4, 5, 6, 2, 7, 1, 0] rfl
                                                    · skip
                                                      refine rr_if h (fun c116_25 h => ?_) (fun c116_25 h => ?_)
                                                      · skip
                                                        exact rx_sub (f_cho_choose_244_ok_r0w1 ih _ _ _ _ _ _ h) [3, 4, 5, 6, 2, 7, 1, 0] rfl
                                                      · skip
                                                        refine rr_if h (fun c116_26 h => ?_) (fun c116_26 h => ?_)
                                                        · skip
                                                          exact rx_sub (f_cho_choose_244_ok_r0w1 ih _ _ _ _ _ _ h) [3, 4, 5, 6, 2, 7, 1, 0] rfl
                                                        · skip
                                                          refine rr_if h (fun c116_27 h => ?_) (fun c116_27 h => ?_)
                                                          · skip
                                                            exact rx_sub (f_cho_choose_244_ok_r0w1 ih _ _ _ _ _ _ h) [3, 4, 5, 6, 2, 7, 1, 0] rfl
                                                          · skip
                                                            exact rx_sub (f_cho_choose_326_ok_r0w1 ih _ _ _ _ _ _ h) [3, 4, 5, 6, 2, 7, 1, 0] rfl
set_option maxRecDepth 100000 in
set_option maxHeartbeats 4000000 in
theorem f_cho_choose_ok_r0w1 {p0 p1 p2 p3 : Nat} {a1 : Int32} {σ : rx_St} : ∀ o, f_cho_choose 0 1 a1 σ = some o → rx_OK 23 [.ref 51, .ref 57, .int a1] 162 [] [p0, p1, p2, p3, 21] σ (none, rx_D [p0, p1, p2, p3, 21] o) := by
  intro o h
  refine rx_OK_of (by decide) (Nat.le_of_ble_eq_true rfl) ?_
  refine rx_walk [78, 244, 266, 293, 307, 326, 346] 2000 (by decide) rx_e23 ?_
  unfold f_cho_choose at h
  refine rr_ck (Or.inl rfl) ?_
  refine rr_g h (fun c37 h => ?_)
  refine rr_g h (fun c46 h => ?_)
  refine rr_g h (fun c55 h => ?_)
  refine rr_callT (f_j_min_ok _ rfl) ?_
  refine rr_g h (fun c71 h => ?_)
  refine rr_callT (f_j_max_ok _ rfl) ?_
  exact rx_sub (f_cho_choose_78_ok_r0w1 rx_fu _ _ _ h) [4, 5, 3, 1, 0] rfl
set_option maxRecDepth 100000 in
set_option maxHeartbeats 4000000 in
theorem f_cho_choose_346_ok_r0w0 {p0 p1 p2 p3 : Nat} {o : rx_St} {k78 : Int32 → Int32 → rx_St → Option (rx_St)} (hk78 : ∀ (v5 : Int32) (v7 : Int32) (σ : rx_St), k78 v5 v7 σ = some o → rx_AtP none 23 78 [(0, .ref 51), (1, .ref 57), (3, .ref 7), (5, .int v5), (7, .int v7)] [] (rx_D [p0, p1, p2, p3, 7] σ) (none, rx_D [p0, p1, p2, p3, 7] o)) : ∀ (v5 : Int32) (v6 : Int32) (σ : rx_St), f_cho_choose_346 0 0 k78 v5 v6 σ = some o → rx_AtP none 23 346 [(0, .ref 51), (1, .ref 57), (3, .ref 7), (5, .int v5), (6, .int v6)] [] (rx_D [p0, p1, p2, p3, 7] σ) (none, rx_D [p0, p1, p2, p3, 7] o) := by
  intro v5 v6 σ h
  refine rx_walk [78, 244, 266, 293, 307, 326, 346] 2000 (by decide) rx_e23 ?_
  unfold f_cho_choose_346 at h
  exact rx_sub (hk78 _ _ _ h) [1, 2, 3, 4, 0] rfl
set_option maxRecDepth 100000 in
set_option maxHeartbeats 4000000 in
theorem f_cho_choose_307_ok_r0w0 {p0 p1 p2 p3 : Nat} {o : rx_St} {k78 : Int32 → Int32 → rx_St → Option (rx_St)} (hk78 : ∀ (v5 : Int32) (v7 : Int32) (σ : rx_St), k78 v5 v7 σ = some o → rx_AtP none 23 78 [(0, .ref 51), (1, .ref 57), (3, .ref 7), (5, .int v5), (7, .int v7)] [] (rx_D [p0, p1, p2, p3, 7] σ) (none, rx_D [p0, p1, p2, p3, 7] o)) : ∀ (v5 : Int32) (v6 : Int32) (v7 : Int32) (v8 : Int32) (v9 : Int32) (σ : rx_St), f_cho_choose_307 0 0 k78 v5 v6 v7 v8 v9 σ = some o → rx_AtP none 23 307 [(0, .ref 51), (1, .ref 57), (3, .ref 7), (5, .int v5), (6, .int v6), (7, .int v7), (8, .int v8), (9, .int v9)] [] (rx_D [p0, p1, p2, p3, 7] σ) (none, rx_D [p0, p1, p2, p3, 7] o) := by
  intro v5 v6 v7 v8 v9 σ h
  refine rx_walk [78, 244, 266, 293, 307, 326, 346] 2000 (by decide) rx_e23 ?_
  unfold f_cho_choose_307 at h
  refine rr_g h (fun c315 h => ?_)
  refine rr_callV h (fun y hy => f_cho_wish_ok_r0 _ hy) (fun y1 hy1 h => ?_)
  exact rx_sub (f_cho_choose_346_ok_r0w0 hk78 _ _ _ h) [0, 1, 2, 3, 4] rfl
set_option maxRecDepth 100000 in
set_option maxHeartbeats 4000000 in
theorem f_cho_choose_326_ok_r0w0 {p0 p1 p2 p3 : Nat} {o : rx_St} {k78 : Int32 → Int32 → rx_St → Option (rx_St)} (hk78 : ∀ (v5 : Int32) (v7 : Int32) (σ : rx_St), k78 v5 v7 σ = some o → rx_AtP none 23 78 [(0, .ref 51), (1, .ref 57), (3, .ref 7), (5, .int v5), (7, .int v7)] [] (rx_D [p0, p1, p2, p3, 7] σ) (none, rx_D [p0, p1, p2, p3, 7] o)) : ∀ (v5 : Int32) (v6 : Int32) (v7 : Int32) (v8 : Int32) (v9 : Int32) (σ : rx_St), f_cho_choose_326 0 0 k78 v5 v6 v7 v8 v9 σ = some o → rx_AtP none 23 326 [(0, .ref 51), (1, .ref 57), (3, .ref 7), (5, .int v5), (6, .int v6), (7, .int v7), (8, .int v8), (9, .int v9)] [] (rx_D [p0, p1, p2, p3, 7] σ) (none, rx_D [p0, p1, p2, p3, 7] o) := by
  intro v5 v6 v7 v8 v9 σ h
  refine rx_walk [78, 244, 266, 293, 307, 326, 346] 2000 (by decide) rx_e23 ?_
  unfold f_cho_choose_326 at h
  refine rr_g h (fun c335 h => ?_)
  refine rr_callS h (fun y hy => f_cho_unit_ok_r0 _ hy) (fun y1 hy1 h => ?_)
  refine rr_callV h (fun y hy => f_cho_push_ok _ hy) (fun y2 hy2 h => ?_)
  exact rx_sub (f_cho_choose_346_ok_r0w0 hk78 _ _ _ h) [0, 1, 2, 3, 4] rfl
set_option maxRecDepth 100000 in
set_option maxHeartbeats 4000000 in
theorem f_cho_choose_293_ok_r0w0 {p0 p1 p2 p3 : Nat} {o : rx_St} {k78 : Int32 → Int32 → rx_St → Option (rx_St)} (hk78 : ∀ (v5 : Int32) (v7 : Int32) (σ : rx_St), k78 v5 v7 σ = some o → rx_AtP none 23 78 [(0, .ref 51), (1, .ref 57), (3, .ref 7), (5, .int v5), (7, .int v7)] [] (rx_D [p0, p1, p2, p3, 7] σ) (none, rx_D [p0, p1, p2, p3, 7] o)) : ∀ (v5 : Int32) (v6 : Int32) (v7 : Int32) (σ : rx_St), f_cho_choose_293 0 0 k78 v5 v6 v7 σ = some o → rx_AtP none 23 293 [(0, .ref 51), (1, .ref 57), (3, .ref 7), (5, .int v5), (6, .int v6), (7, .int v7)] [] (rx_D [p0, p1, p2, p3, 7] σ) (none, rx_D [p0, p1, p2, p3, 7] o) := by
  intro v5 v6 v7 σ h
  refine rx_walk [78, 244, 266, 293, 307, 326, 346] 2000 (by decide) rx_e23 ?_
  unfold f_cho_choose_293 at h
  refine rr_g h (fun c300 h => ?_)
  refine rr_callV h (fun y hy => f_cho_join_ok _ hy) (fun y1 hy1 h => ?_)
  exact rx_sub (f_cho_choose_346_ok_r0w0 hk78 _ _ _ h) [0, 1, 2, 3, 4] rfl
set_option maxRecDepth 100000 in
set_option maxHeartbeats 4000000 in
theorem f_cho_choose_266_ok_r0w0 {p0 p1 p2 p3 : Nat} {o : rx_St} {k78 : Int32 → Int32 → rx_St → Option (rx_St)} (hk78 : ∀ (v5 : Int32) (v7 : Int32) (σ : rx_St), k78 v5 v7 σ = some o → rx_AtP none 23 78 [(0, .ref 51), (1, .ref 57), (3, .ref 7), (5, .int v5), (7, .int v7)] [] (rx_D [p0, p1, p2, p3, 7] σ) (none, rx_D [p0, p1, p2, p3, 7] o)) : ∀ (v5 : Int32) (v6 : Int32) (v9 : Int32) (s0 : Int32) (s1 : Int32) (σ : rx_St), f_cho_choose_266 0 0 k78 v5 v6 v9 s0 s1 σ = some o → rx_AtP none 23 266 [(0, .ref 51), (1, .ref 57), (3, .ref 7), (5, .int v5), (6, .int v6), (9, .int v9)] [.int s1, .int s0] (rx_D [p0, p1, p2, p3, 7] σ) (none, rx_D [p0, p1, p2, p3, 7] o) := by
  intro v5 v6 v9 s0 s1 σ h
  refine rx_walk [78, 244, 266, 293, 307, 326, 346] 2000 (by decide) rx_e23 ?_
  unfold f_cho_choose_266 at h
  refine rr_if h (fun c266 h => ?_) (fun c266 h => ?_)
  · skip
    refine rr_callT (f_j_max_ok _ rfl) ?_
    exact rx_sub (f_cho_choose_346_ok_r0w0 hk78 _ _ _ h) [1, 2, 3, 4, 0] rfl
  · skip
    exact rx_sub (f_cho_choose_346_ok_r0w0 hk78 _ _ _ h) [0, 1, 2, 3, 4] rfl
set_option maxRecDepth 100000 in
set_option maxHeartbeats 4000000 in
theorem f_cho_choose_244_ok_r0w0 {p0 p1 p2 p3 : Nat} {o : rx_St} {k78 : Int32 → Int32 → rx_St → Option (rx_St)} (hk78 : ∀ (v5 : Int32) (v7 : Int32) (σ : rx_St), k78 v5 v7 σ = some o → rx_AtP none 23 78 [(0, .ref 51), (1, .ref 57), (3, .ref 7), (5, .int v5), (7, .int v7)] [] (rx_D [p0, p1, p2, p3, 7] σ) (none, rx_D [p0, p1, p2, p3, 7] o)) : ∀ (v5 : Int32) (v6 : Int32) (v7 : Int32) (v8 : Int32) (v9 : Int32) (σ : rx_St), f_cho_choose_244 0 0 k78 v5 v6 v7 v8 v9 σ = some o → rx_AtP none 23 244 [(0, .ref 51), (1, .ref 57), (3, .ref 7), (5, .int v5), (6, .int v6), (7, .int v7), (8, .int v8), (9, .int v9)] [] (rx_D [p0, p1, p2, p3, 7] σ) (none, rx_D [p0, p1, p2, p3, 7] o) := by
  intro v5 v6 v7 v8 v9 σ h
  refine rx_walk [78, 244, 266, 293, 307, 326, 346] 2000 (by decide) rx_e23 ?_
  unfold f_cho_choose_244 at h
  refine rr_g h (fun c251 h => ?_)
  refine rr_callS h (fun y hy => f_cho_holds_ok _ hy) (fun y1 hy1 h => ?_)
  refine rr_if h (fun c258 h => ?_) (fun c258 h => ?_)
  · skip
    exact rx_sub (f_cho_choose_266_ok_r0w0 hk78 _ _ _ _ _ _ h) [0, 1, 2, 3, 4, 7] rfl
  · skip
    exact rx_sub (f_cho_choose_266_ok_r0w0 hk78 _ _ _ _ _ _ h) [0, 1, 2, 3, 4, 7] rfl
set_option maxRecDepth 100000 in
set_option maxHeartbeats 4000000 in
theorem f_cho_choose_78_ok_r0w0 {p0 p1 p2 p3 : Nat} {o : rx_St} : ∀ (n : Nat) (v5 : Int32) (v7 : Int32) (σ : rx_St), f_cho_choose_78 0 0 n v5 v7 σ = some o → rx_AtP none 23 78 [(0, .ref 51), (1, .ref 57), (3, .ref 7), (5, .int v5), (7, .int v7)] [] (rx_D [p0, p1, p2, p3, 7] σ) (none, rx_D [p0, p1, p2, p3, 7] o) := by
  intro n
  induction n with
  | zero => intro _ _ _ h; cases h
  | succ n ih =>
  intro v5 v7 σ h
  refine rx_walk [78, 244, 266, 293, 307, 326, 346] 2000 (by decide) rx_e23 ?_
  rw [f_cho_choose_78] at h
  refine rr_if h (fun c82 h => ?_) (fun c82 h => ?_)
  · skip
    cases h
    exact And.intro (rfl) rfl
  · skip
    refine rr_g h (fun c97 h => ?_)
    refine rr_g h (fun c106 h => ?_)
    refine rr_g h (fun c115 h => ?_)
    refine rr_if h (fun c116_0 h => ?_) (fun c116_0 h => ?_)
    · skip
      exact rx_sub (f_cho_choose_307_ok_r0w0 ih _ _ _ _ _ _ h) [3, 4, 5, 6, 2, 7, 1, 0] rfl
    · skip
      refine rr_if h (fun c116_1 h => ?_) (fun c116_1 h => ?_)
      · skip
        exact rx_sub (f_cho_choose_307_ok_r0w0 ih _ _ _ _ _ _ h) [3, 4, 5, 6, 2, 7, 1, 0] rfl
      · skip
        refine rr_if h (fun c116_2 h => ?_) (fun c116_2 h => ?_)
        · skip
          exact rx_sub (f_cho_choose_326_ok_r0w0 ih _ _ _ _ _ _ h) [3, 4, 5, 6, 2, 7, 1, 0] rfl
        · skip
          refine rr_if h (fun c116_3 h => ?_) (fun c116_3 h => ?_)
          · skip
            exact rx_sub (f_cho_choose_326_ok_r0w0 ih _ _ _ _ _ _ h) [3, 4, 5, 6, 2, 7, 1, 0] rfl
          · skip
            refine rr_if h (fun c116_4 h => ?_) (fun c116_4 h => ?_)
            · skip
              exact rx_sub (f_cho_choose_307_ok_r0w0 ih _ _ _ _ _ _ h) [3, 4, 5, 6, 2, 7, 1, 0] rfl
            · skip
              refine rr_if h (fun c116_5 h => ?_) (fun c116_5 h => ?_)
              · skip
                exact rx_sub (f_cho_choose_307_ok_r0w0 ih _ _ _ _ _ _ h) [3, 4, 5, 6, 2, 7, 1, 0] rfl
              · skip
                refine rr_if h (fun c116_6 h => ?_) (fun c116_6 h => ?_)
                · skip
                  exact rx_sub (f_cho_choose_307_ok_r0w0 ih _ _ _ _ _ _ h) [3, 4, 5, 6, 2, 7, 1, 0] rfl
                · skip
                  refine rr_if h (fun c116_7 h => ?_) (fun c116_7 h => ?_)
                  · skip
                    refine rr_callT (f_j_max_ok _ rfl) ?_
                    exact rx_sub (f_cho_choose_346_ok_r0w0 ih _ _ _ h) [3, 4, 5, 6, 0] rfl
                  · skip
                    refine rr_if h (fun c116_8 h => ?_) (fun c116_8 h => ?_)
                    · skip
                      exact rx_sub (f_cho_choose_326_ok_r0w0 ih _ _ _ _ _ _ h) [3, 4, 5, 6, 2, 7, 1, 0] rfl
                    · skip
                      refine rr_if h (fun c116_9 h => ?_) (fun c116_9 h => ?_)
                      · skip
                        exact rx_sub (f_cho_choose_326_ok_r0w0 ih _ _ _ _ _ _ h) [3, 4, 5, 6, 2, 7, 1, 0] rfl
                      · skip
                        refine rr_if h (fun c116_10 h => ?_) (fun c116_10 h => ?_)
                        · skip
                          exact rx_sub (f_cho_choose_326_ok_r0w0 ih _ _ _ _ _ _ h) [3, 4, 5, 6, 2, 7, 1, 0] rfl
                        · skip
                          refine rr_if h (fun c116_11 h => ?_) (fun c116_11 h => ?_)
                          · skip
                            exact rx_sub (f_cho_choose_326_ok_r0w0 ih _ _ _ _ _ _ h) [3, 4, 5, 6, 2, 7, 1, 0] rfl
                          · skip
                            refine rr_if h (fun c116_12 h => ?_) (fun c116_12 h => ?_)
                            · skip
                              exact rx_sub (f_cho_choose_326_ok_r0w0 ih _ _ _ _ _ _ h) [3, 4, 5, 6, 2, 7, 1, 0] rfl
                            · skip
                              refine rr_if h (fun c116_13 h => ?_) (fun c116_13 h => ?_)
                              · skip
                                exact rx_sub (f_cho_choose_326_ok_r0w0 ih _ _ _ _ _ _ h) [3, 4, 5, 6, 2, 7, 1, 0] rfl
                              · skip
                                refine rr_if h (fun c116_14 h => ?_) (fun c116_14 h => ?_)
                                · skip
                                  exact rx_sub (f_cho_choose_326_ok_r0w0 ih _ _ _ _ _ _ h) [3, 4, 5, 6, 2, 7, 1, 0] rfl
                                · skip
                                  refine rr_if h (fun c116_15 h => ?_) (fun c116_15 h => ?_)
                                  · skip
                                    exact rx_sub (f_cho_choose_326_ok_r0w0 ih _ _ _ _ _ _ h) [3, 4, 5, 6, 2, 7, 1, 0] rfl
                                  · skip
                                    refine rr_if h (fun c116_16 h => ?_) (fun c116_16 h => ?_)
                                    · skip
                                      exact rx_sub (f_cho_choose_326_ok_r0w0 ih _ _ _ _ _ _ h) [3, 4, 5, 6, 2, 7, 1, 0] rfl
                                    · skip
                                      refine rr_if h (fun c116_17 h => ?_) (fun c116_17 h => ?_)
                                      · skip
                                        exact rx_sub (f_cho_choose_326_ok_r0w0 ih _ _ _ _ _ _ h) [3, 4, 5, 6, 2, 7, 1, 0] rfl
                                      · skip
                                        refine rr_if h (fun c116_18 h => ?_) (fun c116_18 h => ?_)
                                        · skip
                                          exact rx_sub (f_cho_choose_326_ok_r0w0 ih _ _ _ _ _ _ h) [3, 4, 5, 6, 2, 7, 1, 0] rfl
                                        · skip
                                          refine rr_if h (fun c116_19 h => ?_) (fun c116_19 h => ?_)
                                          · skip
                                            exact rx_sub (f_cho_choose_326_ok_r0w0 ih _ _ _ _ _ _ h) [3, 4, 5, 6, 2, 7, 1, 0] rfl
                                          · skip
                                            refine rr_if h (fun c116_20 h => ?_) (fun c116_20 h => ?_)
                                            · skip
                                              exact rx_sub (f_cho_choose_293_ok_r0w0 ih _ _ _ _ h) [3, 4, 5, 6, 2, 7] rfl
                                            · skip
                                              refine rr_if h (fun c116_21 h => ?_) (fun c116_21 h => ?_)
                                              · skip
                                                exact rx_sub (f_cho_choose_293_ok_r0w0 ih _ _ _ _ h) [3, 4, 5, 6, 2, 7] rfl
                                              · skip
                                                refine rr_if h (fun c116_22 h => ?_) (fun c116_22 h => ?_)
                                                · skip
                                                  exact rx_sub (f_cho_choose_293_ok_r0w0 ih _ _ _ _ h) [3, 4, 5, 6, 2, 7] rfl
                                                · skip
                                                  refine rr_if h (fun c116_23 h => ?_) (fun c116_23 h => ?_)
                                                  · skip
                                                    exact rx_sub (f_cho_choose_293_ok_r0w0 ih _ _ _ _ h) [3, 4, 5, 6, 2, 7] rfl
                                                  · skip
                                                    refine rr_if h (fun c116_24 h => ?_) (fun c116_24 h => ?_)
                                                    · skip
                                                      exact rx_sub (f_cho_choose_244_ok_r0w0 ih _ _ _ _ _ _ h) [3, 4, 5, 6, 2, 7, 1, 0] rfl
                                                    · skip
                                                      refine rr_if h (fun c116_25 h => ?_) (fun c116_25 h => ?_)
                                                      · skip
                                                        exact rx_sub (f_cho_choose_244_ok_r0w0 ih _ _ _ _ _ _ h) [3, 4, 5, 6, 2, 7, 1, 0] rfl
                                                      · skip
                                                        refine rr_if h (fun c116_26 h => ?_) (fun c116_26 h => ?_)
                                                        · skip
                                                          exact rx_sub (f_cho_choose_244_ok_r0w0 ih _ _ _ _ _ _ h) [3, 4, 5, 6, 2, 7, 1, 0] rfl
                                                        · skip
                                                          refine rr_if h (fun c116_27 h => ?_) (fun c116_27 h => ?_)
                                                          · skip
                                                            exact rx_sub (f_cho_choose_244_ok_r0w0 ih _ _ _ _ _ _ h) [3, 4, 5, 6, 2, 7, 1, 0] rfl
                                                          · skip
                                                            exact rx_sub (f_cho_choose_326_ok_r0w0 ih _ _ _ _ _ _ h) [3, 4, 5, 6, 2, 7, 1, 0] rfl
set_option maxRecDepth 100000 in
set_option maxHeartbeats 4000000 in
theorem f_cho_choose_ok_r0w0 {p0 p1 p2 p3 : Nat} {a1 : Int32} {σ : rx_St} : ∀ o, f_cho_choose 0 0 a1 σ = some o → rx_OK 23 [.ref 51, .ref 57, .int a1] 162 [] [p0, p1, p2, p3, 7] σ (none, rx_D [p0, p1, p2, p3, 7] o) := by
  intro o h
  refine rx_OK_of (by decide) (Nat.le_of_ble_eq_true rfl) ?_
  refine rx_walk [78, 244, 266, 293, 307, 326, 346] 2000 (by decide) rx_e23 ?_
  unfold f_cho_choose at h
  refine rr_ck (Or.inl rfl) ?_
  refine rr_g h (fun c37 h => ?_)
  refine rr_g h (fun c46 h => ?_)
  refine rr_g h (fun c55 h => ?_)
  refine rr_callT (f_j_min_ok _ rfl) ?_
  refine rr_g h (fun c71 h => ?_)
  refine rr_callT (f_j_max_ok _ rfl) ?_
  exact rx_sub (f_cho_choose_78_ok_r0w0 rx_fu _ _ _ h) [4, 5, 3, 1, 0] rfl
