set_option maxRecDepth 100000 in
theorem rx_e139 : rx_Ext none 139 := rx_Ext_plain (by decide +kernel)
set_option maxRecDepth 100000 in
set_option maxHeartbeats 4000000 in
theorem f_c_changed_59_ok_w0 {p0 p1 p2 p3 : Nat} {o : Int32 × rx_St} {k28 : Int32 → Int32 → rx_St → Option (Int32 × rx_St)} (hk28 : ∀ (v5 : Int32) (v6 : Int32) (σ : rx_St), k28 v5 v6 σ = some o → rx_AtP none 139 28 [(0, .ref 0), (5, .int v5), (6, .int v6)] [] (rx_D [p0, p1, p2, p3, 7] σ) (some (.int o.1), rx_D [p0, p1, p2, p3, 7] o.2)) : ∀ (v5 : Int32) (v6 : Int32) (σ : rx_St), f_c_changed_59 0 k28 v5 v6 σ = some o → rx_AtP none 139 59 [(0, .ref 0), (5, .int v5), (6, .int v6)] [] (rx_D [p0, p1, p2, p3, 7] σ) (some (.int o.1), rx_D [p0, p1, p2, p3, 7] o.2) := by
  intro v5 v6 σ h
  refine rx_walk [28, 59] 2000 (by decide) rx_e139 ?_
  unfold f_c_changed_59 at h
  exact rx_sub (hk28 _ _ _ h) [1, 2, 0] rfl
set_option maxRecDepth 100000 in
set_option maxHeartbeats 4000000 in
theorem f_c_changed_28_ok_w0 {p0 p1 p2 p3 : Nat} {o : Int32 × rx_St} : ∀ (n : Nat) (v5 : Int32) (v6 : Int32) (σ : rx_St), f_c_changed_28 0 n v5 v6 σ = some o → rx_AtP none 139 28 [(0, .ref 0), (5, .int v5), (6, .int v6)] [] (rx_D [p0, p1, p2, p3, 7] σ) (some (.int o.1), rx_D [p0, p1, p2, p3, 7] o.2) := by
  intro n
  induction n with
  | zero => intro _ _ _ h; cases h
  | succ n ih =>
  intro v5 v6 σ h
  refine rx_walk [28, 59] 2000 (by decide) rx_e139 ?_
  rw [f_c_changed_28] at h
  refine rr_if h (fun c37 h => ?_) (fun c37 h => ?_)
  · skip
    cases h
    exact And.intro (trivial) rfl
  · skip
    refine rr_g h (fun c46 h => ?_)
    refine rr_if h (fun c47 h => ?_) (fun c47 h => ?_)
    · skip
      exact rx_sub (f_c_changed_59_ok_w0 ih _ _ _ h) [0, 1, 2] rfl
    · skip
      exact rx_sub (f_c_changed_59_ok_w0 ih _ _ _ h) [1, 0, 2] rfl
set_option maxRecDepth 100000 in
set_option maxHeartbeats 4000000 in
theorem f_c_changed_ok_w0 {p0 p1 p2 p3 : Nat} {a0 : Int32} {a1 : Int32} {a2 : Int32} {a3 : Int32} {σ : rx_St} : ∀ o, f_c_changed 0 a0 a1 a2 a3 σ = some o → rx_OK 139 [.ref 0, .int a0, .int a1, .int a2, .int a3] 162 [] [p0, p1, p2, p3, 7] σ (some (.int o.1), rx_D [p0, p1, p2, p3, 7] o.2) := by
  intro o h
  refine rx_OK_of (by decide) (Nat.le_of_ble_eq_true rfl) ?_
  refine rx_walk [28, 59] 2000 (by decide) rx_e139 ?_
  unfold f_c_changed at h
  refine rr_callT (f_c_canUndo_ok _ rfl) ?_
  refine rr_if h (fun c8 h => ?_) (fun c8 h => ?_)
  · skip
    cases h
    exact And.intro (trivial) rfl
  · skip
    refine rr_callV h (fun y hy => f_c_undo_ok_w0 _ hy) (fun y1 hy1 h => ?_)
    exact rx_sub (f_c_changed_28_ok_w0 rx_fu _ _ _ h) [2, 1, 0] rfl
set_option maxRecDepth 100000 in
set_option maxHeartbeats 4000000 in
theorem f_c_changed_59_ok_w1 {p0 p1 p2 p3 : Nat} {o : Int32 × rx_St} {k28 : Int32 → Int32 → rx_St → Option (Int32 × rx_St)} (hk28 : ∀ (v5 : Int32) (v6 : Int32) (σ : rx_St), k28 v5 v6 σ = some o → rx_AtP none 139 28 [(0, .ref 0), (5, .int v5), (6, .int v6)] [] (rx_D [p0, p1, p2, p3, 21] σ) (some (.int o.1), rx_D [p0, p1, p2, p3, 21] o.2)) : ∀ (v5 : Int32) (v6 : Int32) (σ : rx_St), f_c_changed_59 1 k28 v5 v6 σ = some o → rx_AtP none 139 59 [(0, .ref 0), (5, .int v5), (6, .int v6)] [] (rx_D [p0, p1, p2, p3, 21] σ) (some (.int o.1), rx_D [p0, p1, p2, p3, 21] o.2) := by
  intro v5 v6 σ h
  refine rx_walk [28, 59] 2000 (by decide) rx_e139 ?_
  unfold f_c_changed_59 at h
  exact rx_sub (hk28 _ _ _ h) [1, 2, 0] rfl
set_option maxRecDepth 100000 in
set_option maxHeartbeats 4000000 in
theorem f_c_changed_28_ok_w1 {p0 p1 p2 p3 : Nat} {o : Int32 × rx_St} : ∀ (n : Nat) (v5 : Int32) (v6 : Int32) (σ : rx_St), f_c_changed_28 1 n v5 v6 σ = some o → rx_AtP none 139 28 [(0, .ref 0), (5, .int v5), (6, .int v6)] [] (rx_D [p0, p1, p2, p3, 21] σ) (some (.int o.1), rx_D [p0, p1, p2, p3, 21] o.2) := by
  intro n
  induction n with
  | zero => intro _ _ _ h; cases h
  | succ n ih =>
  intro v5 v6 σ h
  refine rx_walk [28, 59] 2000 (by decide) rx_e139 ?_
  rw [f_c_changed_28] at h
  refine rr_if h (fun c37 h => ?_) (fun c37 h => ?_)
  · skip
    cases h
    exact And.intro (trivial) rfl
  · skip
    refine rr_g h (fun c46 h => ?_)
    refine rr_if h (fun c47 h => ?_) (fun c47 h => ?_)
    · skip
      exact rx_sub (f_c_changed_59_ok_w1 ih _ _ _ h) [0, 1, 2] rfl
    · skip
      exact rx_sub (f_c_changed_59_ok_w1 ih _ _ _ h) [1, 0, 2] rfl
set_option maxRecDepth 100000 in
set_option maxHeartbeats 4000000 in
theorem f_c_changed_ok_w1 {p0 p1 p2 p3 : Nat} {a0 : Int32} {a1 : Int32} {a2 : Int32} {a3 : Int32} {σ : rx_St} : ∀ o, f_c_changed 1 a0 a1 a2 a3 σ = some o → rx_OK 139 [.ref 0, .int a0, .int a1, .int a2, .int a3] 162 [] [p0, p1, p2, p3, 21] σ (some (.int o.1), rx_D [p0, p1, p2, p3, 21] o.2) := by
  intro o h
  refine rx_OK_of (by decide) (Nat.le_of_ble_eq_true rfl) ?_
  refine rx_walk [28, 59] 2000 (by decide) rx_e139 ?_
  unfold f_c_changed at h
  refine rr_callT (f_c_canUndo_ok _ rfl) ?_
  refine rr_if h (fun c8 h => ?_) (fun c8 h => ?_)
  · skip
    cases h
    exact And.intro (trivial) rfl
  · skip
    refine rr_callV h (fun y hy => f_c_undo_ok_w1 _ hy) (fun y1 hy1 h => ?_)
    exact rx_sub (f_c_changed_28_ok_w1 rx_fu _ _ _ h) [2, 1, 0] rfl
set_option maxRecDepth 100000 in
theorem rx_e140 : rx_Ext none 140 := rx_Ext_plain (by decide +kernel)
set_option maxRecDepth 100000 in
set_option maxHeartbeats 4000000 in
theorem f_c_first_ok_w0 {p0 p1 p2 p3 : Nat} {a0 : Int32} {a1 : Int32} {a2 : Int32} {a3 : Int32} {a4 : Int32} {σ : rx_St} : ∀ o, f_c_first 0 a0 a1 a2 a3 a4 σ = some o → rx_OK 140 [.ref 0, .int a0, .int a1, .int a2, .int a3, .int a4] 162 [] [p0, p1, p2, p3, 7] σ (some (.int o.1), rx_D [p0, p1, p2, p3, 7] o.2) := by
  intro o h
  refine rx_OK_of (by decide) (Nat.le_of_ble_eq_true rfl) ?_
  refine rx_walk [] 2000 (by decide) rx_e140 ?_
  unfold f_c_first at h
  refine rr_callT (f_c_canUndo_ok _ rfl) ?_
  refine rr_if h (fun c8 h => ?_) (fun c8 h => ?_)
  · skip
    cases h
    exact And.intro (trivial) rfl
  · skip
    refine rr_callT (f_tow_hasOne_ok _ rfl) ?_
    refine rr_if h (fun c20 h => ?_) (fun c20 h => ?_)
    · skip
      cases h
      exact And.intro (trivial) rfl
    · skip
      refine rr_callV h (fun y hy => f_c_undo_ok_w0 _ hy) (fun y1 hy1 h => ?_)
      refine rr_g h (fun c40 h => ?_)
      cases h
      exact And.intro (trivial) rfl
set_option maxRecDepth 100000 in
set_option maxHeartbeats 4000000 in
theorem f_c_first_ok_w1 {p0 p1 p2 p3 : Nat} {a0 : Int32} {a1 : Int32} {a2 : Int32} {a3 : Int32} {a4 : Int32} {σ : rx_St} : ∀ o, f_c_first 1 a0 a1 a2 a3 a4 σ = some o → rx_OK 140 [.ref 0, .int a0, .int a1, .int a2, .int a3, .int a4] 162 [] [p0, p1, p2, p3, 21] σ (some (.int o.1), rx_D [p0, p1, p2, p3, 21] o.2) := by
  intro o h
  refine rx_OK_of (by decide) (Nat.le_of_ble_eq_true rfl) ?_
  refine rx_walk [] 2000 (by decide) rx_e140 ?_
  unfold f_c_first at h
  refine rr_callT (f_c_canUndo_ok _ rfl) ?_
  refine rr_if h (fun c8 h => ?_) (fun c8 h => ?_)
  · skip
    cases h
    exact And.intro (trivial) rfl
  · skip
    refine rr_callT (f_tow_hasOne_ok _ rfl) ?_
    refine rr_if h (fun c20 h => ?_) (fun c20 h => ?_)
    · skip
      cases h
      exact And.intro (trivial) rfl
    · skip
      refine rr_callV h (fun y hy => f_c_undo_ok_w1 _ hy) (fun y1 hy1 h => ?_)
      refine rr_g h (fun c40 h => ?_)
      cases h
      exact And.intro (trivial) rfl
set_option maxRecDepth 100000 in
theorem rx_e141 : rx_Ext none 141 := rx_Ext_plain (by decide +kernel)
set_option maxRecDepth 100000 in
set_option maxHeartbeats 4000000 in
theorem f_c_cause_ok_w0 {p0 p1 p2 p3 : Nat} {a0 : Int32} {a1 : Int32} {σ : rx_St} : ∀ o, f_c_cause 0 a0 a1 σ = some o → rx_OK 141 [.ref 0, .int a0, .int a1] 162 [] [p0, p1, p2, p3, 7] σ (some (.int o.1), rx_D [p0, p1, p2, p3, 7] o.2) := by
  intro o h
  refine rx_OK_of (by decide) (Nat.le_of_ble_eq_true rfl) ?_
  refine rx_walk [] 2000 (by decide) rx_e141 ?_
  unfold f_c_cause at h
  refine rr_callS h (fun y hy => f_cau_tell_ok_w0 _ hy) (fun y1 hy1 h => ?_)
  cases h
  exact And.intro (trivial) rfl
set_option maxRecDepth 100000 in
set_option maxHeartbeats 4000000 in
theorem f_c_cause_ok_w1 {p0 p1 p2 p3 : Nat} {a0 : Int32} {a1 : Int32} {σ : rx_St} : ∀ o, f_c_cause 1 a0 a1 σ = some o → rx_OK 141 [.ref 0, .int a0, .int a1] 162 [] [p0, p1, p2, p3, 21] σ (some (.int o.1), rx_D [p0, p1, p2, p3, 21] o.2) := by
  intro o h
  refine rx_OK_of (by decide) (Nat.le_of_ble_eq_true rfl) ?_
  refine rx_walk [] 2000 (by decide) rx_e141 ?_
  unfold f_c_cause at h
  refine rr_callS h (fun y hy => f_cau_tell_ok_w1 _ hy) (fun y1 hy1 h => ?_)
  cases h
  exact And.intro (trivial) rfl
set_option maxRecDepth 100000 in
theorem rx_e142 : rx_Ext none 142 := rx_Ext_plain (by decide +kernel)
set_option maxRecDepth 100000 in
set_option maxHeartbeats 4000000 in
theorem f_c_clear_ok {P : List Nat} {σ : rx_St} : ∀ o, f_c_clear σ = some o → rx_OK 142 [.ref 0] 162 [] P σ (some (.int o.1), rx_D P o.2) := by
  intro o h
  refine rx_OK_of (by decide) (Nat.le_of_ble_eq_true rfl) ?_
  refine rx_walk [] 2000 (by decide) rx_e142 ?_
  unfold f_c_clear at h
  cases h
  exact And.intro (trivial) rfl
set_option maxRecDepth 100000 in
theorem rx_e143 : rx_Ext none 143 := rx_Ext_plain (by decide +kernel)
set_option maxRecDepth 100000 in
set_option maxHeartbeats 4000000 in
theorem f_c_share_ok_w0 {p1 p2 p3 : Nat} {a0 : Int32} {a1 : Int32} {a2 : Int32} {a3 : Int32} {a4 : Int32} {σ : rx_St} : ∀ o, f_c_share 0 a0 a1 a2 a3 a4 σ = some o → rx_OK 143 [.ref 0, .int a0, .int a1, .int a2, .int a3, .int a4] 162 [] [7, p1, p2, p3, 7] σ (some (.long o.1), rx_D [7, p1, p2, p3, 7] o.2) := by
  intro o h
  refine rx_OK_of (by decide) (Nat.le_of_ble_eq_true rfl) ?_
  refine rx_walk [] 2000 (by decide) rx_e143 ?_
  unfold f_c_share at h
  refine rr_if h (fun c1 h => ?_) (fun c1 h => ?_)
  · skip
    cases h
    exact And.intro (rfl) rfl
  · skip
    refine rr_if h (fun c12 h => ?_) (fun c12 h => ?_)
    · skip
      cases h
      exact And.intro (rfl) rfl
    · skip
      refine rr_callT (f_c_isTime_ok _ rfl) ?_
      refine rr_if h (fun c19 h => ?_) (fun c19 h => ?_)
      · skip
        cases h
        exact And.intro (rfl) rfl
      · skip
        refine rr_callP h (fun y hy => f_wor_hasVar_ok_w0 _ hy) (fun y1 hy1 h => ?_)
        refine rr_if h (fun c33 h => ?_) (fun c33 h => ?_)
        · skip
          cases h
          exact And.intro (rfl) rfl
        · skip
          refine rr_callSL h (fun y hy => f_cau_sumOverOrders_ok_w0 _ hy) (fun y2 hy2 h => ?_)
          cases h
          exact And.intro (rfl) rfl
set_option maxRecDepth 100000 in
set_option maxHeartbeats 4000000 in
theorem f_c_share_ok_w1 {p1 p2 p3 : Nat} {a0 : Int32} {a1 : Int32} {a2 : Int32} {a3 : Int32} {a4 : Int32} {σ : rx_St} : ∀ o, f_c_share 1 a0 a1 a2 a3 a4 σ = some o → rx_OK 143 [.ref 0, .int a0, .int a1, .int a2, .int a3, .int a4] 162 [] [21, p1, p2, p3, 21] σ (some (.long o.1), rx_D [21, p1, p2, p3, 21] o.2) := by
  intro o h
  refine rx_OK_of (by decide) (Nat.le_of_ble_eq_true rfl) ?_
  refine rx_walk [] 2000 (by decide) rx_e143 ?_
  unfold f_c_share at h
  refine rr_if h (fun c1 h => ?_) (fun c1 h => ?_)
  · skip
    cases h
    exact And.intro (rfl) rfl
  · skip
    refine rr_if h (fun c12 h => ?_) (fun c12 h => ?_)
    · skip
      cases h
      exact And.intro (rfl) rfl
    · skip
      refine rr_callT (f_c_isTime_ok _ rfl) ?_
      refine rr_if h (fun c19 h => ?_) (fun c19 h => ?_)
      · skip
        cases h
        exact And.intro (rfl) rfl
      · skip
        refine rr_callP h (fun y hy => f_wor_hasVar_ok_w1 _ hy) (fun y1 hy1 h => ?_)
        refine rr_if h (fun c33 h => ?_) (fun c33 h => ?_)
        · skip
          cases h
          exact And.intro (rfl) rfl
        · skip
          refine rr_callSL h (fun y hy => f_cau_sumOverOrders_ok_w1 _ hy) (fun y2 hy2 h => ?_)
          cases h
          exact And.intro (rfl) rfl
set_option maxRecDepth 100000 in
theorem rx_e144 : rx_Ext none 144 := rx_Ext_plain (by decide +kernel)
set_option maxRecDepth 100000 in
set_option maxHeartbeats 4000000 in
theorem f_c_seen_ok_w0 {p1 p2 p3 p4 : Nat} {a0 : Int32} {a1 : Int32} {a2 : Int32} {a3 : Int32} {a4 : Int32} {σ : rx_St} : ∀ o, f_c_seen 0 a0 a1 a2 a3 a4 σ = some o → rx_OK 144 [.ref 0, .int a0, .int a1, .int a2, .int a3, .int a4] 162 [] [7, p1, p2, p3, p4] σ (some (.int o.1), rx_D [7, p1, p2, p3, p4] o.2) := by
  intro o h
  refine rx_OK_of (by decide) (Nat.le_of_ble_eq_true rfl) ?_
  refine rx_walk [] 2000 (by decide) rx_e144 ?_
  unfold f_c_seen at h
  refine rr_callT (f_c_isTime_ok _ rfl) ?_
  refine rr_if h (fun c4 h => ?_) (fun c4 h => ?_)
  · skip
    cases h
    exact And.intro (trivial) rfl
  · skip
    refine rr_callP h (fun y hy => f_wor_hasVar_ok_w0 _ hy) (fun y1 hy1 h => ?_)
    refine rr_if h (fun c16 h => ?_) (fun c16 h => ?_)
    · skip
      cases h
      exact And.intro (trivial) rfl
    · skip
      refine rr_if h (fun c23 h => ?_) (fun c23 h => ?_)
      · skip
        refine rr_callS h (fun y hy => f_gri_tellSeen_ok _ hy) (fun y2 hy2 h => ?_)
        cases h
        exact And.intro (trivial) rfl
      · skip
        cases h
        exact And.intro (trivial) rfl
set_option maxRecDepth 100000 in
set_option maxHeartbeats 4000000 in
theorem f_c_seen_ok_w1 {p1 p2 p3 p4 : Nat} {a0 : Int32} {a1 : Int32} {a2 : Int32} {a3 : Int32} {a4 : Int32} {σ : rx_St} : ∀ o, f_c_seen 1 a0 a1 a2 a3 a4 σ = some o → rx_OK 144 [.ref 0, .int a0, .int a1, .int a2, .int a3, .int a4] 162 [] [21, p1, p2, p3, p4] σ (some (.int o.1), rx_D [21, p1, p2, p3, p4] o.2) := by
  intro o h
  refine rx_OK_of (by decide) (Nat.le_of_ble_eq_true rfl) ?_
  refine rx_walk [] 2000 (by decide) rx_e144 ?_
  unfold f_c_seen at h
  refine rr_callT (f_c_isTime_ok _ rfl) ?_
  refine rr_if h (fun c4 h => ?_) (fun c4 h => ?_)
  · skip
    cases h
    exact And.intro (trivial) rfl
  · skip
    refine rr_callP h (fun y hy => f_wor_hasVar_ok_w1 _ hy) (fun y1 hy1 h => ?_)
    refine rr_if h (fun c16 h => ?_) (fun c16 h => ?_)
    · skip
      cases h
      exact And.intro (trivial) rfl
    · skip
      refine rr_if h (fun c23 h => ?_) (fun c23 h => ?_)
      · skip
        refine rr_callS h (fun y hy => f_gri_tellSeen_ok _ hy) (fun y2 hy2 h => ?_)
        cases h
        exact And.intro (trivial) rfl
      · skip
        cases h
        exact And.intro (trivial) rfl
set_option maxRecDepth 100000 in
theorem rx_e145 : rx_Ext none 145 := rx_Ext_plain (by decide +kernel)
set_option maxRecDepth 100000 in
set_option maxHeartbeats 4000000 in
theorem f_c_span_ok_w0 {p0 p1 p2 p3 : Nat} {a0 : Int32} {a1 : Int32} {a2 : Int32} {a3 : Int32} {σ : rx_St} : ∀ o, f_c_span 0 a0 a1 a2 a3 σ = some o → rx_OK 145 [.ref 0, .int a0, .int a1, .int a2, .int a3] 162 [] [p0, p1, p2, p3, 7] σ (some (.int o.1), rx_D [p0, p1, p2, p3, 7] o.2) := by
  intro o h
  refine rx_OK_of (by decide) (Nat.le_of_ble_eq_true rfl) ?_
  refine rx_walk [] 2000 (by decide) rx_e145 ?_
  unfold f_c_span at h
  refine rr_callS h (fun y hy => f_gri_tellSpan_ok_w0 _ hy) (fun y1 hy1 h => ?_)
  cases h
  exact And.intro (trivial) rfl
set_option maxRecDepth 100000 in
set_option maxHeartbeats 4000000 in
theorem f_c_span_ok_w1 {p0 p1 p2 p3 : Nat} {a0 : Int32} {a1 : Int32} {a2 : Int32} {a3 : Int32} {σ : rx_St} : ∀ o, f_c_span 1 a0 a1 a2 a3 σ = some o → rx_OK 145 [.ref 0, .int a0, .int a1, .int a2, .int a3] 162 [] [p0, p1, p2, p3, 21] σ (some (.int o.1), rx_D [p0, p1, p2, p3, 21] o.2) := by
  intro o h
  refine rx_OK_of (by decide) (Nat.le_of_ble_eq_true rfl) ?_
  refine rx_walk [] 2000 (by decide) rx_e145 ?_
  unfold f_c_span at h
  refine rr_callS h (fun y hy => f_gri_tellSpan_ok_w1 _ hy) (fun y1 hy1 h => ?_)
  cases h
  exact And.intro (trivial) rfl
set_option maxRecDepth 100000 in
theorem rx_e155 : rx_Ext none 155 := rx_Ext_plain (by decide +kernel)
set_option maxRecDepth 100000 in
set_option maxHeartbeats 4000000 in
theorem f_c_isSeeds_ok {P : List Nat} {σ : rx_St} {a0 : Int32} : ∀ o, f_c_isSeeds a0 = o → rx_OK 155 [.int a0] 162 [] P σ (some (.int o), rx_D P σ) := by
  intro o h
  refine rx_OK_of (by decide) (Nat.le_of_ble_eq_true rfl) ?_
  refine rx_walk [] 2000 (by decide) rx_e155 ?_
  unfold f_c_isSeeds at h
  refine rr_if h (fun c2 h => ?_) (fun c2 h => ?_)
  · skip
    cases h
    exact And.intro (Or.inl rfl) rfl
  · skip
    refine rr_if h (fun c7 h => ?_) (fun c7 h => ?_)
    · skip
      cases h
      exact And.intro (Or.inl rfl) rfl
    · skip
      cases h
      exact And.intro (Or.inr rfl) rfl
set_option maxRecDepth 100000 in
theorem rx_e146 : rx_Ext none 146 := rx_Ext_plain (by decide +kernel)
set_option maxRecDepth 100000 in
set_option maxHeartbeats 4000000 in
theorem f_c_meets_ok_w0 {p0 p1 p2 p3 : Nat} {a0 : Int32} {σ : rx_St} : ∀ o, f_c_meets 0 a0 σ = some o → rx_OK 146 [.ref 0, .int a0] 162 [] [p0, p1, p2, p3, 7] σ (some (.int o.1), rx_D [p0, p1, p2, p3, 7] o.2) := by
  intro o h
  refine rx_OK_of (by decide) (Nat.le_of_ble_eq_true rfl) ?_
  refine rx_walk [] 2000 (by decide) rx_e146 ?_
  unfold f_c_meets at h
  refine rr_callT (f_c_isSeeds_ok _ rfl) ?_
  refine rr_if h (fun c4 h => ?_) (fun c4 h => ?_)
  · skip
    cases h
    exact And.intro (trivial) rfl
  · skip
    refine rr_callV h (fun y hy => f_gri_trySeeds_ok_w0 _ hy) (fun y1 hy1 h => ?_)
    refine rr_callP h (fun y hy => f_gri_countMeeting_ok _ hy) (fun y2 hy2 h => ?_)
    cases h
    exact And.intro (trivial) rfl
set_option maxRecDepth 100000 in
set_option maxHeartbeats 4000000 in
theorem f_c_meets_ok_w1 {p0 p1 p2 p3 : Nat} {a0 : Int32} {σ : rx_St} : ∀ o, f_c_meets 1 a0 σ = some o → rx_OK 146 [.ref 0, .int a0] 162 [] [p0, p1, p2, p3, 21] σ (some (.int o.1), rx_D [p0, p1, p2, p3, 21] o.2) := by
  intro o h
  refine rx_OK_of (by decide) (Nat.le_of_ble_eq_true rfl) ?_
  refine rx_walk [] 2000 (by decide) rx_e146 ?_
  unfold f_c_meets at h
  refine rr_callT (f_c_isSeeds_ok _ rfl) ?_
  refine rr_if h (fun c4 h => ?_) (fun c4 h => ?_)
  · skip
    cases h
    exact And.intro (trivial) rfl
  · skip
    refine rr_callV h (fun y hy => f_gri_trySeeds_ok_w1 _ hy) (fun y1 hy1 h => ?_)
    refine rr_callP h (fun y hy => f_gri_countMeeting_ok _ hy) (fun y2 hy2 h => ?_)
    cases h
    exact And.intro (trivial) rfl
set_option maxRecDepth 100000 in
theorem rx_e147 : rx_Ext none 147 := rx_Ext_plain (by decide +kernel)
set_option maxRecDepth 100000 in
set_option maxHeartbeats 4000000 in
theorem f_c_met_ok_w0 {p0 p1 p2 p3 : Nat} {a0 : Int32} {a1 : Int32} {a2 : Int32} {σ : rx_St} : ∀ o, f_c_met 0 a0 a1 a2 σ = some o → rx_OK 147 [.ref 0, .int a0, .int a1, .int a2] 162 [] [p0, p1, p2, p3, 7] σ (some (.int o.1), rx_D [p0, p1, p2, p3, 7] o.2) := by
  intro o h
  refine rx_OK_of (by decide) (Nat.le_of_ble_eq_true rfl) ?_
  refine rx_walk [] 2000 (by decide) rx_e147 ?_
  unfold f_c_met at h
  refine rr_callT (f_c_isSeeds_ok _ rfl) ?_
  refine rr_if h (fun c4 h => ?_) (fun c4 h => ?_)
  · skip
    cases h
    exact And.intro (trivial) rfl
  · skip
    refine rr_if h (fun c8 h => ?_) (fun c8 h => ?_)
    · skip
      cases h
      exact And.intro (trivial) rfl
    · skip
      refine rr_if h (fun c12 h => ?_) (fun c12 h => ?_)
      · skip
        cases h
        exact And.intro (trivial) rfl
      · skip
        refine rr_if h (fun c23 h => ?_) (fun c23 h => ?_)
        · skip
          refine rr_callV h (fun y hy => f_gri_trySeeds_ok_w0 _ hy) (fun y1 hy1 h => ?_)
          refine rr_callP h (fun y hy => f_gri_meetingPoint_ok _ hy) (fun y2 hy2 h => ?_)
          refine rr_if h (fun c50 h => ?_) (fun c50 h => ?_)
          · skip
            refine rr_callP h (fun y hy => f_gri_number_ok _ hy) (fun y3 hy3 h => ?_)
            cases h
            exact And.intro (trivial) rfl
          · skip
            cases h
            exact And.intro (trivial) rfl
        · skip
          cases h
          exact And.intro (trivial) rfl
set_option maxRecDepth 100000 in
set_option maxHeartbeats 4000000 in
theorem f_c_met_ok_w1 {p0 p1 p2 p3 : Nat} {a0 : Int32} {a1 : Int32} {a2 : Int32} {σ : rx_St} : ∀ o, f_c_met 1 a0 a1 a2 σ = some o → rx_OK 147 [.ref 0, .int a0, .int a1, .int a2] 162 [] [p0, p1, p2, p3, 21] σ (some (.int o.1), rx_D [p0, p1, p2, p3, 21] o.2) := by
  intro o h
  refine rx_OK_of (by decide) (Nat.le_of_ble_eq_true rfl) ?_
  refine rx_walk [] 2000 (by decide) rx_e147 ?_
  unfold f_c_met at h
  refine rr_callT (f_c_isSeeds_ok _ rfl) ?_
  refine rr_if h (fun c4 h => ?_) (fun c4 h => ?_)
  · skip
    cases h
    exact And.intro (trivial) rfl
  · skip
    refine rr_if h (fun c8 h => ?_) (fun c8 h => ?_)
    · skip
      cases h
      exact And.intro (trivial) rfl
    · skip
      refine rr_if h (fun c12 h => ?_) (fun c12 h => ?_)
      · skip
        cases h
        exact And.intro (trivial) rfl
      · skip
        refine rr_if h (fun c23 h => ?_) (fun c23 h => ?_)
        · skip
          refine rr_callV h (fun y hy => f_gri_trySeeds_ok_w1 _ hy) (fun y1 hy1 h => ?_)
          refine rr_callP h (fun y hy => f_gri_meetingPoint_ok _ hy) (fun y2 hy2 h => ?_)
          refine rr_if h (fun c50 h => ?_) (fun c50 h => ?_)
          · skip
            refine rr_callP h (fun y hy => f_gri_number_ok _ hy) (fun y3 hy3 h => ?_)
            cases h
            exact And.intro (trivial) rfl
          · skip
            cases h
            exact And.intro (trivial) rfl
        · skip
          cases h
          exact And.intro (trivial) rfl
set_option maxRecDepth 100000 in
theorem rx_e148 : rx_Ext none 148 := rx_Ext_plain (by decide +kernel)
set_option maxRecDepth 100000 in
set_option maxHeartbeats 4000000 in
theorem f_c_untold_ok_w0 {p0 p1 p2 p3 : Nat} {a0 : Int32} {σ : rx_St} : ∀ o, f_c_untold 0 a0 σ = some o → rx_OK 148 [.ref 0, .int a0] 162 [] [p0, p1, p2, p3, 7] σ (some (.int o.1), rx_D [p0, p1, p2, p3, 7] o.2) := by
  intro o h
  refine rx_OK_of (by decide) (Nat.le_of_ble_eq_true rfl) ?_
  refine rx_walk [] 2000 (by decide) rx_e148 ?_
  unfold f_c_untold at h
  refine rr_callT (f_c_isSeeds_ok _ rfl) ?_
  refine rr_if h (fun c4 h => ?_) (fun c4 h => ?_)
  · skip
    cases h
    exact And.intro (trivial) rfl
  · skip
    refine rr_callV h (fun y hy => f_gri_trySeeds_ok_w0 _ hy) (fun y1 hy1 h => ?_)
    refine rr_callP h (fun y hy => f_gri_untoldSpans_ok _ hy) (fun y2 hy2 h => ?_)
    cases h
    exact And.intro (trivial) rfl
set_option maxRecDepth 100000 in
set_option maxHeartbeats 4000000 in
theorem f_c_untold_ok_w1 {p0 p1 p2 p3 : Nat} {a0 : Int32} {σ : rx_St} : ∀ o, f_c_untold 1 a0 σ = some o → rx_OK 148 [.ref 0, .int a0] 162 [] [p0, p1, p2, p3, 21] σ (some (.int o.1), rx_D [p0, p1, p2, p3, 21] o.2) := by
  intro o h
  refine rx_OK_of (by decide) (Nat.le_of_ble_eq_true rfl) ?_
  refine rx_walk [] 2000 (by decide) rx_e148 ?_
  unfold f_c_untold at h
  refine rr_callT (f_c_isSeeds_ok _ rfl) ?_
  refine rr_if h (fun c4 h => ?_) (fun c4 h => ?_)
  · skip
    cases h
    exact And.intro (trivial) rfl
  · skip
    refine rr_callV h (fun y hy => f_gri_trySeeds_ok_w1 _ hy) (fun y1 hy1 h => ?_)
    refine rr_callP h (fun y hy => f_gri_untoldSpans_ok _ hy) (fun y2 hy2 h => ?_)
    cases h
    exact And.intro (trivial) rfl
set_option maxRecDepth 100000 in
theorem rx_e149 : rx_Ext none 149 := rx_Ext_plain (by decide +kernel)
set_option maxRecDepth 100000 in
set_option maxHeartbeats 4000000 in
theorem f_c_would_127_ok_w0 {p1 p2 p3 : Nat} {o : Int32 × rx_St} : ∀ (s1 : Int32) (s2 : Int32) (s3 : Int32) (s4 : Int32) (s5 : Int32) (s6 : Int32) (σ : rx_St), f_c_would_127 0 s1 s2 s3 s4 s5 s6 σ = some o → rx_AtP none 149 127 [] [.int s6, .int s5, .int s4, .int s3, .int s2, .int s1, .ref 76] (rx_D [7, p1, p2, p3, 7] σ) (some (.int o.1), rx_D [7, p1, p2, p3, 7] o.2) := by
  intro s1 s2 s3 s4 s5 s6 σ h
  refine rx_walk [127] 2000 (by decide) rx_e149 ?_
  unfold f_c_would_127 at h
  refine rr_callS h (fun y hy => f_gri_outermost_ok_w0 _ hy) (fun y1 hy1 h => ?_)
  cases h
  exact And.intro (trivial) rfl
set_option maxRecDepth 100000 in
set_option maxHeartbeats 4000000 in
theorem f_c_would_ok_w0 {p1 p2 p3 : Nat} {a0 : Int32} {a1 : Int32} {a2 : Int32} {a3 : Int32} {a4 : Int32} {a5 : Int32} {a6 : Int32} {σ : rx_St} : ∀ o, f_c_would 0 a0 a1 a2 a3 a4 a5 a6 σ = some o → rx_OK 149 [.ref 0, .int a0, .int a1, .int a2, .int a3, .int a4, .int a5, .int a6] 162 [] [7, p1, p2, p3, 7] σ (some (.int o.1), rx_D [7, p1, p2, p3, 7] o.2) := by
  intro o h
  refine rx_OK_of (by decide) (Nat.le_of_ble_eq_true rfl) ?_
  refine rx_walk [127] 2000 (by decide) rx_e149 ?_
  unfold f_c_would at h
  refine rr_callT (f_c_isSeeds_ok _ rfl) ?_
  refine rr_if h (fun c4 h => ?_) (fun c4 h => ?_)
  · skip
    cases h
    exact And.intro (trivial) rfl
  · skip
    refine rr_callT (f_wor_hasSetting_ok_w0 _ rfl) ?_
    refine rr_if h (fun c15 h => ?_) (fun c15 h => ?_)
    · skip
      cases h
      exact And.intro (trivial) rfl
    · skip
      refine rr_callT (f_c_isNumber_ok _ rfl) ?_
      refine rr_if h (fun c22 h => ?_) (fun c22 h => ?_)
      · skip
        cases h
        exact And.intro (trivial) rfl
      · skip
        refine rr_callT (f_c_isTime_ok _ rfl) ?_
        refine rr_if h (fun c30 h => ?_) (fun c30 h => ?_)
        · skip
          cases h
          exact And.intro (trivial) rfl
        · skip
          refine rr_callP h (fun y hy => f_wor_hasVar_ok_w0 _ hy) (fun y1 hy1 h => ?_)
          refine rr_if h (fun c44 h => ?_) (fun c44 h => ?_)
          · skip
            cases h
            exact And.intro (trivial) rfl
          · skip
            refine rr_if h (fun c52 h => ?_) (fun c52 h => ?_)
            · skip
              cases h
              exact And.intro (trivial) rfl
            · skip
              refine rr_if h (fun c58 h => ?_) (fun c58 h => ?_)
              · skip
                refine rr_callV h (fun y hy => f_gri_trySeeds_ok_w0 _ hy) (fun y2 hy2 h => ?_)
                refine rr_if h (fun c85 h => ?_) (fun c85 h => ?_)
                · skip
                  refine rr_callS h (fun y hy => f_gri_countMore_ok_w0 _ hy) (fun y4 hy4 h => ?_)
                  cases h
                  exact And.intro (trivial) rfl
                · skip
                  refine rr_if h (fun c119 h => ?_) (fun c119 h => ?_)
                  · skip
                    exact rx_sub (f_c_would_127_ok_w0 _ _ _ _ _ _ _ h) [] rfl
                  · skip
                    exact rx_sub (f_c_would_127_ok_w0 _ _ _ _ _ _ _ h) [] rfl
              · skip
                cases h
                exact And.intro (trivial) rfl
set_option maxRecDepth 100000 in
set_option maxHeartbeats 4000000 in
theorem f_c_would_127_ok_w1 {p1 p2 p3 : Nat} {o : Int32 × rx_St} : ∀ (s1 : Int32) (s2 : Int32) (s3 : Int32) (s4 : Int32) (s5 : Int32) (s6 : Int32) (σ : rx_St), f_c_would_127 1 s1 s2 s3 s4 s5 s6 σ = some o → rx_AtP none 149 127 [] [.int s6, .int s5, .int s4, .int s3, .int s2, .int s1, .ref 76] (rx_D [21, p1, p2, p3, 21] σ) (some (.int o.1), rx_D [21, p1, p2, p3, 21] o.2) := by
  intro s1 s2 s3 s4 s5 s6 σ h
  refine rx_walk [127] 2000 (by decide) rx_e149 ?_
  unfold f_c_would_127 at h
  refine rr_callS h (fun y hy => f_gri_outermost_ok_w1 _ hy) (fun y1 hy1 h => ?_)
  cases h
  exact And.intro (trivial) rfl
set_option maxRecDepth 100000 in
set_option maxHeartbeats 4000000 in
theorem f_c_would_ok_w1 {p1 p2 p3 : Nat} {a0 : Int32} {a1 : Int32} {a2 : Int32} {a3 : Int32} {a4 : Int32} {a5 : Int32} {a6 : Int32} {σ : rx_St} : ∀ o, f_c_would 1 a0 a1 a2 a3 a4 a5 a6 σ = some o → rx_OK 149 [.ref 0, .int a0, .int a1, .int a2, .int a3, .int a4, .int a5, .int a6] 162 [] [21, p1, p2, p3, 21] σ (some (.int o.1), rx_D [21, p1, p2, p3, 21] o.2) := by
  intro o h
  refine rx_OK_of (by decide) (Nat.le_of_ble_eq_true rfl) ?_
  refine rx_walk [127] 2000 (by decide) rx_e149 ?_
  unfold f_c_would at h
  refine rr_callT (f_c_isSeeds_ok _ rfl) ?_
  refine rr_if h (fun c4 h => ?_) (fun c4 h => ?_)
  · skip
    cases h
    exact And.intro (trivial) rfl
  · skip
    refine rr_callT (f_wor_hasSetting_ok_w1 _ rfl) ?_
    refine rr_if h (fun c15 h => ?_) (fun c15 h => ?_)
    · skip
      cases h
      exact And.intro (trivial) rfl
    · skip
      refine rr_callT (f_c_isNumber_ok _ rfl) ?_
      refine rr_if h (fun c22 h => ?_) (fun c22 h => ?_)
      · skip
        cases h
        exact And.intro (trivial) rfl
      · skip
        refine rr_callT (f_c_isTime_ok _ rfl) ?_
        refine rr_if h (fun c30 h => ?_) (fun c30 h => ?_)
        · skip
          cases h
          exact And.intro (trivial) rfl
        · skip
          refine rr_callP h (fun y hy => f_wor_hasVar_ok_w1 _ hy) (fun y1 hy1 h => ?_)
          refine rr_if h (fun c44 h => ?_) (fun c44 h => ?_)
          · skip
            cases h
            exact And.intro (trivial) rfl
          · skip
            refine rr_if h (fun c52 h => ?_) (fun c52 h => ?_)
            · skip
              cases h
              exact And.intro (trivial) rfl
            · skip
              refine rr_if h (fun c58 h => ?_) (fun c58 h => ?_)
              · skip
                refine rr_callV h (fun y hy => f_gri_trySeeds_ok_w1 _ hy) (fun y2 hy2 h => ?_)
                refine rr_if h (fun c85 h => ?_) (fun c85 h => ?_)
                · skip
                  refine rr_callS h (fun y hy => f_gri_countMore_ok_w1 _ hy) (fun y4 hy4 h => ?_)
                  cases h
                  exact And.intro (trivial) rfl
                · skip
                  refine rr_if h (fun c119 h => ?_) (fun c119 h => ?_)
                  · skip
                    exact rx_sub (f_c_would_127_ok_w1 _ _ _ _ _ _ _ h) [] rfl
                  · skip
                    exact rx_sub (f_c_would_127_ok_w1 _ _ _ _ _ _ _ h) [] rfl
              · skip
                cases h
                exact And.intro (trivial) rfl
set_option maxRecDepth 100000 in
theorem rx_e150 : rx_Ext none 150 := rx_Ext_plain (by decide +kernel)
set_option maxRecDepth 100000 in
set_option maxHeartbeats 4000000 in
theorem f_c_tells_ok {P : List Nat} {σ : rx_St} {a0 : Int32} {a1 : Int32} {a2 : Int32} : ∀ o, f_c_tells a0 a1 a2 = some o → rx_OK 150 [.ref 0, .int a0, .int a1, .int a2] 162 [] P σ (some (.int o), rx_D P σ) := by
  intro o h
  refine rx_OK_of (by decide) (Nat.le_of_ble_eq_true rfl) ?_
  refine rx_walk [] 2000 (by decide) rx_e150 ?_
  unfold f_c_tells at h
  refine rr_callT (f_pla_hasEffects_ok _ rfl) ?_
  refine rr_if h (fun c5 h => ?_) (fun c5 h => ?_)
  · skip
    cases h
    exact And.intro (trivial) rfl
  · skip
    refine rr_callT (f_pla_hasPlan_ok _ rfl) ?_
    refine rr_if h (fun c13 h => ?_) (fun c13 h => ?_)
    · skip
      cases h
      exact And.intro (trivial) rfl
    · skip
      refine rr_callP h (fun y hy => f_pla_isTelling_ok _ hy) (fun y1 hy1 h => ?_)
      refine rr_if h (fun c24 h => ?_) (fun c24 h => ?_)
      · skip
        cases h
        exact And.intro (trivial) rfl
      · skip
        cases h
        exact And.intro (trivial) rfl
set_option maxRecDepth 100000 in
theorem rx_e151 : rx_Ext none 151 := rx_Ext_plain (by decide +kernel)
set_option maxRecDepth 100000 in
set_option maxHeartbeats 4000000 in
theorem f_c_fewest_ok {P : List Nat} {σ : rx_St} {a0 : Int32} {a1 : Int32} : ∀ o, f_c_fewest a0 a1 = some o → rx_OK 151 [.ref 0, .int a0, .int a1] 162 [] P σ (some (.int o), rx_D P σ) := by
  intro o h
  refine rx_OK_of (by decide) (Nat.le_of_ble_eq_true rfl) ?_
  refine rx_walk [] 2000 (by decide) rx_e151 ?_
  unfold f_c_fewest at h
  refine rr_callT (f_pla_hasEffects_ok _ rfl) ?_
  refine rr_if h (fun c5 h => ?_) (fun c5 h => ?_)
  · skip
    cases h
    exact And.intro (trivial) rfl
  · skip
    refine rr_callP h (fun y hy => f_pla_fewestRows_ok _ hy) (fun y1 hy1 h => ?_)
    cases h
    exact And.intro (trivial) rfl
set_option maxRecDepth 100000 in
theorem rx_e152 : rx_Ext none 152 := rx_Ext_plain (by decide +kernel)
set_option maxRecDepth 100000 in
set_option maxHeartbeats 4000000 in
theorem f_c_count_ok_w0 {p1 p2 p3 p4 : Nat} {a0 : Int32} {σ : rx_St} : ∀ o, f_c_count 0 a0 σ = some o → rx_OK 152 [.ref 0, .int a0] 162 [] [7, p1, p2, p3, p4] σ (some (.int o), rx_D [7, p1, p2, p3, p4] σ) := by
  intro o h
  refine rx_OK_of (by decide) (Nat.le_of_ble_eq_true rfl) ?_
  refine rx_walk [] 2000 (by decide) rx_e152 ?_
  unfold f_c_count at h
  refine rr_callT (f_wor_hasKind_ok_w0 _ rfl) ?_
  refine rr_if h (fun c11 h => ?_) (fun c11 h => ?_)
  · skip
    refine rr_callT (f_wor_hasKind_ok_w0 _ rfl) ?_
    refine rr_if h (fun c38 h => ?_) (fun c38 h => ?_)
    · skip
      refine rr_if h (fun c55_0 h => ?_) (fun c55_0 h => ?_)
      · skip
        cases h
        exact And.intro (trivial) rfl
      · skip
        refine rr_if h (fun c55_1 h => ?_) (fun c55_1 h => ?_)
        · skip
          cases h
          exact And.intro (trivial) rfl
        · skip
          refine rr_if h (fun c55_2 h => ?_) (fun c55_2 h => ?_)
          · skip
            cases h
            exact And.intro (trivial) rfl
          · skip
            refine rr_if h (fun c55_3 h => ?_) (fun c55_3 h => ?_)
            · skip
              cases h
              exact And.intro (trivial) rfl
            · skip
              refine rr_if h (fun c55_4 h => ?_) (fun c55_4 h => ?_)
              · skip
                cases h
                exact And.intro (trivial) rfl
              · skip
                refine rr_if h (fun c55_5 h => ?_) (fun c55_5 h => ?_)
                · skip
                  cases h
                  exact And.intro (trivial) rfl
                · skip
                  refine rr_if h (fun c55_6 h => ?_) (fun c55_6 h => ?_)
                  · skip
                    cases h
                    exact And.intro (trivial) rfl
                  · skip
                    cases h
                    exact And.intro (trivial) rfl
    · skip
      refine rr_g h (fun c52 h => ?_)
      cases h
      exact And.intro (trivial) rfl
  · skip
    refine rr_g h (fun c25 h => ?_)
    cases h
    exact And.intro (trivial) rfl
set_option maxRecDepth 100000 in
set_option maxHeartbeats 4000000 in
theorem f_c_count_ok_w1 {p1 p2 p3 p4 : Nat} {a0 : Int32} {σ : rx_St} : ∀ o, f_c_count 1 a0 σ = some o → rx_OK 152 [.ref 0, .int a0] 162 [] [21, p1, p2, p3, p4] σ (some (.int o), rx_D [21, p1, p2, p3, p4] σ) := by
  intro o h
  refine rx_OK_of (by decide) (Nat.le_of_ble_eq_true rfl) ?_
  refine rx_walk [] 2000 (by decide) rx_e152 ?_
  unfold f_c_count at h
  refine rr_callT (f_wor_hasKind_ok_w1 _ rfl) ?_
  refine rr_if h (fun c11 h => ?_) (fun c11 h => ?_)
  · skip
    refine rr_callT (f_wor_hasKind_ok_w1 _ rfl) ?_
    refine rr_if h (fun c38 h => ?_) (fun c38 h => ?_)
    · skip
      refine rr_if h (fun c55_0 h => ?_) (fun c55_0 h => ?_)
      · skip
        cases h
        exact And.intro (trivial) rfl
      · skip
        refine rr_if h (fun c55_1 h => ?_) (fun c55_1 h => ?_)
        · skip
          cases h
          exact And.intro (trivial) rfl
        · skip
          refine rr_if h (fun c55_2 h => ?_) (fun c55_2 h => ?_)
          · skip
            cases h
            exact And.intro (trivial) rfl
          · skip
            refine rr_if h (fun c55_3 h => ?_) (fun c55_3 h => ?_)
            · skip
              cases h
              exact And.intro (trivial) rfl
            · skip
              refine rr_if h (fun c55_4 h => ?_) (fun c55_4 h => ?_)
              · skip
                cases h
                exact And.intro (trivial) rfl
              · skip
                refine rr_if h (fun c55_5 h => ?_) (fun c55_5 h => ?_)
                · skip
                  cases h
                  exact And.intro (trivial) rfl
                · skip
                  refine rr_if h (fun c55_6 h => ?_) (fun c55_6 h => ?_)
                  · skip
                    cases h
                    exact And.intro (trivial) rfl
                  · skip
                    cases h
                    exact And.intro (trivial) rfl
    · skip
      refine rr_g h (fun c52 h => ?_)
      cases h
      exact And.intro (trivial) rfl
  · skip
    refine rr_g h (fun c25 h => ?_)
    cases h
    exact And.intro (trivial) rfl
set_option maxRecDepth 100000 in
theorem rx_e161 : rx_Ext none 161 := rx_Ext_plain (by decide +kernel)
set_option maxRecDepth 100000 in
set_option maxHeartbeats 4000000 in
theorem f_m_thrown_ok {P : List Nat} {σ : rx_St} : ∀ o, f_m_thrown σ = o → rx_OK 161 [.ref 87] 162 [] P σ (some (.int o), rx_D P σ) := by
  intro o h
  refine rx_OK_of (by decide) (Nat.le_of_ble_eq_true rfl) ?_
  refine rx_walk [] 2000 (by decide) rx_e161 ?_
  unfold f_m_thrown at h
  cases h
  exact And.intro (trivial) rfl
set_option maxRecDepth 100000 in
theorem rx_e169 : rx_Ext none 169 := rx_Ext_plain (by decide +kernel)
set_option maxRecDepth 100000 in
set_option maxHeartbeats 4000000 in
theorem f_m_more_ok {P : List Nat} {σ : rx_St} {a0 : Int64} {a1 : Int32} : ∀ o, f_m_more a0 a1 = o → rx_OK 169 [.long a0, .int a1] 162 [] P σ (some (.long o), rx_D P σ) := by
  intro o h
  refine rx_OK_of (by decide) (Nat.le_of_ble_eq_true rfl) ?_
  refine rx_walk [] 2000 (by decide) rx_e169 ?_
  unfold f_m_more at h
  refine rr_if h (fun c1 h => ?_) (fun c1 h => ?_)
  · skip
    cases h
    exact And.intro (rfl) rfl
  · skip
    cases h
    exact And.intro (rfl) rfl
set_option maxRecDepth 100000 in
theorem rx_e170 : rx_Ext none 170 := rx_Ext_plain (by decide +kernel)
set_option maxRecDepth 100000 in
set_option maxHeartbeats 4000000 in
theorem f_m_word_ok {P : List Nat} {σ : rx_St} {a0 : Int32} {a1 : Int32} {a2 : Int32} {a3 : Int32} {a4 : Int32} {a5 : Int32} {a6 : Int32} : ∀ o, f_m_word a0 a1 a2 a3 a4 a5 a6 = o → rx_OK 170 [.int a0, .int a1, .int a2, .int a3, .int a4, .int a5, .int a6] 162 [] P σ (some (.long o), rx_D P σ) := by
  intro o h
  refine rx_OK_of (by decide) (Nat.le_of_ble_eq_true rfl) ?_
  refine rx_walk [] 2000 (by decide) rx_e170 ?_
  unfold f_m_word at h
  refine rr_callT (f_m_more_ok _ rfl) ?_
  refine rr_callT (f_m_more_ok _ rfl) ?_
  refine rr_callT (f_m_more_ok _ rfl) ?_
  refine rr_callT (f_m_more_ok _ rfl) ?_
  refine rr_callT (f_m_more_ok _ rfl) ?_
  refine rr_callT (f_m_more_ok _ rfl) ?_
  refine rr_callT (f_m_more_ok _ rfl) ?_
  cases h
  exact And.intro (rfl) rfl
set_option maxRecDepth 100000 in
theorem rx_e164 : rx_Ext none 164 := rx_Ext_plain (by decide +kernel)
set_option maxRecDepth 100000 in
set_option maxHeartbeats 4000000 in
theorem f_m_put_3_ok {P : List Nat} {o : rx_St} : ∀ (n : Nat) (v1 : Int32) (v2 : Int32) (σ : rx_St), f_m_put_3 n v1 v2 σ = some o → rx_AtP none 164 3 [(0, .ref 87), (1, .int v1), (2, .int v2)] [] (rx_D P σ) (none, rx_D P o) := by
  intro n
  induction n with
  | zero => intro _ _ _ h; cases h
  | succ n ih =>
  intro v1 v2 σ h
  refine rx_walk [3] 2000 (by decide) rx_e164 ?_
  rw [f_m_put_3] at h
  refine rr_if h (fun c4 h => ?_) (fun c4 h => ?_)
  · skip
    cases h
    exact And.intro (rfl) rfl
  · skip
    refine rr_g h (fun c19 h => ?_)
    exact rx_sub (ih _ _ _ h) [1, 2, 0] rfl
set_option maxRecDepth 100000 in
set_option maxHeartbeats 4000000 in
theorem f_m_put_ok {P : List Nat} {a0 : Int32} {σ : rx_St} : ∀ o, f_m_put a0 σ = some o → rx_OK 164 [.ref 87, .int a0] 162 [] P σ (none, rx_D P o) := by
  intro o h
  refine rx_OK_of (by decide) (Nat.le_of_ble_eq_true rfl) ?_
  refine rx_walk [3] 2000 (by decide) rx_e164 ?_
  unfold f_m_put at h
  exact rx_sub (f_m_put_3_ok rx_fu _ _ _ h) [1, 2, 0] rfl
set_option maxRecDepth 100000 in
theorem rx_e163 : rx_Ext none 163 := rx_Ext_plain (by decide +kernel)
set_option maxRecDepth 100000 in
set_option maxHeartbeats 4000000 in
theorem f_m_feed_ok {P : List Nat} {a0 : Int32} {a1 : Int32} {a2 : Int32} {a3 : Int32} {a4 : Int32} {σ : rx_St} : ∀ o, f_m_feed a0 a1 a2 a3 a4 σ = some o → rx_OK 163 [.ref 87, .int a0, .int a1, .int a2, .int a3, .int a4] 162 [] P σ (some (.int o.1), rx_D P o.2) := by
  intro o h
  refine rx_OK_of (by decide) (Nat.le_of_ble_eq_true rfl) ?_
  refine rx_walk [] 2000 (by decide) rx_e163 ?_
  unfold f_m_feed at h
  refine rr_if h (fun c15 h => ?_) (fun c15 h => ?_)
  · skip
    refine rr_callV h (fun y hy => f_m_put_ok _ hy) (fun y1 hy1 h => ?_)
    refine rr_callV h (fun y hy => f_m_put_ok _ hy) (fun y2 hy2 h => ?_)
    refine rr_callV h (fun y hy => f_m_put_ok _ hy) (fun y3 hy3 h => ?_)
    refine rr_callV h (fun y hy => f_m_put_ok _ hy) (fun y4 hy4 h => ?_)
    refine rr_callV h (fun y hy => f_m_put_ok _ hy) (fun y5 hy5 h => ?_)
    cases h
    exact And.intro (trivial) rfl
  · skip
    cases h
    exact And.intro (trivial) rfl
set_option maxRecDepth 100000 in
theorem rx_e165 : rx_Ext none 165 := rx_Ext_plain (by decide +kernel)
set_option maxRecDepth 100000 in
set_option maxHeartbeats 4000000 in
theorem f_m_back_ok {P : List Nat} {a0 : Int32} {σ : rx_St} : ∀ o, f_m_back a0 σ = some o → rx_OK 165 [.ref 87, .int a0] 162 [] P σ (some (.int o.1), rx_D P o.2) := by
  intro o h
  refine rx_OK_of (by decide) (Nat.le_of_ble_eq_true rfl) ?_
  refine rx_walk [] 2000 (by decide) rx_e165 ?_
  unfold f_m_back at h
  refine rr_if h (fun c6 h => ?_) (fun c6 h => ?_)
  · skip
    cases h
    exact And.intro (trivial) rfl
  · skip
    refine rr_if h (fun c14 h => ?_) (fun c14 h => ?_)
    · skip
      cases h
      exact And.intro (trivial) rfl
    · skip
      cases h
      exact And.intro (trivial) rfl
set_option maxRecDepth 100000 in
theorem rx_e166 : rx_Ext none 166 := rx_Ext_plain (by decide +kernel)
set_option maxRecDepth 100000 in
set_option maxHeartbeats 4000000 in
theorem f_m_at_ok {P : List Nat} {a0 : Int32} {σ : rx_St} : ∀ o, f_m_at a0 σ = some o → rx_OK 166 [.ref 87, .int a0] 162 [] P σ (some (.int o), rx_D P σ) := by
  intro o h
  refine rx_OK_of (by decide) (Nat.le_of_ble_eq_true rfl) ?_
  refine rx_walk [] 2000 (by decide) rx_e166 ?_
  unfold f_m_at at h
  refine rr_if h (fun c5 h => ?_) (fun c5 h => ?_)
  · skip
    cases h
    exact And.intro (trivial) rfl
  · skip
    refine rr_g h (fun c13 h => ?_)
    cases h
    exact And.intro (trivial) rfl
set_option maxRecDepth 100000 in
theorem rx_e167 : rx_Ext none 167 := rx_Ext_plain (by decide +kernel)
set_option maxRecDepth 100000 in
set_option maxHeartbeats 4000000 in
theorem f_m_isDigit_ok {P : List Nat} {σ : rx_St} {a0 : Int32} : ∀ o, f_m_isDigit a0 = o → rx_OK 167 [.int a0] 162 [] P σ (some (.int o), rx_D P σ) := by
  intro o h
  refine rx_OK_of (by decide) (Nat.le_of_ble_eq_true rfl) ?_
  refine rx_walk [] 2000 (by decide) rx_e167 ?_
  unfold f_m_isDigit at h
  refine rr_if h (fun c3 h => ?_) (fun c3 h => ?_)
  · skip
    cases h
    exact And.intro (Or.inl rfl) rfl
  · skip
    refine rr_if h (fun c9 h => ?_) (fun c9 h => ?_)
    · skip
      cases h
      exact And.intro (Or.inl rfl) rfl
    · skip
      cases h
      exact And.intro (Or.inr rfl) rfl
set_option maxRecDepth 100000 in
theorem rx_e168 : rx_Ext none 168 := rx_Ext_plain (by decide +kernel)
set_option maxRecDepth 100000 in
set_option maxHeartbeats 4000000 in
theorem f_m_isLetter_ok {P : List Nat} {σ : rx_St} {a0 : Int32} : ∀ o, f_m_isLetter a0 = o → rx_OK 168 [.int a0] 162 [] P σ (some (.int o), rx_D P σ) := by
  intro o h
  refine rx_OK_of (by decide) (Nat.le_of_ble_eq_true rfl) ?_
  refine rx_walk [] 2000 (by decide) rx_e168 ?_
  unfold f_m_isLetter at h
  refine rr_if h (fun c3 h => ?_) (fun c3 h => ?_)
  · skip
    cases h
    exact And.intro (Or.inl rfl) rfl
  · skip
    refine rr_if h (fun c9 h => ?_) (fun c9 h => ?_)
    · skip
      cases h
      exact And.intro (Or.inl rfl) rfl
    · skip
      cases h
      exact And.intro (Or.inr rfl) rfl
set_option maxRecDepth 100000 in
theorem rx_e171 : rx_Ext none 171 := rx_Ext_plain (by decide +kernel)
set_option maxRecDepth 100000 in
set_option maxHeartbeats 4000000 in
theorem f_m_token_ok {P : List Nat} {a0 : Int32} {a1 : Int32} {a2 : Int32} {a3 : Int64} {σ : rx_St} : ∀ o, f_m_token a0 a1 a2 a3 σ = some o → rx_OK 171 [.ref 87, .int a0, .int a1, .int a2, .long a3] 162 [] P σ (none, rx_D P o) := by
  intro o h
  refine rx_OK_of (by decide) (Nat.le_of_ble_eq_true rfl) ?_
  refine rx_walk [] 2000 (by decide) rx_e171 ?_
  unfold f_m_token at h
  refine rr_g h (fun c9 h => ?_)
  refine rr_g h (fun c19 h => ?_)
  refine rr_g h (fun c29 h => ?_)
  refine rr_g h (fun c40 h => ?_)
  cases h
  exact And.intro (rfl) rfl
set_option maxRecDepth 100000 in
theorem rx_e173 : rx_Ext none 173 := rx_Ext_plain (by decide +kernel)
set_option maxRecDepth 100000 in
set_option maxHeartbeats 4000000 in
theorem f_m_sign_173_ok {P : List Nat} {o : Int32 × rx_St} : ∀ (v1 : Int32) (v4 : Int32) (v5 : Int32) (σ : rx_St), f_m_sign_173 v1 v4 v5 σ = some o → rx_AtP none 173 173 [(0, .ref 87), (1, .int v1), (4, .int v4), (5, .int v5)] [] (rx_D P σ) (some (.int o.1), rx_D P o.2) := by
  intro v1 v4 v5 σ h
  refine rx_walk [44, 173] 2000 (by decide) rx_e173 ?_
  unfold f_m_sign_173 at h
  refine rr_callV h (fun y hy => f_m_token_ok _ hy) (fun y1 hy1 h => ?_)
  refine rr_if h (fun c184 h => ?_) (fun c184 h => ?_)
  · skip
    cases h
    exact And.intro (trivial) rfl
  · skip
    cases h
    exact And.intro (trivial) rfl
set_option maxRecDepth 100000 in
set_option maxHeartbeats 4000000 in
theorem f_m_sign_44_ok {P : List Nat} {o : Int32 × rx_St} : ∀ (v1 : Int32) (v2 : Int32) (s0 : Int32) (σ : rx_St), f_m_sign_44 v1 v2 s0 σ = some o → rx_AtP none 173 44 [(0, .ref 87), (1, .int v1), (2, .int v2)] [.int s0] (rx_D P σ) (some (.int o.1), rx_D P o.2) := by
  intro v1 v2 s0 σ h
  refine rx_walk [44, 173] 2000 (by decide) rx_e173 ?_
  unfold f_m_sign_44 at h
  refine rr_if h (fun c51 h => ?_) (fun c51 h => ?_)
  · skip
    refine rr_if h (fun c64 h => ?_) (fun c64 h => ?_)
    · skip
      exact rx_sub (f_m_sign_173_ok _ _ _ _ h) [2, 3, 1, 0] rfl
    · skip
      refine rr_if h (fun c76 h => ?_) (fun c76 h => ?_)
      · skip
        exact rx_sub (f_m_sign_173_ok _ _ _ _ h) [2, 3, 1, 0] rfl
      · skip
        refine rr_if h (fun c89 h => ?_) (fun c89 h => ?_)
        · skip
          exact rx_sub (f_m_sign_173_ok _ _ _ _ h) [2, 3, 1, 0] rfl
        · skip
          refine rr_if h (fun c102 h => ?_) (fun c102 h => ?_)
          · skip
            exact rx_sub (f_m_sign_173_ok _ _ _ _ h) [2, 3, 1, 0] rfl
          · skip
            refine rr_if h (fun c115 h => ?_) (fun c115 h => ?_)
            · skip
              exact rx_sub (f_m_sign_173_ok _ _ _ _ h) [2, 3, 1, 0] rfl
            · skip
              refine rr_if h (fun c128 h => ?_) (fun c128 h => ?_)
              · skip
                exact rx_sub (f_m_sign_173_ok _ _ _ _ h) [2, 3, 1, 0] rfl
              · skip
                refine rr_if h (fun c141 h => ?_) (fun c141 h => ?_)
                · skip
                  exact rx_sub (f_m_sign_173_ok _ _ _ _ h) [2, 3, 1, 0] rfl
                · skip
                  refine rr_if h (fun c154 h => ?_) (fun c154 h => ?_)
                  · skip
                    exact rx_sub (f_m_sign_173_ok _ _ _ _ h) [2, 3, 1, 0] rfl
                  · skip
                    refine rr_if h (fun c167 h => ?_) (fun c167 h => ?_)
                    · skip
                      exact rx_sub (f_m_sign_173_ok _ _ _ _ h) [2, 3, 1, 0] rfl
                    · skip
                      exact rx_sub (f_m_sign_173_ok _ _ _ _ h) [2, 3, 1, 0] rfl
  · skip
    exact rx_sub (f_m_sign_173_ok _ _ _ _ h) [2, 3, 1, 0] rfl
set_option maxRecDepth 100000 in
set_option maxHeartbeats 4000000 in
theorem f_m_sign_ok {P : List Nat} {a0 : Int32} {a1 : Int32} {a2 : Int32} {σ : rx_St} : ∀ o, f_m_sign a0 a1 a2 σ = some o → rx_OK 173 [.ref 87, .int a0, .int a1, .int a2] 162 [] P σ (some (.int o.1), rx_D P o.2) := by
  intro o h
  refine rx_OK_of (by decide) (Nat.le_of_ble_eq_true rfl) ?_
  refine rx_walk [44, 173] 2000 (by decide) rx_e173 ?_
  unfold f_m_sign at h
  refine rr_if h (fun c3 h => ?_) (fun c3 h => ?_)
  · skip
    refine rr_if h (fun c13 h => ?_) (fun c13 h => ?_)
    · skip
      exact rx_sub (f_m_sign_44_ok _ _ _ _ h) [0, 1, 2] rfl
    · skip
      refine rr_if h (fun c24 h => ?_) (fun c24 h => ?_)
      · skip
        exact rx_sub (f_m_sign_44_ok _ _ _ _ h) [0, 1, 2] rfl
      · skip
        refine rr_if h (fun c35 h => ?_) (fun c35 h => ?_)
        · skip
          exact rx_sub (f_m_sign_44_ok _ _ _ _ h) [0, 1, 2] rfl
        · skip
          exact rx_sub (f_m_sign_44_ok _ _ _ _ h) [0, 1, 2] rfl
  · skip
    exact rx_sub (f_m_sign_44_ok _ _ _ _ h) [0, 1, 2] rfl
set_option maxRecDepth 100000 in
theorem rx_e172 : rx_Ext none 172 := rx_Ext_plain (by decide +kernel)
set_option maxRecDepth 100000 in
set_option maxHeartbeats 4000000 in
theorem f_m_cut_291_ok {P : List Nat} {o : rx_St} {k7 : Int32 → rx_St → Option (rx_St)} (hk7 : ∀ (v1 : Int32) (σ : rx_St), k7 v1 σ = some o → rx_AtP none 172 7 [(0, .ref 87), (1, .int v1)] [] (rx_D P σ) (none, rx_D P o)) : ∀ (v1 : Int32) (σ : rx_St), f_m_cut_291 k7 v1 σ = some o → rx_AtP none 172 291 [(0, .ref 87), (1, .int v1)] [] (rx_D P σ) (none, rx_D P o) := by
  intro v1 σ h
  refine rx_walk [7, 67, 85, 118, 135, 146, 173, 179, 208, 244, 261, 291] 2000 (by decide) rx_e172 ?_
  unfold f_m_cut_291 at h
  exact rx_sub (hk7 _ _ h) [0, 1] rfl
set_option maxRecDepth 100000 in
set_option maxHeartbeats 4000000 in
theorem f_m_cut_67_ok {P : List Nat} {o : rx_St} {k7 : Int32 → rx_St → Option (rx_St)} (hk7 : ∀ (v1 : Int32) (σ : rx_St), k7 v1 σ = some o → rx_AtP none 172 7 [(0, .ref 87), (1, .int v1)] [] (rx_D P σ) (none, rx_D P o)) : ∀ (v1 : Int32) (σ : rx_St), f_m_cut_67 k7 v1 σ = some o → rx_AtP none 172 67 [(0, .ref 87), (1, .int v1)] [] (rx_D P σ) (none, rx_D P o) := by
  intro v1 σ h
  refine rx_walk [7, 67, 85, 118, 135, 146, 173, 179, 208, 244, 261, 291] 2000 (by decide) rx_e172 ?_
  unfold f_m_cut_67 at h
  exact rx_sub (f_m_cut_291_ok hk7 _ _ h) [1, 0] rfl
set_option maxRecDepth 100000 in
set_option maxHeartbeats 4000000 in
theorem f_m_cut_261_ok {P : List Nat} {o : rx_St} {k7 : Int32 → rx_St → Option (rx_St)} (hk7 : ∀ (v1 : Int32) (σ : rx_St), k7 v1 σ = some o → rx_AtP none 172 7 [(0, .ref 87), (1, .int v1)] [] (rx_D P σ) (none, rx_D P o)) : ∀ (v1 : Int32) (v3 : Int32) (v4 : Int32) (s1 : Int32) (σ : rx_St), f_m_cut_261 k7 v1 v3 v4 s1 σ = some o → rx_AtP none 172 261 [(0, .ref 87), (1, .int v1), (3, .int v3), (4, .int v4)] [.int s1, .ref 87] (rx_D P σ) (none, rx_D P o) := by
  intro v1 v3 v4 s1 σ h
  refine rx_walk [7, 67, 85, 118, 135, 146, 173, 179, 208, 244, 261, 291] 2000 (by decide) rx_e172 ?_
  unfold f_m_cut_261 at h
  refine rr_callV h (fun y hy => f_m_token_ok _ hy) (fun y1 hy1 h => ?_)
  exact rx_sub (f_m_cut_291_ok hk7 _ _ h) [1, 0] rfl
set_option maxRecDepth 100000 in
set_option maxHeartbeats 4000000 in
theorem f_m_cut_244_ok {P : List Nat} {o : rx_St} {k7 : Int32 → rx_St → Option (rx_St)} {k208 : Int32 → Int32 → Int32 → rx_St → Option (rx_St)} (hk7 : ∀ (v1 : Int32) (σ : rx_St), k7 v1 σ = some o → rx_AtP none 172 7 [(0, .ref 87), (1, .int v1)] [] (rx_D P σ) (none, rx_D P o)) (hk208 : ∀ (v1 : Int32) (v3 : Int32) (v4 : Int32) (σ : rx_St), k208 v1 v3 v4 σ = some o → rx_AtP none 172 208 [(0, .ref 87), (1, .int v1), (3, .int v3), (4, .int v4)] [] (rx_D P σ) (none, rx_D P o)) : ∀ (v1 : Int32) (v3 : Int32) (v4 : Int32) (σ : rx_St), f_m_cut_244 k7 k208 v1 v3 v4 σ = some o → rx_AtP none 172 244 [(0, .ref 87), (1, .int v1), (3, .int v3), (4, .int v4)] [] (rx_D P σ) (none, rx_D P o) := by
  intro v1 v3 v4 σ h
  refine rx_walk [7, 67, 85, 118, 135, 146, 173, 179, 208, 244, 261, 291] 2000 (by decide) rx_e172 ?_
  unfold f_m_cut_244 at h
  exact rx_sub (hk208 _ _ _ _ h) [1, 2, 0, 3] rfl
set_option maxRecDepth 100000 in
set_option maxHeartbeats 4000000 in
theorem f_m_cut_208_ok {P : List Nat} {o : rx_St} {k7 : Int32 → rx_St → Option (rx_St)} (hk7 : ∀ (v1 : Int32) (σ : rx_St), k7 v1 σ = some o → rx_AtP none 172 7 [(0, .ref 87), (1, .int v1)] [] (rx_D P σ) (none, rx_D P o)) : ∀ (n : Nat) (v1 : Int32) (v3 : Int32) (v4 : Int32) (σ : rx_St), f_m_cut_208 k7 n v1 v3 v4 σ = some o → rx_AtP none 172 208 [(0, .ref 87), (1, .int v1), (3, .int v3), (4, .int v4)] [] (rx_D P σ) (none, rx_D P o) := by
  intro n
  induction n with
  | zero => intro _ _ _ _ h; cases h
  | succ n ih =>
  intro v1 v3 v4 σ h
  refine rx_walk [7, 67, 85, 118, 135, 146, 173, 179, 208, 244, 261, 291] 2000 (by decide) rx_e172 ?_
  rw [f_m_cut_208] at h
  refine rr_callP h (fun y hy => f_m_at_ok _ hy) (fun y1 hy1 h => ?_)
  refine rr_callT (f_m_isDigit_ok _ rfl) ?_
  refine rr_if h (fun c218 h => ?_) (fun c218 h => ?_)
  · skip
    refine rr_if h (fun c253 h => ?_) (fun c253 h => ?_)
    · skip
      exact rx_sub (f_m_cut_261_ok hk7 _ _ _ _ _ h) [0, 1, 2, 3] rfl
    · skip
      exact rx_sub (f_m_cut_261_ok hk7 _ _ _ _ _ h) [0, 1, 2, 3] rfl
  · skip
    refine rr_if h (fun c223 h => ?_) (fun c223 h => ?_)
    · skip
      exact rx_sub (f_m_cut_244_ok hk7 ih _ _ _ _ h) [0, 1, 2, 3] rfl
    · skip
      refine rr_callP h (fun y hy => f_m_at_ok _ hy) (fun y2 hy2 h => ?_)
      exact rx_sub (f_m_cut_244_ok hk7 ih _ _ _ _ h) [1, 2, 3, 0] rfl
set_option maxRecDepth 100000 in
set_option maxHeartbeats 4000000 in
theorem f_m_cut_179_ok {P : List Nat} {o : rx_St} {k7 : Int32 → rx_St → Option (rx_St)} (hk7 : ∀ (v1 : Int32) (σ : rx_St), k7 v1 σ = some o → rx_AtP none 172 7 [(0, .ref 87), (1, .int v1)] [] (rx_D P σ) (none, rx_D P o)) : ∀ (v1 : Int32) (v3 : Int32) (v4 : Int64) (v6 : Int32) (σ : rx_St), f_m_cut_179 k7 v1 v3 v4 v6 σ = some o → rx_AtP none 172 179 [(0, .ref 87), (1, .int v1), (3, .int v3), (4, .long v4), (6, .int v6)] [] (rx_D P σ) (none, rx_D P o) := by
  intro v1 v3 v4 v6 σ h
  refine rx_walk [7, 67, 85, 118, 135, 146, 173, 179, 208, 244, 261, 291] 2000 (by decide) rx_e172 ?_
  unfold f_m_cut_179 at h
  refine rr_callV h (fun y hy => f_m_token_ok _ hy) (fun y1 hy1 h => ?_)
  exact rx_sub (f_m_cut_291_ok hk7 _ _ h) [1, 0] rfl
set_option maxRecDepth 100000 in
set_option maxHeartbeats 4000000 in
theorem f_m_cut_173_ok {P : List Nat} {o : rx_St} {k7 : Int32 → rx_St → Option (rx_St)} {k146 : Int32 → Int32 → Int64 → Int32 → Int32 → rx_St → Option (rx_St)} (hk7 : ∀ (v1 : Int32) (σ : rx_St), k7 v1 σ = some o → rx_AtP none 172 7 [(0, .ref 87), (1, .int v1)] [] (rx_D P σ) (none, rx_D P o)) (hk146 : ∀ (v1 : Int32) (v3 : Int32) (v4 : Int64) (v6 : Int32) (v7 : Int32) (σ : rx_St), k146 v1 v3 v4 v6 v7 σ = some o → rx_AtP none 172 146 [(0, .ref 87), (1, .int v1), (3, .int v3), (4, .long v4), (6, .int v6), (7, .int v7)] [] (rx_D P σ) (none, rx_D P o)) : ∀ (v1 : Int32) (v3 : Int32) (v4 : Int64) (v6 : Int32) (v7 : Int32) (σ : rx_St), f_m_cut_173 k7 k146 v1 v3 v4 v6 v7 σ = some o → rx_AtP none 172 173 [(0, .ref 87), (1, .int v1), (3, .int v3), (4, .long v4), (6, .int v6), (7, .int v7)] [] (rx_D P σ) (none, rx_D P o) := by
  intro v1 v3 v4 v6 v7 σ h
  refine rx_walk [7, 67, 85, 118, 135, 146, 173, 179, 208, 244, 261, 291] 2000 (by decide) rx_e172 ?_
  unfold f_m_cut_173 at h
  exact rx_sub (hk146 _ _ _ _ _ _ h) [1, 2, 3, 4, 5, 0] rfl
set_option maxRecDepth 100000 in
set_option maxHeartbeats 4000000 in
theorem f_m_cut_146_ok {P : List Nat} {o : rx_St} {k7 : Int32 → rx_St → Option (rx_St)} (hk7 : ∀ (v1 : Int32) (σ : rx_St), k7 v1 σ = some o → rx_AtP none 172 7 [(0, .ref 87), (1, .int v1)] [] (rx_D P σ) (none, rx_D P o)) : ∀ (n : Nat) (v1 : Int32) (v3 : Int32) (v4 : Int64) (v6 : Int32) (v7 : Int32) (σ : rx_St), f_m_cut_146 k7 n v1 v3 v4 v6 v7 σ = some o → rx_AtP none 172 146 [(0, .ref 87), (1, .int v1), (3, .int v3), (4, .long v4), (6, .int v6), (7, .int v7)] [] (rx_D P σ) (none, rx_D P o) := by
  intro n
  induction n with
  | zero => intro _ _ _ _ _ _ h; cases h
  | succ n ih =>
  intro v1 v3 v4 v6 v7 σ h
  refine rx_walk [7, 67, 85, 118, 135, 146, 173, 179, 208, 244, 261, 291] 2000 (by decide) rx_e172 ?_
  rw [f_m_cut_146] at h
  refine rr_if h (fun c150 h => ?_) (fun c150 h => ?_)
  · skip
    exact rx_sub (f_m_cut_179_ok hk7 _ _ _ _ _ h) [0, 1, 2, 3, 4] rfl
  · skip
    refine rr_g h (fun c159 h => ?_)
    refine rr_if h (fun c163 h => ?_) (fun c163 h => ?_)
    · skip
      exact rx_sub (f_m_cut_173_ok hk7 ih _ _ _ _ _ _ h) [1, 2, 3, 4, 0, 5] rfl
    · skip
      exact rx_sub (f_m_cut_173_ok hk7 ih _ _ _ _ _ _ h) [0, 1, 2, 3, 4, 5] rfl
set_option maxRecDepth 100000 in
set_option maxHeartbeats 4000000 in
theorem f_m_cut_135_ok {P : List Nat} {o : rx_St} {k7 : Int32 → rx_St → Option (rx_St)} (hk7 : ∀ (v1 : Int32) (σ : rx_St), k7 v1 σ = some o → rx_AtP none 172 7 [(0, .ref 87), (1, .int v1)] [] (rx_D P σ) (none, rx_D P o)) : ∀ (v1 : Int32) (v3 : Int32) (v4 : Int64) (s0 : Int32) (σ : rx_St), f_m_cut_135 k7 v1 v3 v4 s0 σ = some o → rx_AtP none 172 135 [(0, .ref 87), (1, .int v1), (3, .int v3), (4, .long v4)] [.int s0] (rx_D P σ) (none, rx_D P o) := by
  intro v1 v3 v4 s0 σ h
  refine rx_walk [7, 67, 85, 118, 135, 146, 173, 179, 208, 244, 261, 291] 2000 (by decide) rx_e172 ?_
  unfold f_m_cut_135 at h
  refine rr_if h (fun c140 h => ?_) (fun c140 h => ?_)
  · skip
    exact rx_sub (f_m_cut_179_ok hk7 _ _ _ _ _ h) [1, 2, 3, 4, 0] rfl
  · skip
    exact rx_sub (f_m_cut_146_ok hk7 rx_fu _ _ _ _ _ _ h) [2, 3, 4, 5, 1, 0] rfl
set_option maxRecDepth 100000 in
set_option maxHeartbeats 4000000 in
theorem f_m_cut_118_ok {P : List Nat} {o : rx_St} {k7 : Int32 → rx_St → Option (rx_St)} {k85 : Int32 → Int32 → Int64 → rx_St → Option (rx_St)} (hk7 : ∀ (v1 : Int32) (σ : rx_St), k7 v1 σ = some o → rx_AtP none 172 7 [(0, .ref 87), (1, .int v1)] [] (rx_D P σ) (none, rx_D P o)) (hk85 : ∀ (v1 : Int32) (v3 : Int32) (v4 : Int64) (σ : rx_St), k85 v1 v3 v4 σ = some o → rx_AtP none 172 85 [(0, .ref 87), (1, .int v1), (3, .int v3), (4, .long v4)] [] (rx_D P σ) (none, rx_D P o)) : ∀ (v1 : Int32) (v3 : Int32) (v4 : Int64) (σ : rx_St), f_m_cut_118 k7 k85 v1 v3 v4 σ = some o → rx_AtP none 172 118 [(0, .ref 87), (1, .int v1), (3, .int v3), (4, .long v4)] [] (rx_D P σ) (none, rx_D P o) := by
  intro v1 v3 v4 σ h
  refine rx_walk [7, 67, 85, 118, 135, 146, 173, 179, 208, 244, 261, 291] 2000 (by decide) rx_e172 ?_
  unfold f_m_cut_118 at h
  exact rx_sub (hk85 _ _ _ _ h) [1, 2, 0, 3] rfl
set_option maxRecDepth 100000 in
set_option maxHeartbeats 4000000 in
theorem f_m_cut_85_ok {P : List Nat} {o : rx_St} {k7 : Int32 → rx_St → Option (rx_St)} (hk7 : ∀ (v1 : Int32) (σ : rx_St), k7 v1 σ = some o → rx_AtP none 172 7 [(0, .ref 87), (1, .int v1)] [] (rx_D P σ) (none, rx_D P o)) : ∀ (n : Nat) (v1 : Int32) (v3 : Int32) (v4 : Int64) (σ : rx_St), f_m_cut_85 k7 n v1 v3 v4 σ = some o → rx_AtP none 172 85 [(0, .ref 87), (1, .int v1), (3, .int v3), (4, .long v4)] [] (rx_D P σ) (none, rx_D P o) := by
  intro n
  induction n with
  | zero => intro _ _ _ _ h; cases h
  | succ n ih =>
  intro v1 v3 v4 σ h
  refine rx_walk [7, 67, 85, 118, 135, 146, 173, 179, 208, 244, 261, 291] 2000 (by decide) rx_e172 ?_
  rw [f_m_cut_85] at h
  refine rr_callP h (fun y hy => f_m_at_ok _ hy) (fun y1 hy1 h => ?_)
  refine rr_callT (f_m_isLetter_ok _ rfl) ?_
  refine rr_if h (fun c95 h => ?_) (fun c95 h => ?_)
  · skip
    refine rr_if h (fun c127 h => ?_) (fun c127 h => ?_)
    · skip
      exact rx_sub (f_m_cut_135_ok hk7 _ _ _ _ _ h) [0, 1, 2, 3] rfl
    · skip
      exact rx_sub (f_m_cut_135_ok hk7 _ _ _ _ _ h) [0, 1, 2, 3] rfl
  · skip
    refine rr_if h (fun c101 h => ?_) (fun c101 h => ?_)
    · skip
      exact rx_sub (f_m_cut_118_ok hk7 ih _ _ _ _ h) [0, 1, 2, 3] rfl
    · skip
      refine rr_callP h (fun y hy => f_m_at_ok _ hy) (fun y2 hy2 h => ?_)
      refine rr_callT (f_m_more_ok _ rfl) ?_
      exact rx_sub (f_m_cut_118_ok hk7 ih _ _ _ _ h) [1, 2, 3, 0] rfl
set_option maxRecDepth 100000 in
set_option maxHeartbeats 4000000 in
theorem f_m_cut_7_ok {P : List Nat} {o : rx_St} : ∀ (n : Nat) (v1 : Int32) (σ : rx_St), f_m_cut_7 n v1 σ = some o → rx_AtP none 172 7 [(0, .ref 87), (1, .int v1)] [] (rx_D P σ) (none, rx_D P o) := by
  intro n
  induction n with
  | zero => intro _ _ h; cases h
  | succ n ih =>
  intro v1 σ h
  refine rx_walk [7, 67, 85, 118, 135, 146, 173, 179, 208, 244, 261, 291] 2000 (by decide) rx_e172 ?_
  rw [f_m_cut_7] at h
  refine rr_if h (fun c14 h => ?_) (fun c14 h => ?_)
  · skip
    cases h
    exact And.intro (rfl) rfl
  · skip
    refine rr_callP h (fun y hy => f_m_at_ok _ hy) (fun y1 hy1 h => ?_)
    refine rr_if h (fun c28 h => ?_) (fun c28 h => ?_)
    · skip
      refine rr_if h (fun c46 h => ?_) (fun c46 h => ?_)
      · skip
        exact rx_sub (f_m_cut_67_ok ih _ _ h) [1, 2] rfl
      · skip
        refine rr_if h (fun c52 h => ?_) (fun c52 h => ?_)
        · skip
          exact rx_sub (f_m_cut_67_ok ih _ _ h) [1, 2] rfl
        · skip
          refine rr_if h (fun c58 h => ?_) (fun c58 h => ?_)
          · skip
            exact rx_sub (f_m_cut_67_ok ih _ _ h) [1, 2] rfl
          · skip
            refine rr_if h (fun c64 h => ?_) (fun c64 h => ?_)
            · skip
              exact rx_sub (f_m_cut_67_ok ih _ _ h) [1, 2] rfl
            · skip
              refine rr_callT (f_m_isLetter_ok _ rfl) ?_
              refine rr_if h (fun c77 h => ?_) (fun c77 h => ?_)
              · skip
                refine rr_callT (f_m_isDigit_ok _ rfl) ?_
                refine rr_if h (fun c200 h => ?_) (fun c200 h => ?_)
                · skip
                  refine rr_callP h (fun y hy => f_m_at_ok _ hy) (fun y2 hy2 h => ?_)
                  refine rr_callS h (fun y hy => f_m_sign_ok _ hy) (fun y3 hy3 h => ?_)
                  exact rx_sub (f_m_cut_291_ok ih _ _ h) [2, 0] rfl
                · skip
                  exact rx_sub (f_m_cut_208_ok ih rx_fu _ _ _ _ h) [3, 4, 1, 0] rfl
              · skip
                exact rx_sub (f_m_cut_85_ok ih rx_fu _ _ _ _ h) [3, 4, 1, 0] rfl
    · skip
      refine rr_callV h (fun y hy => f_m_token_ok _ hy) (fun y4 hy4 h => ?_)
      cases h
      exact And.intro (rfl) rfl
set_option maxRecDepth 100000 in
set_option maxHeartbeats 4000000 in
theorem f_m_cut_ok {P : List Nat} {σ : rx_St} : ∀ o, f_m_cut σ = some o → rx_OK 172 [.ref 87] 162 [] P σ (none, rx_D P o) := by
  intro o h
  refine rx_OK_of (by decide) (Nat.le_of_ble_eq_true rfl) ?_
  refine rx_walk [7, 67, 85, 118, 135, 146, 173, 179, 208, 244, 261, 291] 2000 (by decide) rx_e172 ?_
  unfold f_m_cut at h
  exact rx_sub (f_m_cut_7_ok rx_fu _ _ h) [1, 0] rfl
set_option maxRecDepth 100000 in
theorem rx_e174 : rx_Ext none 174 := rx_Ext_plain (by decide +kernel)
set_option maxRecDepth 100000 in
set_option maxHeartbeats 4000000 in
theorem f_m_is_ok {P : List Nat} {a0 : Int32} {σ : rx_St} : ∀ o, f_m_is a0 σ = some o → rx_OK 174 [.ref 87, .int a0] 162 [] P σ (some (.int o), rx_D P σ) := by
  intro o h
  refine rx_OK_of (by decide) (Nat.le_of_ble_eq_true rfl) ?_
  refine rx_walk [] 2000 (by decide) rx_e174 ?_
  unfold f_m_is at h
  refine rr_if h (fun c4 h => ?_) (fun c4 h => ?_)
  · skip
    refine rr_g h (fun c15 h => ?_)
    refine rr_if h (fun c17 h => ?_) (fun c17 h => ?_)
    · skip
      cases h
      exact And.intro (Or.inr rfl) rfl
    · skip
      cases h
      exact And.intro (Or.inl rfl) rfl
  · skip
    cases h
    exact And.intro (Or.inl rfl) rfl
set_option maxRecDepth 100000 in
theorem rx_e175 : rx_Ext none 175 := rx_Ext_plain (by decide +kernel)
set_option maxRecDepth 100000 in
set_option maxHeartbeats 4000000 in
theorem f_m_fail_ok {P : List Nat} {a0 : Int32} {σ : rx_St} : ∀ o, f_m_fail a0 σ = some o → rx_OK 175 [.ref 87, .int a0] 162 [] P σ (none, rx_D P o) := by
  intro o h
  refine rx_OK_of (by decide) (Nat.le_of_ble_eq_true rfl) ?_
  refine rx_walk [] 2000 (by decide) rx_e175 ?_
  unfold f_m_fail at h
  refine rr_if h (fun c4 h => ?_) (fun c4 h => ?_)
  · skip
    refine rr_g h (fun c22 h => ?_)
    cases h
    exact And.intro (rfl) rfl
  · skip
    cases h
    exact And.intro (rfl) rfl
set_option maxRecDepth 100000 in
theorem rx_e176 : rx_Ext none 176 := rx_Ext_plain (by decide +kernel)
set_option maxRecDepth 100000 in
set_option maxHeartbeats 4000000 in
theorem f_m_wrong_46_ok {P : List Nat} {o : rx_St} : ∀ (v1 : Int32) (v3 : Int32) (σ : rx_St), f_m_wrong_46 v1 v3 σ = some o → rx_AtP none 176 46 [(0, .ref 87), (1, .int v1), (3, .int v3)] [] (rx_D P σ) (none, rx_D P o) := by
  intro v1 v3 σ h
  refine rx_walk [46] 2000 (by decide) rx_e176 ?_
  unfold f_m_wrong_46 at h
  cases h
  exact And.intro (rfl) rfl
set_option maxRecDepth 100000 in
set_option maxHeartbeats 4000000 in
theorem f_m_wrong_ok {P : List Nat} {a0 : Int32} {a1 : Int32} {σ : rx_St} : ∀ o, f_m_wrong a0 a1 σ = some o → rx_OK 176 [.ref 87, .int a0, .int a1] 162 [] P σ (none, rx_D P o) := by
  intro o h
  refine rx_OK_of (by decide) (Nat.le_of_ble_eq_true rfl) ?_
  refine rx_walk [46] 2000 (by decide) rx_e176 ?_
  unfold f_m_wrong at h
  refine rr_g h (fun c5 h => ?_)
  refine rr_if h (fun c11 h => ?_) (fun c11 h => ?_)
  · skip
    cases h
    exact And.intro (rfl) rfl
  · skip
    refine rr_if h (fun c18 h => ?_) (fun c18 h => ?_)
    · skip
      exact rx_sub (f_m_wrong_46_ok _ _ _ h) [1, 2, 0] rfl
    · skip
      refine rr_if h (fun c26 h => ?_) (fun c26 h => ?_)
      · skip
        cases h
        exact And.intro (rfl) rfl
      · skip
        refine rr_if h (fun c34 h => ?_) (fun c34 h => ?_)
        · skip
          refine rr_if h (fun c42 h => ?_) (fun c42 h => ?_)
          · skip
            exact rx_sub (f_m_wrong_46_ok _ _ _ h) [1, 2, 0] rfl
          · skip
            cases h
            exact And.intro (rfl) rfl
        · skip
          exact rx_sub (f_m_wrong_46_ok _ _ _ h) [1, 2, 0] rfl
set_option maxRecDepth 100000 in
theorem rx_e177 : rx_Ext none 177 := rx_Ext_plain (by decide +kernel)
set_option maxRecDepth 100000 in
set_option maxHeartbeats 4000000 in
theorem f_m_next_ok {P : List Nat} {σ : rx_St} : ∀ o, f_m_next σ = some o → rx_OK 177 [.ref 87] 162 [] P σ (none, rx_D P o) := by
  intro o h
  refine rx_OK_of (by decide) (Nat.le_of_ble_eq_true rfl) ?_
  refine rx_walk [] 2000 (by decide) rx_e177 ?_
  unfold f_m_next at h
  refine rr_if h (fun c7 h => ?_) (fun c7 h => ?_)
  · skip
    refine rr_callV h (fun y hy => f_m_fail_ok _ hy) (fun y1 hy1 h => ?_)
    cases h
    exact And.intro (rfl) rfl
  · skip
    cases h
    exact And.intro (rfl) rfl
set_option maxRecDepth 100000 in
theorem rx_e178 : rx_Ext none 178 := rx_Ext_plain (by decide +kernel)
set_option maxRecDepth 100000 in
set_option maxHeartbeats 4000000 in
theorem f_m_must_ok {P : List Nat} {a0 : Int32} {σ : rx_St} : ∀ o, f_m_must a0 σ = some o → rx_OK 178 [.ref 87, .int a0] 162 [] P σ (none, rx_D P o) := by
  intro o h
  refine rx_OK_of (by decide) (Nat.le_of_ble_eq_true rfl) ?_
  refine rx_walk [] 2000 (by decide) rx_e178 ?_
  unfold f_m_must at h
  refine rr_callP h (fun y hy => f_m_is_ok _ hy) (fun y1 hy1 h => ?_)
  refine rr_if h (fun c5 h => ?_) (fun c5 h => ?_)
  · skip
    refine rr_callV h (fun y hy => f_m_fail_ok _ hy) (fun y2 hy2 h => ?_)
    cases h
    exact And.intro (rfl) rfl
  · skip
    refine rr_callV h (fun y hy => f_m_next_ok _ hy) (fun y3 hy3 h => ?_)
    cases h
    exact And.intro (rfl) rfl
set_option maxRecDepth 100000 in
theorem rx_e181 : rx_Ext none 181 := rx_Ext_plain (by decide +kernel)
set_option maxRecDepth 100000 in
set_option maxHeartbeats 4000000 in
theorem f_m_isNamed_44_ok {P : List Nat} {o : Int32} : ∀ (n : Nat) (v1 : Int64) (v3 : Int32) (σ : rx_St), f_m_isNamed_44 n v1 v3 σ = some o → rx_AtP none 181 44 [(0, .ref 87), (1, .long v1), (3, .int v3)] [] (rx_D P σ) (some (.int o), rx_D P σ) := by
  intro n
  induction n with
  | zero => intro _ _ _ h; cases h
  | succ n ih =>
  intro v1 v3 σ h
  refine rx_walk [2, 44] 2000 (by decide) rx_e181 ?_
  rw [f_m_isNamed_44] at h
  refine rr_g h (fun c53 h => ?_)
  refine rr_if h (fun c54 h => ?_) (fun c54 h => ?_)
  · skip
    cases h
    exact And.intro (Or.inl rfl) rfl
  · skip
    refine rr_g h (fun c69 h => ?_)
    refine rr_if h (fun c72 h => ?_) (fun c72 h => ?_)
    · skip
      cases h
      exact And.intro (Or.inr rfl) rfl
    · skip
      exact rx_sub (ih _ _ _ h) [1, 2, 0] rfl
set_option maxRecDepth 100000 in
set_option maxHeartbeats 4000000 in
theorem f_m_isNamed_2_ok {P : List Nat} {o : Int32} : ∀ (n : Nat) (v1 : Int64) (v3 : Int32) (σ : rx_St), f_m_isNamed_2 n v1 v3 σ = some o → rx_AtP none 181 2 [(0, .ref 87), (1, .long v1), (3, .int v3)] [] (rx_D P σ) (some (.int o), rx_D P σ) := by
  intro n
  induction n with
  | zero => intro _ _ _ h; cases h
  | succ n ih =>
  intro v1 v3 σ h
  refine rx_walk [2, 44] 2000 (by decide) rx_e181 ?_
  rw [f_m_isNamed_2] at h
  refine rr_g h (fun c11 h => ?_)
  refine rr_if h (fun c12 h => ?_) (fun c12 h => ?_)
  · skip
    exact rx_sub (f_m_isNamed_44_ok rx_fu _ _ _ h) [1, 2, 0] rfl
  · skip
    refine rr_g h (fun c28 h => ?_)
    refine rr_if h (fun c31 h => ?_) (fun c31 h => ?_)
    · skip
      cases h
      exact And.intro (Or.inr rfl) rfl
    · skip
      exact rx_sub (ih _ _ _ h) [1, 2, 0] rfl
set_option maxRecDepth 100000 in
set_option maxHeartbeats 4000000 in
theorem f_m_isNamed_ok {P : List Nat} {a0 : Int64} {σ : rx_St} : ∀ o, f_m_isNamed a0 σ = some o → rx_OK 181 [.ref 87, .long a0] 162 [] P σ (some (.int o), rx_D P σ) := by
  intro o h
  refine rx_OK_of (by decide) (Nat.le_of_ble_eq_true rfl) ?_
  refine rx_walk [2, 44] 2000 (by decide) rx_e181 ?_
  unfold f_m_isNamed at h
  exact rx_sub (f_m_isNamed_2_ok rx_fu _ _ _ h) [1, 2, 0] rfl
set_option maxRecDepth 100000 in
theorem rx_e182 : rx_Ext none 182 := rx_Ext_plain (by decide +kernel)
set_option maxRecDepth 100000 in
set_option maxHeartbeats 4000000 in
theorem f_m_tellSet_96_ok {P : List Nat} {o : rx_St} : ∀ (v1 : Int32) (v2 : Int32) (σ : rx_St), f_m_tellSet_96 v1 v2 σ = some o → rx_AtP none 182 96 [(0, .ref 87), (1, .int v1), (2, .int v2)] [] (rx_D P σ) (none, rx_D P o) := by
  intro v1 v2 σ h
  refine rx_walk [19, 58, 96] 2000 (by decide) rx_e182 ?_
  unfold f_m_tellSet_96 at h
  refine rr_g h (fun c115 h => ?_)
  refine rr_g h (fun c122 h => ?_)
  refine rr_g h (fun c123 h => ?_)
  refine rr_g h (fun c143 h => ?_)
  refine rr_g h (fun c146 h => ?_)
  refine rr_g h (fun c156 h => ?_)
  refine rr_g h (fun c159 h => ?_)
  cases h
  exact And.intro (rfl) rfl
set_option maxRecDepth 100000 in
set_option maxHeartbeats 4000000 in
theorem f_m_tellSet_58_ok {P : List Nat} {o : rx_St} : ∀ (v1 : Int32) (s0 : Int32) (σ : rx_St), f_m_tellSet_58 v1 s0 σ = some o → rx_AtP none 182 58 [(0, .ref 87), (1, .int v1)] [.int s0] (rx_D P σ) (none, rx_D P o) := by
  intro v1 s0 σ h
  refine rx_walk [19, 58, 96] 2000 (by decide) rx_e182 ?_
  unfold f_m_tellSet_58 at h
  refine rr_callV h (fun y hy => f_m_must_ok _ hy) (fun y1 hy1 h => ?_)
  refine rr_callV h (fun y hy => f_m_must_ok _ hy) (fun y2 hy2 h => ?_)
  refine rr_if h (fun c73 h => ?_) (fun c73 h => ?_)
  · skip
    refine rr_g h (fun c83 h => ?_)
    refine rr_callP h (fun y hy => f_m_isNamed_ok _ hy) (fun y3 hy3 h => ?_)
    refine rr_if h (fun c87 h => ?_) (fun c87 h => ?_)
    · skip
      exact rx_sub (f_m_tellSet_96_ok _ _ _ h) [1, 2, 0] rfl
    · skip
      refine rr_callV h (fun y hy => f_m_wrong_ok _ hy) (fun y4 hy4 h => ?_)
      exact rx_sub (f_m_tellSet_96_ok _ _ _ h) [1, 2, 0] rfl
  · skip
    cases h
    exact And.intro (rfl) rfl
set_option maxRecDepth 100000 in
set_option maxHeartbeats 4000000 in
theorem f_m_tellSet_19_ok {P : List Nat} {o : rx_St} : ∀ (σ : rx_St), f_m_tellSet_19 σ = some o → rx_AtP none 182 19 [(0, .ref 87)] [] (rx_D P σ) (none, rx_D P o) := by
  intro σ h
  refine rx_walk [19, 58, 96] 2000 (by decide) rx_e182 ?_
  unfold f_m_tellSet_19 at h
  refine rr_callV h (fun y hy => f_m_next_ok _ hy) (fun y1 hy1 h => ?_)
  refine rr_callV h (fun y hy => f_m_must_ok _ hy) (fun y2 hy2 h => ?_)
  refine rr_callV h (fun y hy => f_m_must_ok _ hy) (fun y3 hy3 h => ?_)
  refine rr_if h (fun c42 h => ?_) (fun c42 h => ?_)
  · skip
    refine rr_g h (fun c57 h => ?_)
    exact rx_sub (f_m_tellSet_58_ok _ _ _ h) [1, 0] rfl
  · skip
    exact rx_sub (f_m_tellSet_58_ok _ _ _ h) [1, 0] rfl
set_option maxRecDepth 100000 in
set_option maxHeartbeats 4000000 in
theorem f_m_tellSet_ok {P : List Nat} {σ : rx_St} : ∀ o, f_m_tellSet σ = some o → rx_OK 182 [.ref 87] 162 [] P σ (none, rx_D P o) := by
  intro o h
  refine rx_OK_of (by decide) (Nat.le_of_ble_eq_true rfl) ?_
  refine rx_walk [19, 58, 96] 2000 (by decide) rx_e182 ?_
  unfold f_m_tellSet at h
  refine rr_g h (fun c8 h => ?_)
  refine rr_if h (fun c11 h => ?_) (fun c11 h => ?_)
  · skip
    refine rr_callV h (fun y hy => f_m_fail_ok _ hy) (fun y1 hy1 h => ?_)
    exact rx_sub (f_m_tellSet_19_ok _ h) [0] rfl
  · skip
    exact rx_sub (f_m_tellSet_19_ok _ h) [0] rfl
set_option maxRecDepth 100000 in
theorem rx_e184 : rx_Ext none 184 := rx_Ext_plain (by decide +kernel)
set_option maxRecDepth 100000 in
set_option maxHeartbeats 4000000 in
theorem f_m_varOf_3_ok {P : List Nat} {o : Int32} : ∀ (n : Nat) (v1 : Int32) (v2 : Int64) (v4 : Int32) (σ : rx_St), f_m_varOf_3 n v1 v2 v4 σ = some o → rx_AtP none 184 3 [(0, .ref 87), (1, .int v1), (2, .long v2), (4, .int v4)] [] (rx_D P σ) (some (.int o), rx_D P σ) := by
  intro n
  induction n with
  | zero => intro _ _ _ _ h; cases h
  | succ n ih =>
  intro v1 v2 v4 σ h
  refine rx_walk [3] 2000 (by decide) rx_e184 ?_
  rw [f_m_varOf_3] at h
  refine rr_g h (fun c10 h => ?_)
  refine rr_if h (fun c11 h => ?_) (fun c11 h => ?_)
  · skip
    cases h
    exact And.intro (trivial) rfl
  · skip
    refine rr_g h (fun c25 h => ?_)
    refine rr_if h (fun c28 h => ?_) (fun c28 h => ?_)
    · skip
      cases h
      exact And.intro (trivial) rfl
    · skip
      exact rx_sub (ih _ _ _ _ h) [1, 2, 3, 0] rfl
set_option maxRecDepth 100000 in
set_option maxHeartbeats 4000000 in
theorem f_m_varOf_ok {P : List Nat} {a0 : Int32} {a1 : Int64} {σ : rx_St} : ∀ o, f_m_varOf a0 a1 σ = some o → rx_OK 184 [.ref 87, .int a0, .long a1] 162 [] P σ (some (.int o), rx_D P σ) := by
  intro o h
  refine rx_OK_of (by decide) (Nat.le_of_ble_eq_true rfl) ?_
  refine rx_walk [3] 2000 (by decide) rx_e184 ?_
  unfold f_m_varOf at h
  exact rx_sub (f_m_varOf_3_ok rx_fu _ _ _ _ h) [1, 2, 3, 0] rfl
set_option maxRecDepth 100000 in
theorem rx_e185 : rx_Ext none 185 := rx_Ext_plain (by decide +kernel)
set_option maxRecDepth 100000 in
set_option maxHeartbeats 4000000 in
theorem f_m_tellVar_137_ok {P : List Nat} {o : rx_St} : ∀ (v1 : Int32) (v2 : Int32) (v3 : Int32) (v4 : Int32) (σ : rx_St), f_m_tellVar_137 v1 v2 v3 v4 σ = some o → rx_AtP none 185 137 [(0, .ref 87), (1, .int v1), (2, .int v2), (3, .int v3), (4, .int v4)] [] (rx_D P σ) (none, rx_D P o) := by
  intro v1 v2 v3 v4 σ h
  refine rx_walk [19, 59, 73, 93, 137] 2000 (by decide) rx_e185 ?_
  unfold f_m_tellVar_137 at h
  refine rr_g h (fun c152 h => ?_)
  refine rr_g h (fun c167 h => ?_)
  refine rr_g h (fun c168 h => ?_)
  refine rr_g h (fun c179 h => ?_)
  refine rr_g h (fun c187 h => ?_)
  refine rr_g h (fun c197 h => ?_)
  refine rr_g h (fun c200 h => ?_)
  cases h
  exact And.intro (rfl) rfl
set_option maxRecDepth 100000 in
set_option maxHeartbeats 4000000 in
theorem f_m_tellVar_93_ok {P : List Nat} {o : rx_St} : ∀ (v1 : Int32) (v2 : Int32) (v3 : Int32) (s0 : Int32) (σ : rx_St), f_m_tellVar_93 v1 v2 v3 s0 σ = some o → rx_AtP none 185 93 [(0, .ref 87), (1, .int v1), (2, .int v2), (3, .int v3)] [.int s0] (rx_D P σ) (none, rx_D P o) := by
  intro v1 v2 v3 s0 σ h
  refine rx_walk [19, 59, 73, 93, 137] 2000 (by decide) rx_e185 ?_
  unfold f_m_tellVar_93 at h
  refine rr_callV h (fun y hy => f_m_must_ok _ hy) (fun y1 hy1 h => ?_)
  refine rr_callV h (fun y hy => f_m_must_ok _ hy) (fun y2 hy2 h => ?_)
  refine rr_if h (fun c109 h => ?_) (fun c109 h => ?_)
  · skip
    refine rr_g h (fun c123 h => ?_)
    refine rr_callP h (fun y hy => f_m_varOf_ok _ hy) (fun y3 hy3 h => ?_)
    refine rr_if h (fun c128 h => ?_) (fun c128 h => ?_)
    · skip
      exact rx_sub (f_m_tellVar_137_ok _ _ _ _ _ h) [1, 2, 3, 4, 0] rfl
    · skip
      refine rr_callV h (fun y hy => f_m_wrong_ok _ hy) (fun y4 hy4 h => ?_)
      exact rx_sub (f_m_tellVar_137_ok _ _ _ _ _ h) [1, 2, 3, 4, 0] rfl
  · skip
    cases h
    exact And.intro (rfl) rfl
set_option maxRecDepth 100000 in
set_option maxHeartbeats 4000000 in
theorem f_m_tellVar_73_ok {P : List Nat} {o : rx_St} : ∀ (v1 : Int32) (v2 : Int32) (v3 : Int32) (σ : rx_St), f_m_tellVar_73 v1 v2 v3 σ = some o → rx_AtP none 185 73 [(0, .ref 87), (1, .int v1), (2, .int v2), (3, .int v3)] [] (rx_D P σ) (none, rx_D P o) := by
  intro v1 v2 v3 σ h
  refine rx_walk [19, 59, 73, 93, 137] 2000 (by decide) rx_e185 ?_
  unfold f_m_tellVar_73 at h
  refine rr_if h (fun c77 h => ?_) (fun c77 h => ?_)
  · skip
    refine rr_g h (fun c92 h => ?_)
    exact rx_sub (f_m_tellVar_93_ok _ _ _ _ _ h) [0, 1, 2, 3] rfl
  · skip
    exact rx_sub (f_m_tellVar_93_ok _ _ _ _ _ h) [0, 1, 2, 3] rfl
set_option maxRecDepth 100000 in
set_option maxHeartbeats 4000000 in
theorem f_m_tellVar_59_ok {P : List Nat} {o : rx_St} : ∀ (v1 : Int32) (v2 : Int32) (s0 : Int32) (σ : rx_St), f_m_tellVar_59 v1 v2 s0 σ = some o → rx_AtP none 185 59 [(0, .ref 87), (1, .int v1), (2, .int v2)] [.int s0] (rx_D P σ) (none, rx_D P o) := by
  intro v1 v2 s0 σ h
  refine rx_walk [19, 59, 73, 93, 137] 2000 (by decide) rx_e185 ?_
  unfold f_m_tellVar_59 at h
  refine rr_callP h (fun y hy => f_m_is_ok _ hy) (fun y1 hy1 h => ?_)
  refine rr_if h (fun c66 h => ?_) (fun c66 h => ?_)
  · skip
    exact rx_sub (f_m_tellVar_73_ok _ _ _ _ h) [1, 2, 3, 0] rfl
  · skip
    refine rr_callV h (fun y hy => f_m_next_ok _ hy) (fun y2 hy2 h => ?_)
    exact rx_sub (f_m_tellVar_73_ok _ _ _ _ h) [1, 2, 3, 0] rfl
set_option maxRecDepth 100000 in
set_option maxHeartbeats 4000000 in
theorem f_m_tellVar_19_ok {P : List Nat} {o : rx_St} : ∀ (σ : rx_St), f_m_tellVar_19 σ = some o → rx_AtP none 185 19 [(0, .ref 87)] [] (rx_D P σ) (none, rx_D P o) := by
  intro σ h
  refine rx_walk [19, 59, 73, 93, 137] 2000 (by decide) rx_e185 ?_
  unfold f_m_tellVar_19 at h
  refine rr_callP h (fun y hy => f_m_is_ok _ hy) (fun y1 hy1 h => ?_)
  refine rr_callV h (fun y hy => f_m_next_ok _ hy) (fun y2 hy2 h => ?_)
  refine rr_callV h (fun y hy => f_m_must_ok _ hy) (fun y3 hy3 h => ?_)
  refine rr_callV h (fun y hy => f_m_must_ok _ hy) (fun y4 hy4 h => ?_)
  refine rr_callP h (fun y hy => f_m_is_ok _ hy) (fun y5 hy5 h => ?_)
  refine rr_if h (fun c51 h => ?_) (fun c51 h => ?_)
  · skip
    exact rx_sub (f_m_tellVar_59_ok _ _ _ _ h) [2, 1, 0] rfl
  · skip
    exact rx_sub (f_m_tellVar_59_ok _ _ _ _ h) [2, 1, 0] rfl
set_option maxRecDepth 100000 in
set_option maxHeartbeats 4000000 in
theorem f_m_tellVar_ok {P : List Nat} {σ : rx_St} : ∀ o, f_m_tellVar σ = some o → rx_OK 185 [.ref 87] 162 [] P σ (none, rx_D P o) := by
  intro o h
  refine rx_OK_of (by decide) (Nat.le_of_ble_eq_true rfl) ?_
  refine rx_walk [19, 59, 73, 93, 137] 2000 (by decide) rx_e185 ?_
  unfold f_m_tellVar at h
  refine rr_g h (fun c8 h => ?_)
  refine rr_if h (fun c11 h => ?_) (fun c11 h => ?_)
  · skip
    refine rr_callV h (fun y hy => f_m_fail_ok _ hy) (fun y1 hy1 h => ?_)
    exact rx_sub (f_m_tellVar_19_ok _ h) [0] rfl
  · skip
    exact rx_sub (f_m_tellVar_19_ok _ h) [0] rfl
set_option maxRecDepth 100000 in
theorem rx_e192 : rx_Ext none 192 := rx_Ext_plain (by decide +kernel)
set_option maxRecDepth 100000 in
set_option maxHeartbeats 4000000 in
theorem f_m_emit_ok {P : List Nat} {a0 : Int32} {a1 : Int32} {σ : rx_St} : ∀ o, f_m_emit a0 a1 σ = some o → rx_OK 192 [.ref 87, .int a0, .int a1] 162 [] P σ (none, rx_D P o) := by
  intro o h
  refine rx_OK_of (by decide) (Nat.le_of_ble_eq_true rfl) ?_
  refine rx_walk [] 2000 (by decide) rx_e192 ?_
  unfold f_m_emit at h
  refine rr_g h (fun c9 h => ?_)
  refine rr_g h (fun c19 h => ?_)
  refine rr_g h (fun c29 h => ?_)
  cases h
  exact And.intro (rfl) rfl
set_option maxRecDepth 100000 in
theorem rx_e189 : rx_Ext none 189 := rx_Ext_plain (by decide +kernel)
set_option maxRecDepth 100000 in
set_option maxHeartbeats 4000000 in
theorem f_m_asks_ok {P : List Nat} {a0 : Int32} {a1 : Int32} {a2 : Int32} {a3 : Int32} {σ : rx_St} : ∀ o, f_m_asks a0 a1 a2 a3 σ = some o → rx_OK 189 [.ref 87, .int a0, .int a1, .int a2, .int a3] 162 [] P σ (none, rx_D P o) := by
  intro o h
  refine rx_OK_of (by decide) (Nat.le_of_ble_eq_true rfl) ?_
  refine rx_walk [] 2000 (by decide) rx_e189 ?_
  unfold f_m_asks at h
  refine rr_g h (fun c9 h => ?_)
  refine rr_g h (fun c19 h => ?_)
  refine rr_g h (fun c32 h => ?_)
  refine rr_g h (fun c42 h => ?_)
  refine rr_g h (fun c53 h => ?_)
  cases h
  exact And.intro (rfl) rfl
set_option maxRecDepth 100000 in
theorem rx_e195 : rx_Ext none 195 := rx_Ext_plain (by decide +kernel)
set_option maxRecDepth 100000 in
set_option maxHeartbeats 4000000 in
theorem f_m_unit_404_ok {P : List Nat} {o : rx_St} : ∀ (s1 : Int32) (σ : rx_St), f_m_unit_404 s1 σ = some o → rx_AtP none 195 404 [] [.int s1, .ref 87] (rx_D P σ) (none, rx_D P o) := by
  intro s1 σ h
  refine rx_walk [20, 87, 139, 162, 173, 194, 234, 272, 297, 326, 363, 381, 404] 2000 (by decide) rx_e195 ?_
  unfold f_m_unit_404 at h
  refine rr_callV h (fun y hy => f_m_emit_ok _ hy) (fun y1 hy1 h => ?_)
  cases h
  exact And.intro (rfl) rfl
set_option maxRecDepth 100000 in
set_option maxHeartbeats 4000000 in
theorem f_m_unit_381_ok {P : List Nat} {o : rx_St} : ∀ (v3 : Int32) (v4 : Int32) (v5 : Int32) (s1 : Int32) (σ : rx_St), f_m_unit_381 v3 v4 v5 s1 σ = some o → rx_AtP none 195 381 [(0, .ref 87), (3, .int v3), (4, .int v4), (5, .int v5)] [.int s1, .ref 87] (rx_D P σ) (none, rx_D P o) := by
  intro v3 v4 v5 s1 σ h
  refine rx_walk [20, 87, 139, 162, 173, 194, 234, 272, 297, 326, 363, 381, 404] 2000 (by decide) rx_e195 ?_
  unfold f_m_unit_381 at h
  refine rr_callV h (fun y hy => f_m_asks_ok _ hy) (fun y1 hy1 h => ?_)
  refine rr_if h (fun c394 h => ?_) (fun c394 h => ?_)
  · skip
    exact rx_sub (f_m_unit_404_ok _ _ h) [] rfl
  · skip
    exact rx_sub (f_m_unit_404_ok _ _ h) [] rfl
set_option maxRecDepth 100000 in
set_option maxHeartbeats 4000000 in
theorem f_m_unit_363_ok {P : List Nat} {o : rx_St} : ∀ (v3 : Int32) (v4 : Int32) (v5 : Int32) (σ : rx_St), f_m_unit_363 v3 v4 v5 σ = some o → rx_AtP none 195 363 [(0, .ref 87), (3, .int v3), (4, .int v4), (5, .int v5)] [] (rx_D P σ) (none, rx_D P o) := by
  intro v3 v4 v5 σ h
  refine rx_walk [20, 87, 139, 162, 173, 194, 234, 272, 297, 326, 363, 381, 404] 2000 (by decide) rx_e195 ?_
  unfold f_m_unit_363 at h
  refine rr_if h (fun c367 h => ?_) (fun c367 h => ?_)
  · skip
    refine rr_if h (fun c373 h => ?_) (fun c373 h => ?_)
    · skip
      exact rx_sub (f_m_unit_381_ok _ _ _ _ _ h) [0, 1, 2, 3] rfl
    · skip
      exact rx_sub (f_m_unit_381_ok _ _ _ _ _ h) [0, 1, 2, 3] rfl
  · skip
    cases h
    exact And.intro (rfl) rfl
set_option maxRecDepth 100000 in
set_option maxHeartbeats 4000000 in
theorem f_m_unit_326_ok {P : List Nat} {o : rx_St} : ∀ (σ : rx_St), f_m_unit_326 σ = some o → rx_AtP none 195 326 [(0, .ref 87)] [] (rx_D P σ) (none, rx_D P o) := by
  intro σ h
  refine rx_walk [20, 87, 139, 162, 173, 194, 234, 272, 297, 326, 363, 381, 404] 2000 (by decide) rx_e195 ?_
  unfold f_m_unit_326 at h
  refine rr_callP h (fun y hy => f_m_is_ok _ hy) (fun y1 hy1 h => ?_)
  refine rr_callV h (fun y hy => f_m_next_ok _ hy) (fun y2 hy2 h => ?_)
  refine rr_callV h (fun y hy => f_m_must_ok _ hy) (fun y3 hy3 h => ?_)
  refine rr_if h (fun c355 h => ?_) (fun c355 h => ?_)
  · skip
    exact rx_sub (f_m_unit_363_ok _ _ _ _ h) [3, 2, 1, 0] rfl
  · skip
    refine rr_callV h (fun y hy => f_m_must_ok _ hy) (fun y4 hy4 h => ?_)
    exact rx_sub (f_m_unit_363_ok _ _ _ _ h) [3, 2, 1, 0] rfl
set_option maxRecDepth 100000 in
set_option maxHeartbeats 4000000 in
theorem f_m_unit_297_ok {P : List Nat} {o : rx_St} : ∀ (v4 : Int32) (σ : rx_St), f_m_unit_297 v4 σ = some o → rx_AtP none 195 297 [(0, .ref 87), (4, .int v4)] [] (rx_D P σ) (none, rx_D P o) := by
  intro v4 σ h
  refine rx_walk [20, 87, 139, 162, 173, 194, 234, 272, 297, 326, 363, 381, 404] 2000 (by decide) rx_e195 ?_
  unfold f_m_unit_297 at h
  refine rr_callV h (fun y hy => f_m_emit_ok _ hy) (fun y1 hy1 h => ?_)
  cases h
  exact And.intro (rfl) rfl
set_option maxRecDepth 100000 in
set_option maxHeartbeats 4000000 in
theorem f_m_unit_272_ok {P : List Nat} {o : rx_St} : ∀ (v3 : Int32) (s0 : Int32) (σ : rx_St), f_m_unit_272 v3 s0 σ = some o → rx_AtP none 195 272 [(0, .ref 87), (3, .int v3)] [.int s0] (rx_D P σ) (none, rx_D P o) := by
  intro v3 s0 σ h
  refine rx_walk [20, 87, 139, 162, 173, 194, 234, 272, 297, 326, 363, 381, 404] 2000 (by decide) rx_e195 ?_
  unfold f_m_unit_272 at h
  refine rr_callV h (fun y hy => f_m_must_ok _ hy) (fun y1 hy1 h => ?_)
  refine rr_if h (fun c283 h => ?_) (fun c283 h => ?_)
  · skip
    refine rr_if h (fun c288 h => ?_) (fun c288 h => ?_)
    · skip
      refine rr_callV h (fun y hy => f_m_wrong_ok _ hy) (fun y2 hy2 h => ?_)
      exact rx_sub (f_m_unit_297_ok _ _ h) [1, 0] rfl
    · skip
      exact rx_sub (f_m_unit_297_ok _ _ h) [1, 0] rfl
  · skip
    exact rx_sub (f_m_unit_297_ok _ _ h) [1, 0] rfl
set_option maxRecDepth 100000 in
set_option maxHeartbeats 4000000 in
theorem f_m_unit_234_ok {P : List Nat} {o : rx_St} : ∀ (σ : rx_St), f_m_unit_234 σ = some o → rx_AtP none 195 234 [(0, .ref 87)] [] (rx_D P σ) (none, rx_D P o) := by
  intro σ h
  refine rx_walk [20, 87, 139, 162, 173, 194, 234, 272, 297, 326, 363, 381, 404] 2000 (by decide) rx_e195 ?_
  unfold f_m_unit_234 at h
  refine rr_callP h (fun y hy => f_m_is_ok _ hy) (fun y1 hy1 h => ?_)
  refine rr_if h (fun c240 h => ?_) (fun c240 h => ?_)
  · skip
    refine rr_callP h (fun y hy => f_m_is_ok _ hy) (fun y2 hy2 h => ?_)
    refine rr_if h (fun c314 h => ?_) (fun c314 h => ?_)
    · skip
      refine rr_callP h (fun y hy => f_m_is_ok _ hy) (fun y3 hy3 h => ?_)
      refine rr_if h (fun c323 h => ?_) (fun c323 h => ?_)
      · skip
        refine rr_callV h (fun y hy => f_m_fail_ok _ hy) (fun y4 hy4 h => ?_)
        cases h
        exact And.intro (rfl) rfl
      · skip
        exact rx_sub (f_m_unit_326_ok _ h) [0] rfl
    · skip
      exact rx_sub (f_m_unit_326_ok _ h) [0] rfl
  · skip
    refine rr_callV h (fun y hy => f_m_next_ok _ hy) (fun y5 hy5 h => ?_)
    refine rr_if h (fun c256 h => ?_) (fun c256 h => ?_)
    · skip
      refine rr_g h (fun c271 h => ?_)
      exact rx_sub (f_m_unit_272_ok _ _ _ h) [1, 0] rfl
    · skip
      exact rx_sub (f_m_unit_272_ok _ _ _ h) [1, 0] rfl
set_option maxRecDepth 100000 in
set_option maxHeartbeats 4000000 in
theorem f_m_unit_194_ok {P : List Nat} {o : rx_St} : ∀ (s1 : Int32) (s2 : Int32) (σ : rx_St), f_m_unit_194 s1 s2 σ = some o → rx_AtP none 195 194 [(0, .ref 87)] [.int s2, .int s1, .ref 87] (rx_D P σ) (none, rx_D P o) := by
  intro s1 s2 σ h
  refine rx_walk [20, 87, 139, 162, 173, 194, 234, 272, 297, 326, 363, 381, 404] 2000 (by decide) rx_e195 ?_
  unfold f_m_unit_194 at h
  refine rr_callV h (fun y hy => f_m_emit_ok _ hy) (fun y1 hy1 h => ?_)
  refine rr_callV h (fun y hy => f_m_next_ok _ hy) (fun y2 hy2 h => ?_)
  cases h
  exact And.intro (rfl) rfl
set_option maxRecDepth 100000 in
set_option maxHeartbeats 4000000 in
theorem f_m_unit_173_ok {P : List Nat} {o : rx_St} : ∀ (v3 : Int32) (v4 : Int32) (s1 : Int32) (σ : rx_St), f_m_unit_173 v3 v4 s1 σ = some o → rx_AtP none 195 173 [(0, .ref 87), (3, .int v3), (4, .int v4)] [.int s1, .ref 87] (rx_D P σ) (none, rx_D P o) := by
  intro v3 v4 s1 σ h
  refine rx_walk [20, 87, 139, 162, 173, 194, 234, 272, 297, 326, 363, 381, 404] 2000 (by decide) rx_e195 ?_
  unfold f_m_unit_173 at h
  refine rr_if h (fun c175 h => ?_) (fun c175 h => ?_)
  · skip
    refine rr_if h (fun c185 h => ?_) (fun c185 h => ?_)
    · skip
      exact rx_sub (f_m_unit_194_ok _ _ _ h) [0] rfl
    · skip
      exact rx_sub (f_m_unit_194_ok _ _ _ h) [0] rfl
  · skip
    exact rx_sub (f_m_unit_194_ok _ _ _ h) [0] rfl
set_option maxRecDepth 100000 in
set_option maxHeartbeats 4000000 in
theorem f_m_unit_162_ok {P : List Nat} {o : rx_St} : ∀ (v3 : Int32) (v4 : Int32) (σ : rx_St), f_m_unit_162 v3 v4 σ = some o → rx_AtP none 195 162 [(0, .ref 87), (3, .int v3), (4, .int v4)] [] (rx_D P σ) (none, rx_D P o) := by
  intro v3 v4 σ h
  refine rx_walk [20, 87, 139, 162, 173, 194, 234, 272, 297, 326, 363, 381, 404] 2000 (by decide) rx_e195 ?_
  unfold f_m_unit_162 at h
  refine rr_if h (fun c165 h => ?_) (fun c165 h => ?_)
  · skip
    exact rx_sub (f_m_unit_173_ok _ _ _ _ h) [0, 1, 2] rfl
  · skip
    exact rx_sub (f_m_unit_173_ok _ _ _ _ h) [0, 1, 2] rfl
set_option maxRecDepth 100000 in
set_option maxHeartbeats 4000000 in
theorem f_m_unit_139_ok {P : List Nat} {o : rx_St} {k87 : Int32 → Int32 → Int32 → Int32 → rx_St → Option (rx_St)} (hk87 : ∀ (v2 : Int32) (v3 : Int32) (v4 : Int32) (v5 : Int32) (σ : rx_St), k87 v2 v3 v4 v5 σ = some o → rx_AtP none 195 87 [(0, .ref 87), (2, .int v2), (3, .int v3), (4, .int v4), (5, .int v5)] [] (rx_D P σ) (none, rx_D P o)) : ∀ (v2 : Int32) (v3 : Int32) (v4 : Int32) (v5 : Int32) (σ : rx_St), f_m_unit_139 k87 v2 v3 v4 v5 σ = some o → rx_AtP none 195 139 [(0, .ref 87), (2, .int v2), (3, .int v3), (4, .int v4), (5, .int v5)] [] (rx_D P σ) (none, rx_D P o) := by
  intro v2 v3 v4 v5 σ h
  refine rx_walk [20, 87, 139, 162, 173, 194, 234, 272, 297, 326, 363, 381, 404] 2000 (by decide) rx_e195 ?_
  unfold f_m_unit_139 at h
  exact rx_sub (hk87 _ _ _ _ _ h) [1, 2, 3, 4, 0] rfl
set_option maxRecDepth 100000 in
set_option maxHeartbeats 4000000 in
theorem f_m_unit_87_ok {P : List Nat} {o : rx_St} : ∀ (n : Nat) (v2 : Int32) (v3 : Int32) (v4 : Int32) (v5 : Int32) (σ : rx_St), f_m_unit_87 n v2 v3 v4 v5 σ = some o → rx_AtP none 195 87 [(0, .ref 87), (2, .int v2), (3, .int v3), (4, .int v4), (5, .int v5)] [] (rx_D P σ) (none, rx_D P o) := by
  intro n
  induction n with
  | zero => intro _ _ _ _ _ h; cases h
  | succ n ih =>
  intro v2 v3 v4 v5 σ h
  refine rx_walk [20, 87, 139, 162, 173, 194, 234, 272, 297, 326, 363, 381, 404] 2000 (by decide) rx_e195 ?_
  rw [f_m_unit_87] at h
  refine rr_g h (fun c97 h => ?_)
  refine rr_if h (fun c98 h => ?_) (fun c98 h => ?_)
  · skip
    refine rr_if h (fun c147 h => ?_) (fun c147 h => ?_)
    · skip
      refine rr_if h (fun c153 h => ?_) (fun c153 h => ?_)
      · skip
        refine rr_callV h (fun y hy => f_m_wrong_ok _ hy) (fun y1 hy1 h => ?_)
        exact rx_sub (f_m_unit_162_ok _ _ _ h) [0, 2, 3] rfl
      · skip
        exact rx_sub (f_m_unit_162_ok _ _ _ h) [0, 2, 3] rfl
    · skip
      exact rx_sub (f_m_unit_162_ok _ _ _ h) [0, 2, 3] rfl
  · skip
    refine rr_if h (fun c104 h => ?_) (fun c104 h => ?_)
    · skip
      refine rr_g h (fun c121 h => ?_)
      refine rr_g h (fun c130 h => ?_)
      refine rr_if h (fun c132 h => ?_) (fun c132 h => ?_)
      · skip
        exact rx_sub (f_m_unit_139_ok ih _ _ _ _ _ h) [1, 2, 3, 0, 4] rfl
      · skip
        exact rx_sub (f_m_unit_139_ok ih _ _ _ _ _ h) [0, 1, 2, 3, 4] rfl
    · skip
      exact rx_sub (f_m_unit_139_ok ih _ _ _ _ _ h) [0, 1, 2, 3, 4] rfl
set_option maxRecDepth 100000 in
set_option maxHeartbeats 4000000 in
theorem f_m_unit_20_ok {P : List Nat} {o : rx_St} : ∀ (s0 : Int32) (σ : rx_St), f_m_unit_20 s0 σ = some o → rx_AtP none 195 20 [(0, .ref 87)] [.int s0] (rx_D P σ) (none, rx_D P o) := by
  intro s0 σ h
  refine rx_walk [20, 87, 139, 162, 173, 194, 234, 272, 297, 326, 363, 381, 404] 2000 (by decide) rx_e195 ?_
  unfold f_m_unit_20 at h
  refine rr_callP h (fun y hy => f_m_is_ok _ hy) (fun y1 hy1 h => ?_)
  refine rr_if h (fun c31 h => ?_) (fun c31 h => ?_)
  · skip
    refine rr_callP h (fun y hy => f_m_is_ok _ hy) (fun y2 hy2 h => ?_)
    refine rr_if h (fun c60 h => ?_) (fun c60 h => ?_)
    · skip
      refine rr_if h (fun c207 h => ?_) (fun c207 h => ?_)
      · skip
        exact rx_sub (f_m_unit_234_ok _ h) [2] rfl
      · skip
        refine rr_if h (fun c213 h => ?_) (fun c213 h => ?_)
        · skip
          exact rx_sub (f_m_unit_234_ok _ h) [2] rfl
        · skip
          refine rr_callV h (fun y hy => f_m_emit_ok _ hy) (fun y3 hy3 h => ?_)
          refine rr_callV h (fun y hy => f_m_next_ok _ hy) (fun y4 hy4 h => ?_)
          cases h
          exact And.intro (rfl) rfl
    · skip
      refine rr_g h (fun c76 h => ?_)
      refine rr_callP h (fun y hy => f_m_varOf_ok _ hy) (fun y5 hy5 h => ?_)
      exact rx_sub (f_m_unit_87_ok rx_fu _ _ _ _ _ h) [5, 3, 2, 1, 0] rfl
  · skip
    refine rr_g h (fun c44 h => ?_)
    refine rr_callV h (fun y hy => f_m_emit_ok _ hy) (fun y6 hy6 h => ?_)
    refine rr_callV h (fun y hy => f_m_next_ok _ hy) (fun y7 hy7 h => ?_)
    cases h
    exact And.intro (rfl) rfl
set_option maxRecDepth 100000 in
set_option maxHeartbeats 4000000 in
theorem f_m_unit_ok {P : List Nat} {σ : rx_St} : ∀ o, f_m_unit σ = some o → rx_OK 195 [.ref 87] 162 [] P σ (none, rx_D P o) := by
  intro o h
  refine rx_OK_of (by decide) (Nat.le_of_ble_eq_true rfl) ?_
  refine rx_walk [20, 87, 139, 162, 173, 194, 234, 272, 297, 326, 363, 381, 404] 2000 (by decide) rx_e195 ?_
  unfold f_m_unit at h
  refine rr_if h (fun c4 h => ?_) (fun c4 h => ?_)
  · skip
    refine rr_g h (fun c19 h => ?_)
    exact rx_sub (f_m_unit_20_ok _ _ h) [0] rfl
  · skip
    exact rx_sub (f_m_unit_20_ok _ _ h) [0] rfl
set_option maxRecDepth 100000 in
theorem rx_e193 : rx_Ext none 193 := rx_Ext_plain (by decide +kernel)
set_option maxRecDepth 100000 in
set_option maxHeartbeats 4000000 in
theorem f_m_comesOut_88_ok {P : List Nat} {o : rx_St} {k0 : Int32 → rx_St → Option (rx_St)} (hk0 : ∀ (v1 : Int32) (σ : rx_St), k0 v1 σ = some o → rx_AtP none 193 0 [(0, .ref 87), (1, .int v1)] [] (rx_D P σ) (none, rx_D P o)) : ∀ (v1 : Int32) (s1 : Int32) (σ : rx_St), f_m_comesOut_88 k0 v1 s1 σ = some o → rx_AtP none 193 88 [(0, .ref 87), (1, .int v1)] [.int s1, .ref 87] (rx_D P σ) (none, rx_D P o) := by
  intro v1 s1 σ h
  refine rx_walk [0, 42, 88] 2000 (by decide) rx_e193 ?_
  unfold f_m_comesOut_88 at h
  refine rr_callV h (fun y hy => f_m_emit_ok _ hy) (fun y1 hy1 h => ?_)
  exact rx_sub (hk0 _ _ h) [0, 1] rfl
set_option maxRecDepth 100000 in
set_option maxHeartbeats 4000000 in
theorem f_m_comesOut_42_ok {P : List Nat} {o : rx_St} {k0 : Int32 → rx_St → Option (rx_St)} (hk0 : ∀ (v1 : Int32) (σ : rx_St), k0 v1 σ = some o → rx_AtP none 193 0 [(0, .ref 87), (1, .int v1)] [] (rx_D P σ) (none, rx_D P o)) : ∀ (v1 : Int32) (v2 : Int32) (σ : rx_St), f_m_comesOut_42 k0 v1 v2 σ = some o → rx_AtP none 193 42 [(0, .ref 87), (1, .int v1), (2, .int v2)] [] (rx_D P σ) (none, rx_D P o) := by
  intro v1 v2 σ h
  refine rx_walk [0, 42, 88] 2000 (by decide) rx_e193 ?_
  unfold f_m_comesOut_42 at h
  refine rr_if h (fun c56 h => ?_) (fun c56 h => ?_)
  · skip
    exact rx_sub (f_m_comesOut_88_ok hk0 _ _ _ h) [0, 1] rfl
  · skip
    refine rr_if h (fun c67 h => ?_) (fun c67 h => ?_)
    · skip
      exact rx_sub (f_m_comesOut_88_ok hk0 _ _ _ h) [0, 1] rfl
    · skip
      refine rr_if h (fun c78 h => ?_) (fun c78 h => ?_)
      · skip
        exact rx_sub (f_m_comesOut_88_ok hk0 _ _ _ h) [0, 1] rfl
      · skip
        exact rx_sub (f_m_comesOut_88_ok hk0 _ _ _ h) [0, 1] rfl
set_option maxRecDepth 100000 in
set_option maxHeartbeats 4000000 in
theorem f_m_comesOut_0_ok {P : List Nat} {o : rx_St} : ∀ (n : Nat) (v1 : Int32) (σ : rx_St), f_m_comesOut_0 n v1 σ = some o → rx_AtP none 193 0 [(0, .ref 87), (1, .int v1)] [] (rx_D P σ) (none, rx_D P o) := by
  intro n
  induction n with
  | zero => intro _ _ h; cases h
  | succ n ih =>
  intro v1 σ h
  refine rx_walk [0, 42, 88] 2000 (by decide) rx_e193 ?_
  rw [f_m_comesOut_0] at h
  refine rr_if h (fun c4 h => ?_) (fun c4 h => ?_)
  · skip
    cases h
    exact And.intro (rfl) rfl
  · skip
    refine rr_g h (fun c17 h => ?_)
    refine rr_if h (fun c22 h => ?_) (fun c22 h => ?_)
    · skip
      cases h
      exact And.intro (rfl) rfl
    · skip
      refine rr_if h (fun c26 h => ?_) (fun c26 h => ?_)
      · skip
        exact rx_sub (f_m_comesOut_42_ok ih _ _ _ h) [1, 2, 0] rfl
      · skip
        refine rr_if h (fun c32 h => ?_) (fun c32 h => ?_)
        · skip
          cases h
          exact And.intro (rfl) rfl
        · skip
          refine rr_if h (fun c38 h => ?_) (fun c38 h => ?_)
          · skip
            cases h
            exact And.intro (rfl) rfl
          · skip
            exact rx_sub (f_m_comesOut_42_ok ih _ _ _ h) [1, 2, 0] rfl
set_option maxRecDepth 100000 in
set_option maxHeartbeats 4000000 in
theorem f_m_comesOut_ok {P : List Nat} {a0 : Int32} {σ : rx_St} : ∀ o, f_m_comesOut a0 σ = some o → rx_OK 193 [.ref 87, .int a0] 162 [] P σ (none, rx_D P o) := by
  intro o h
  refine rx_OK_of (by decide) (Nat.le_of_ble_eq_true rfl) ?_
  unfold f_m_comesOut at h
  exact rx_sub (f_m_comesOut_0_ok rx_fu _ _ h) [0, 1] rfl
set_option maxRecDepth 100000 in
theorem rx_e194 : rx_Ext none 194 := rx_Ext_plain (by decide +kernel)
set_option maxRecDepth 100000 in
set_option maxHeartbeats 4000000 in
theorem f_m_expression_204_ok {P : List Nat} {o : rx_St} : ∀ (σ : rx_St), f_m_expression_204 σ = some o → rx_AtP none 194 204 [(0, .ref 87)] [] (rx_D P σ) (none, rx_D P o) := by
  intro σ h
  refine rx_walk [12, 23, 46, 96, 145, 181, 186, 204, 229, 234] 2000 (by decide) rx_e194 ?_
  unfold f_m_expression_204 at h
  refine rr_callV h (fun y hy => f_m_comesOut_ok _ hy) (fun y1 hy1 h => ?_)
  cases h
  exact And.intro (rfl) rfl
set_option maxRecDepth 100000 in
set_option maxHeartbeats 4000000 in
theorem f_m_expression_234_ok {P : List Nat} {o : rx_St} {k12 : Int32 → Int32 → rx_St → Option (rx_St)} (hk12 : ∀ (v1 : Int32) (v2 : Int32) (σ : rx_St), k12 v1 v2 σ = some o → rx_AtP none 194 12 [(0, .ref 87), (1, .int v1), (2, .int v2)] [] (rx_D P σ) (none, rx_D P o)) : ∀ (v1 : Int32) (v2 : Int32) (s1 : Int32) (σ : rx_St), f_m_expression_234 k12 v1 v2 s1 σ = some o → rx_AtP none 194 234 [(0, .ref 87), (1, .int v1), (2, .int v2)] [.int s1, .ref 87] (rx_D P σ) (none, rx_D P o) := by
  intro v1 v2 s1 σ h
  refine rx_walk [12, 23, 46, 96, 145, 181, 186, 204, 229, 234] 2000 (by decide) rx_e194 ?_
  unfold f_m_expression_234 at h
  refine rr_callV h (fun y hy => f_m_comesOut_ok _ hy) (fun y1 hy1 h => ?_)
  refine rr_g h (fun c253 h => ?_)
  refine rr_g h (fun c254 h => ?_)
  refine rr_callV h (fun y hy => f_m_next_ok _ hy) (fun y2 hy2 h => ?_)
  exact rx_sub (hk12 _ _ _ h) [0, 1, 2] rfl
set_option maxRecDepth 100000 in
set_option maxHeartbeats 4000000 in
theorem f_m_expression_229_ok {P : List Nat} {o : rx_St} {k12 : Int32 → Int32 → rx_St → Option (rx_St)} (hk12 : ∀ (v1 : Int32) (v2 : Int32) (σ : rx_St), k12 v1 v2 σ = some o → rx_AtP none 194 12 [(0, .ref 87), (1, .int v1), (2, .int v2)] [] (rx_D P σ) (none, rx_D P o)) : ∀ (v1 : Int32) (v2 : Int32) (σ : rx_St), f_m_expression_229 k12 v1 v2 σ = some o → rx_AtP none 194 229 [(0, .ref 87), (1, .int v1), (2, .int v2)] [.ref 87] (rx_D P σ) (none, rx_D P o) := by
  intro v1 v2 σ h
  refine rx_walk [12, 23, 46, 96, 145, 181, 186, 204, 229, 234] 2000 (by decide) rx_e194 ?_
  unfold f_m_expression_229 at h
  exact rx_sub (f_m_expression_234_ok hk12 _ _ _ _ h) [0, 1, 2] rfl
set_option maxRecDepth 100000 in
set_option maxHeartbeats 4000000 in
theorem f_m_expression_186_ok {P : List Nat} {o : rx_St} {k12 : Int32 → Int32 → rx_St → Option (rx_St)} (hk12 : ∀ (v1 : Int32) (v2 : Int32) (σ : rx_St), k12 v1 v2 σ = some o → rx_AtP none 194 12 [(0, .ref 87), (1, .int v1), (2, .int v2)] [] (rx_D P σ) (none, rx_D P o)) : ∀ (v1 : Int32) (s0 : Int32) (σ : rx_St), f_m_expression_186 k12 v1 s0 σ = some o → rx_AtP none 194 186 [(0, .ref 87), (1, .int v1)] [.int s0] (rx_D P σ) (none, rx_D P o) := by
  intro v1 s0 σ h
  refine rx_walk [12, 23, 46, 96, 145, 181, 186, 204, 229, 234] 2000 (by decide) rx_e194 ?_
  unfold f_m_expression_186 at h
  refine rr_if h (fun c188 h => ?_) (fun c188 h => ?_)
  · skip
    refine rr_if h (fun c196 h => ?_) (fun c196 h => ?_)
    · skip
      exact rx_sub (f_m_expression_204_ok _ h) [1] rfl
    · skip
      refine rr_callV h (fun y hy => f_m_fail_ok _ hy) (fun y1 hy1 h => ?_)
      exact rx_sub (f_m_expression_204_ok _ h) [1] rfl
  · skip
    refine rr_callP h (fun y hy => f_m_is_ok _ hy) (fun y2 hy2 h => ?_)
    refine rr_if h (fun c217 h => ?_) (fun c217 h => ?_)
    · skip
      refine rr_callP h (fun y hy => f_m_is_ok _ hy) (fun y3 hy3 h => ?_)
      refine rr_if h (fun c226 h => ?_) (fun c226 h => ?_)
      · skip
        exact rx_sub (f_m_expression_234_ok hk12 _ _ _ _ h) [1, 2, 0] rfl
      · skip
        exact rx_sub (f_m_expression_229_ok hk12 _ _ _ h) [1, 2, 0] rfl
    · skip
      exact rx_sub (f_m_expression_229_ok hk12 _ _ _ h) [1, 2, 0] rfl
set_option maxRecDepth 100000 in
set_option maxHeartbeats 4000000 in
theorem f_m_expression_181_ok {P : List Nat} {o : rx_St} {k12 : Int32 → Int32 → rx_St → Option (rx_St)} (hk12 : ∀ (v1 : Int32) (v2 : Int32) (σ : rx_St), k12 v1 v2 σ = some o → rx_AtP none 194 12 [(0, .ref 87), (1, .int v1), (2, .int v2)] [] (rx_D P σ) (none, rx_D P o)) : ∀ (v1 : Int32) (σ : rx_St), f_m_expression_181 k12 v1 σ = some o → rx_AtP none 194 181 [(0, .ref 87), (1, .int v1)] [] (rx_D P σ) (none, rx_D P o) := by
  intro v1 σ h
  refine rx_walk [12, 23, 46, 96, 145, 181, 186, 204, 229, 234] 2000 (by decide) rx_e194 ?_
  unfold f_m_expression_181 at h
  exact rx_sub (f_m_expression_186_ok hk12 _ _ _ h) [0, 1] rfl
set_option maxRecDepth 100000 in
set_option maxHeartbeats 4000000 in
theorem f_m_expression_145_ok {P : List Nat} {o : rx_St} {k12 : Int32 → Int32 → rx_St → Option (rx_St)} (hk12 : ∀ (v1 : Int32) (v2 : Int32) (σ : rx_St), k12 v1 v2 σ = some o → rx_AtP none 194 12 [(0, .ref 87), (1, .int v1), (2, .int v2)] [] (rx_D P σ) (none, rx_D P o)) : ∀ (v1 : Int32) (σ : rx_St), f_m_expression_145 k12 v1 σ = some o → rx_AtP none 194 145 [(0, .ref 87), (1, .int v1)] [] (rx_D P σ) (none, rx_D P o) := by
  intro v1 σ h
  refine rx_walk [12, 23, 46, 96, 145, 181, 186, 204, 229, 234] 2000 (by decide) rx_e194 ?_
  unfold f_m_expression_145 at h
  refine rr_callP h (fun y hy => f_m_is_ok _ hy) (fun y1 hy1 h => ?_)
  refine rr_if h (fun c151 h => ?_) (fun c151 h => ?_)
  · skip
    refine rr_callP h (fun y hy => f_m_is_ok _ hy) (fun y2 hy2 h => ?_)
    refine rr_if h (fun c160 h => ?_) (fun c160 h => ?_)
    · skip
      refine rr_callP h (fun y hy => f_m_is_ok _ hy) (fun y3 hy3 h => ?_)
      refine rr_if h (fun c169 h => ?_) (fun c169 h => ?_)
      · skip
        refine rr_callP h (fun y hy => f_m_is_ok _ hy) (fun y4 hy4 h => ?_)
        refine rr_if h (fun c178 h => ?_) (fun c178 h => ?_)
        · skip
          exact rx_sub (f_m_expression_186_ok hk12 _ _ _ h) [0, 1] rfl
        · skip
          exact rx_sub (f_m_expression_181_ok hk12 _ _ h) [0, 1] rfl
      · skip
        exact rx_sub (f_m_expression_181_ok hk12 _ _ h) [0, 1] rfl
    · skip
      exact rx_sub (f_m_expression_181_ok hk12 _ _ h) [0, 1] rfl
  · skip
    exact rx_sub (f_m_expression_181_ok hk12 _ _ h) [0, 1] rfl
set_option maxRecDepth 100000 in
set_option maxHeartbeats 4000000 in
theorem f_m_expression_96_ok {P : List Nat} {o : rx_St} {k12 : Int32 → Int32 → rx_St → Option (rx_St)} (hk12 : ∀ (v1 : Int32) (v2 : Int32) (σ : rx_St), k12 v1 v2 σ = some o → rx_AtP none 194 12 [(0, .ref 87), (1, .int v1), (2, .int v2)] [] (rx_D P σ) (none, rx_D P o)) : ∀ (n : Nat) (v1 : Int32) (σ : rx_St), f_m_expression_96 k12 n v1 σ = some o → rx_AtP none 194 96 [(0, .ref 87), (1, .int v1)] [] (rx_D P σ) (none, rx_D P o) := by
  intro n
  induction n with
  | zero => intro _ _ h; cases h
  | succ n ih =>
  intro v1 σ h
  refine rx_walk [12, 23, 46, 96, 145, 181, 186, 204, 229, 234] 2000 (by decide) rx_e194 ?_
  rw [f_m_expression_96] at h
  refine rr_callP h (fun y hy => f_m_is_ok _ hy) (fun y1 hy1 h => ?_)
  refine rr_if h (fun c102 h => ?_) (fun c102 h => ?_)
  · skip
    exact rx_sub (f_m_expression_145_ok hk12 _ _ h) [0, 1] rfl
  · skip
    refine rr_if h (fun c110 h => ?_) (fun c110 h => ?_)
    · skip
      exact rx_sub (f_m_expression_145_ok hk12 _ _ h) [0, 1] rfl
    · skip
      refine rr_callV h (fun y hy => f_m_comesOut_ok _ hy) (fun y2 hy2 h => ?_)
      refine rr_callV h (fun y hy => f_m_next_ok _ hy) (fun y3 hy3 h => ?_)
      exact rx_sub (ih _ _ h) [0, 1] rfl
set_option maxRecDepth 100000 in
set_option maxHeartbeats 4000000 in
theorem f_m_expression_46_ok {P : List Nat} {o : rx_St} {k12 : Int32 → Int32 → rx_St → Option (rx_St)} {k23 : Int32 → rx_St → Option (rx_St)} (hk12 : ∀ (v1 : Int32) (v2 : Int32) (σ : rx_St), k12 v1 v2 σ = some o → rx_AtP none 194 12 [(0, .ref 87), (1, .int v1), (2, .int v2)] [] (rx_D P σ) (none, rx_D P o)) (hk23 : ∀ (v1 : Int32) (σ : rx_St), k23 v1 σ = some o → rx_AtP none 194 23 [(0, .ref 87), (1, .int v1)] [] (rx_D P σ) (none, rx_D P o)) : ∀ (v1 : Int32) (σ : rx_St), f_m_expression_46 k12 k23 v1 σ = some o → rx_AtP none 194 46 [(0, .ref 87), (1, .int v1)] [] (rx_D P σ) (none, rx_D P o) := by
  intro v1 σ h
  refine rx_walk [12, 23, 46, 96, 145, 181, 186, 204, 229, 234] 2000 (by decide) rx_e194 ?_
  unfold f_m_expression_46 at h
  refine rr_callV h (fun y hy => f_m_next_ok _ hy) (fun y1 hy1 h => ?_)
  refine rr_g h (fun c70 h => ?_)
  exact rx_sub (hk23 _ _ h) [0, 1] rfl
set_option maxRecDepth 100000 in
set_option maxHeartbeats 4000000 in
theorem f_m_expression_23_ok {P : List Nat} {o : rx_St} {k12 : Int32 → Int32 → rx_St → Option (rx_St)} (hk12 : ∀ (v1 : Int32) (v2 : Int32) (σ : rx_St), k12 v1 v2 σ = some o → rx_AtP none 194 12 [(0, .ref 87), (1, .int v1), (2, .int v2)] [] (rx_D P σ) (none, rx_D P o)) : ∀ (n : Nat) (v1 : Int32) (σ : rx_St), f_m_expression_23 k12 n v1 σ = some o → rx_AtP none 194 23 [(0, .ref 87), (1, .int v1)] [] (rx_D P σ) (none, rx_D P o) := by
  intro n
  induction n with
  | zero => intro _ _ h; cases h
  | succ n ih =>
  intro v1 σ h
  refine rx_walk [12, 23, 46, 96, 145, 181, 186, 204, 229, 234] 2000 (by decide) rx_e194 ?_
  rw [f_m_expression_23] at h
  refine rr_callP h (fun y hy => f_m_is_ok _ hy) (fun y1 hy1 h => ?_)
  refine rr_if h (fun c29 h => ?_) (fun c29 h => ?_)
  · skip
    refine rr_callV h (fun y hy => f_m_unit_ok _ hy) (fun y2 hy2 h => ?_)
    refine rr_if h (fun c92 h => ?_) (fun c92 h => ?_)
    · skip
      exact rx_sub (f_m_expression_96_ok hk12 rx_fu _ _ h) [0, 1] rfl
    · skip
      cases h
      exact And.intro (rfl) rfl
  · skip
    refine rr_if h (fun c38 h => ?_) (fun c38 h => ?_)
    · skip
      refine rr_callV h (fun y hy => f_m_fail_ok _ hy) (fun y3 hy3 h => ?_)
      exact rx_sub (f_m_expression_46_ok hk12 ih _ _ h) [0, 1] rfl
    · skip
      exact rx_sub (f_m_expression_46_ok hk12 ih _ _ h) [0, 1] rfl
set_option maxRecDepth 100000 in
set_option maxHeartbeats 4000000 in
theorem f_m_expression_12_ok {P : List Nat} {o : rx_St} : ∀ (n : Nat) (v1 : Int32) (v2 : Int32) (σ : rx_St), f_m_expression_12 n v1 v2 σ = some o → rx_AtP none 194 12 [(0, .ref 87), (1, .int v1), (2, .int v2)] [] (rx_D P σ) (none, rx_D P o) := by
  intro n
  induction n with
  | zero => intro _ _ _ h; cases h
  | succ n ih =>
  intro v1 v2 σ h
  refine rx_walk [12, 23, 46, 96, 145, 181, 186, 204, 229, 234] 2000 (by decide) rx_e194 ?_
  rw [f_m_expression_12] at h
  refine rr_if h (fun c13 h => ?_) (fun c13 h => ?_)
  · skip
    cases h
    exact And.intro (rfl) rfl
  · skip
    refine rr_if h (fun c20 h => ?_) (fun c20 h => ?_)
    · skip
      exact rx_sub (f_m_expression_23_ok ih rx_fu _ _ h) [0, 1] rfl
    · skip
      cases h
      exact And.intro (rfl) rfl
set_option maxRecDepth 100000 in
set_option maxHeartbeats 4000000 in
theorem f_m_expression_ok {P : List Nat} {σ : rx_St} : ∀ o, f_m_expression σ = some o → rx_OK 194 [.ref 87] 162 [] P σ (none, rx_D P o) := by
  intro o h
  refine rx_OK_of (by decide) (Nat.le_of_ble_eq_true rfl) ?_
  refine rx_walk [12, 23, 46, 96, 145, 181, 186, 204, 229, 234] 2000 (by decide) rx_e194 ?_
  unfold f_m_expression at h
  exact rx_sub (f_m_expression_12_ok rx_fu _ _ _ h) [2, 1, 0] rfl
set_option maxRecDepth 100000 in
theorem rx_e191 : rx_Ext none 191 := rx_Ext_plain (by decide +kernel)
set_option maxRecDepth 100000 in
set_option maxHeartbeats 4000000 in
theorem f_m_literal_85_ok {P : List Nat} {o : rx_St} : ∀ (v1 : Int32) (v2 : Int32) (v3 : Int32) (v4 : Int32) (σ : rx_St), f_m_literal_85 v1 v2 v3 v4 σ = some o → rx_AtP none 191 85 [(0, .ref 87), (1, .int v1), (2, .int v2), (3, .int v3), (4, .int v4)] [] (rx_D P σ) (none, rx_D P o) := by
  intro v1 v2 v3 v4 σ h
  refine rx_walk [2, 20, 60, 80, 85] 2000 (by decide) rx_e191 ?_
  unfold f_m_literal_85 at h
  refine rr_callV h (fun y hy => f_m_next_ok _ hy) (fun y1 hy1 h => ?_)
  refine rr_callV h (fun y hy => f_m_expression_ok _ hy) (fun y2 hy2 h => ?_)
  refine rr_if h (fun c103 h => ?_) (fun c103 h => ?_)
  · skip
    refine rr_g h (fun c117 h => ?_)
    refine rr_g h (fun c127 h => ?_)
    refine rr_g h (fun c137 h => ?_)
    refine rr_g h (fun c147 h => ?_)
    refine rr_g h (fun c158 h => ?_)
    refine rr_g h (fun c171 h => ?_)
    cases h
    exact And.intro (rfl) rfl
  · skip
    cases h
    exact And.intro (rfl) rfl
set_option maxRecDepth 100000 in
set_option maxHeartbeats 4000000 in
theorem f_m_literal_80_ok {P : List Nat} {o : rx_St} : ∀ (v1 : Int32) (v2 : Int32) (v3 : Int32) (v4 : Int32) (σ : rx_St), f_m_literal_80 v1 v2 v3 v4 σ = some o → rx_AtP none 191 80 [(0, .ref 87), (1, .int v1), (2, .int v2), (3, .int v3), (4, .int v4)] [] (rx_D P σ) (none, rx_D P o) := by
  intro v1 v2 v3 v4 σ h
  refine rx_walk [2, 20, 60, 80, 85] 2000 (by decide) rx_e191 ?_
  unfold f_m_literal_80 at h
  refine rr_callV h (fun y hy => f_m_fail_ok _ hy) (fun y1 hy1 h => ?_)
  exact rx_sub (f_m_literal_85_ok _ _ _ _ _ h) [0, 1, 2, 3, 4] rfl
set_option maxRecDepth 100000 in
set_option maxHeartbeats 4000000 in
theorem f_m_literal_60_ok {P : List Nat} {o : rx_St} : ∀ (v1 : Int32) (v2 : Int32) (v3 : Int32) (s0 : Int32) (σ : rx_St), f_m_literal_60 v1 v2 v3 s0 σ = some o → rx_AtP none 191 60 [(0, .ref 87), (1, .int v1), (2, .int v2), (3, .int v3)] [.int s0] (rx_D P σ) (none, rx_D P o) := by
  intro v1 v2 v3 s0 σ h
  refine rx_walk [2, 20, 60, 80, 85] 2000 (by decide) rx_e191 ?_
  unfold f_m_literal_60 at h
  refine rr_if h (fun c66 h => ?_) (fun c66 h => ?_)
  · skip
    refine rr_if h (fun c71 h => ?_) (fun c71 h => ?_)
    · skip
      exact rx_sub (f_m_literal_80_ok _ _ _ _ _ h) [1, 2, 3, 4, 0] rfl
    · skip
      refine rr_if h (fun c77 h => ?_) (fun c77 h => ?_)
      · skip
        exact rx_sub (f_m_literal_85_ok _ _ _ _ _ h) [1, 2, 3, 4, 0] rfl
      · skip
        exact rx_sub (f_m_literal_80_ok _ _ _ _ _ h) [1, 2, 3, 4, 0] rfl
  · skip
    exact rx_sub (f_m_literal_85_ok _ _ _ _ _ h) [1, 2, 3, 4, 0] rfl
set_option maxRecDepth 100000 in
set_option maxHeartbeats 4000000 in
theorem f_m_literal_20_ok {P : List Nat} {o : rx_St} {k2 : Int32 → Int32 → rx_St → Option (rx_St)} (hk2 : ∀ (v1 : Int32) (v2 : Int32) (σ : rx_St), k2 v1 v2 σ = some o → rx_AtP none 191 2 [(0, .ref 87), (1, .int v1), (2, .int v2)] [] (rx_D P σ) (none, rx_D P o)) : ∀ (v1 : Int32) (s0 : Int32) (σ : rx_St), f_m_literal_20 k2 v1 s0 σ = some o → rx_AtP none 191 20 [(0, .ref 87), (1, .int v1)] [.int s0] (rx_D P σ) (none, rx_D P o) := by
  intro v1 s0 σ h
  refine rx_walk [2, 20, 60, 80, 85] 2000 (by decide) rx_e191 ?_
  unfold f_m_literal_20 at h
  refine rr_callV h (fun y hy => f_m_next_ok _ hy) (fun y1 hy1 h => ?_)
  exact rx_sub (hk2 _ _ _ h) [1, 2, 0] rfl
set_option maxRecDepth 100000 in
set_option maxHeartbeats 4000000 in
theorem f_m_literal_2_ok {P : List Nat} {o : rx_St} : ∀ (n : Nat) (v1 : Int32) (v2 : Int32) (σ : rx_St), f_m_literal_2 n v1 v2 σ = some o → rx_AtP none 191 2 [(0, .ref 87), (1, .int v1), (2, .int v2)] [] (rx_D P σ) (none, rx_D P o) := by
  intro n
  induction n with
  | zero => intro _ _ _ h; cases h
  | succ n ih =>
  intro v1 v2 σ h
  refine rx_walk [2, 20, 60, 80, 85] 2000 (by decide) rx_e191 ?_
  rw [f_m_literal_2] at h
  refine rr_callP h (fun y hy => f_m_is_ok _ hy) (fun y1 hy1 h => ?_)
  refine rr_if h (fun c8 h => ?_) (fun c8 h => ?_)
  · skip
    refine rr_callV h (fun y hy => f_m_expression_ok _ hy) (fun y2 hy2 h => ?_)
    refine rr_if h (fun c41 h => ?_) (fun c41 h => ?_)
    · skip
      refine rr_g h (fun c56 h => ?_)
      exact rx_sub (f_m_literal_60_ok _ _ _ _ _ h) [1, 2, 3, 0] rfl
    · skip
      exact rx_sub (f_m_literal_60_ok _ _ _ _ _ h) [1, 2, 3, 0] rfl
  · skip
    refine rr_if h (fun c12 h => ?_) (fun c12 h => ?_)
    · skip
      exact rx_sub (f_m_literal_20_ok ih _ _ _ h) [0, 1] rfl
    · skip
      exact rx_sub (f_m_literal_20_ok ih _ _ _ h) [0, 1] rfl
set_option maxRecDepth 100000 in
set_option maxHeartbeats 4000000 in
theorem f_m_literal_ok {P : List Nat} {a0 : Int32} {σ : rx_St} : ∀ o, f_m_literal a0 σ = some o → rx_OK 191 [.ref 87, .int a0] 162 [] P σ (none, rx_D P o) := by
  intro o h
  refine rx_OK_of (by decide) (Nat.le_of_ble_eq_true rfl) ?_
  refine rx_walk [2, 20, 60, 80, 85] 2000 (by decide) rx_e191 ?_
  unfold f_m_literal at h
  exact rx_sub (f_m_literal_2_ok rx_fu _ _ _ h) [1, 2, 0] rfl
set_option maxRecDepth 100000 in
theorem rx_e187 : rx_Ext none 187 := rx_Ext_plain (by decide +kernel)
set_option maxRecDepth 100000 in
set_option maxHeartbeats 4000000 in
theorem f_m_ownVar_45_ok {P : List Nat} {o : Int32 × rx_St} : ∀ (v2 : Int32) (σ : rx_St), f_m_ownVar_45 v2 σ = some o → rx_AtP none 187 45 [(2, .int v2)] [] (rx_D P σ) (some (.int o.1), rx_D P o.2) := by
  intro v2 σ h
  refine rx_walk [45] 2000 (by decide) rx_e187 ?_
  unfold f_m_ownVar_45 at h
  refine rr_if h (fun c47 h => ?_) (fun c47 h => ?_)
  · skip
    cases h
    exact And.intro (trivial) rfl
  · skip
    cases h
    exact And.intro (trivial) rfl
set_option maxRecDepth 100000 in
set_option maxHeartbeats 4000000 in
theorem f_m_ownVar_ok {P : List Nat} {σ : rx_St} : ∀ o, f_m_ownVar σ = some o → rx_OK 187 [.ref 87] 162 [] P σ (some (.int o.1), rx_D P o.2) := by
  intro o h
  refine rx_OK_of (by decide) (Nat.le_of_ble_eq_true rfl) ?_
  refine rx_walk [45] 2000 (by decide) rx_e187 ?_
  unfold f_m_ownVar at h
  refine rr_callV h (fun y hy => f_m_must_ok _ hy) (fun y1 hy1 h => ?_)
  refine rr_if h (fun c14 h => ?_) (fun c14 h => ?_)
  · skip
    refine rr_g h (fun c29 h => ?_)
    refine rr_callP h (fun y hy => f_m_varOf_ok _ hy) (fun y2 hy2 h => ?_)
    refine rr_if h (fun c36 h => ?_) (fun c36 h => ?_)
    · skip
      refine rr_callV h (fun y hy => f_m_wrong_ok _ hy) (fun y3 hy3 h => ?_)
      exact rx_sub (f_m_ownVar_45_ok _ _ h) [0] rfl
    · skip
      exact rx_sub (f_m_ownVar_45_ok _ _ h) [0] rfl
  · skip
    cases h
    exact And.intro (trivial) rfl
set_option maxRecDepth 100000 in
theorem rx_e188 : rx_Ext none 188 := rx_Ext_plain (by decide +kernel)
set_option maxRecDepth 100000 in
set_option maxHeartbeats 4000000 in
theorem f_m_tellWish_237_ok {P : List Nat} {o : rx_St} : ∀ (v1 : Int32) (v2 : Int32) (v3 : Int32) (σ : rx_St), f_m_tellWish_237 v1 v2 v3 σ = some o → rx_AtP none 188 237 [(0, .ref 87), (1, .int v1), (2, .int v2), (3, .int v3)] [] (rx_D P σ) (none, rx_D P o) := by
  intro v1 v2 v3 σ h
  refine rx_walk [53, 83, 127, 135, 155, 187, 209, 237] 2000 (by decide) rx_e188 ?_
  unfold f_m_tellWish_237 at h
  refine rr_callV h (fun y hy => f_m_must_ok _ hy) (fun y1 hy1 h => ?_)
  refine rr_g h (fun c248 h => ?_)
  refine rr_if h (fun c253 h => ?_) (fun c253 h => ?_)
  · skip
    refine rr_g h (fun c262 h => ?_)
    refine rr_g h (fun c265 h => ?_)
    cases h
    exact And.intro (rfl) rfl
  · skip
    cases h
    exact And.intro (rfl) rfl
set_option maxRecDepth 100000 in
set_option maxHeartbeats 4000000 in
theorem f_m_tellWish_209_ok {P : List Nat} {o : rx_St} : ∀ (v1 : Int32) (v2 : Int32) (v3 : Int32) (v4 : Int32) (σ : rx_St), f_m_tellWish_209 v1 v2 v3 v4 σ = some o → rx_AtP none 188 209 [(0, .ref 87), (1, .int v1), (2, .int v2), (3, .int v3), (4, .int v4)] [] (rx_D P σ) (none, rx_D P o) := by
  intro v1 v2 v3 v4 σ h
  refine rx_walk [53, 83, 127, 135, 155, 187, 209, 237] 2000 (by decide) rx_e188 ?_
  unfold f_m_tellWish_209 at h
  refine rr_callV h (fun y hy => f_m_must_ok _ hy) (fun y1 hy1 h => ?_)
  refine rr_if h (fun c224 h => ?_) (fun c224 h => ?_)
  · skip
    refine rr_callV h (fun y hy => f_m_asks_ok _ hy) (fun y2 hy2 h => ?_)
    exact rx_sub (f_m_tellWish_237_ok _ _ _ _ h) [1, 2, 3, 4] rfl
  · skip
    exact rx_sub (f_m_tellWish_237_ok _ _ _ _ h) [1, 2, 3, 4] rfl
set_option maxRecDepth 100000 in
set_option maxHeartbeats 4000000 in
theorem f_m_tellWish_187_ok {P : List Nat} {o : rx_St} : ∀ (v1 : Int32) (v2 : Int32) (v3 : Int32) (v4 : Int32) (σ : rx_St), f_m_tellWish_187 v1 v2 v3 v4 σ = some o → rx_AtP none 188 187 [(0, .ref 87), (1, .int v1), (2, .int v2), (3, .int v3), (4, .int v4)] [] (rx_D P σ) (none, rx_D P o) := by
  intro v1 v2 v3 v4 σ h
  refine rx_walk [53, 83, 127, 135, 155, 187, 209, 237] 2000 (by decide) rx_e188 ?_
  unfold f_m_tellWish_187 at h
  refine rr_callP h (fun y hy => f_m_is_ok _ hy) (fun y1 hy1 h => ?_)
  refine rr_if h (fun c193 h => ?_) (fun c193 h => ?_)
  · skip
    refine rr_callV h (fun y hy => f_m_must_ok _ hy) (fun y2 hy2 h => ?_)
    exact rx_sub (f_m_tellWish_209_ok _ _ _ _ _ h) [0, 1, 2, 3, 4] rfl
  · skip
    refine rr_callV h (fun y hy => f_m_next_ok _ hy) (fun y3 hy3 h => ?_)
    exact rx_sub (f_m_tellWish_209_ok _ _ _ _ _ h) [0, 1, 2, 3, 4] rfl
set_option maxRecDepth 100000 in
set_option maxHeartbeats 4000000 in
theorem f_m_tellWish_155_ok {P : List Nat} {o : rx_St} : ∀ (v1 : Int32) (v2 : Int32) (v3 : Int32) (v4 : Int32) (σ : rx_St), f_m_tellWish_155 v1 v2 v3 v4 σ = some o → rx_AtP none 188 155 [(0, .ref 87), (1, .int v1), (2, .int v2), (3, .int v3), (4, .int v4)] [] (rx_D P σ) (none, rx_D P o) := by
  intro v1 v2 v3 v4 σ h
  refine rx_walk [53, 83, 127, 135, 155, 187, 209, 237] 2000 (by decide) rx_e188 ?_
  unfold f_m_tellWish_155 at h
  refine rr_g h (fun c164 h => ?_)
  refine rr_if h (fun c167 h => ?_) (fun c167 h => ?_)
  · skip
    refine rr_callV h (fun y hy => f_m_must_ok _ hy) (fun y1 hy1 h => ?_)
    refine rr_callP h (fun y hy => f_m_is_ok _ hy) (fun y2 hy2 h => ?_)
    refine rr_if h (fun c182 h => ?_) (fun c182 h => ?_)
    · skip
      exact rx_sub (f_m_tellWish_187_ok _ _ _ _ _ h) [0, 1, 2, 3, 4] rfl
    · skip
      exact rx_sub (f_m_tellWish_187_ok _ _ _ _ _ h) [1, 2, 0, 3, 4] rfl
  · skip
    exact rx_sub (f_m_tellWish_237_ok _ _ _ _ h) [0, 1, 2, 3] rfl
set_option maxRecDepth 100000 in
set_option maxHeartbeats 4000000 in
theorem f_m_tellWish_135_ok {P : List Nat} {o : rx_St} : ∀ (v1 : Int32) (v2 : Int32) (v3 : Int32) (v4 : Int32) (s1 : Int32) (s2 : Int32) (σ : rx_St), f_m_tellWish_135 v1 v2 v3 v4 s1 s2 σ = some o → rx_AtP none 188 135 [(0, .ref 87), (1, .int v1), (2, .int v2), (3, .int v3), (4, .int v4)] [.int s2, .int s1, .ref 109] (rx_D P σ) (none, rx_D P o) := by
  intro v1 v2 v3 v4 s1 s2 σ h
  refine rx_walk [53, 83, 127, 135, 155, 187, 209, 237] 2000 (by decide) rx_e188 ?_
  unfold f_m_tellWish_135 at h
  refine rr_g h (fun c135 h => ?_)
  refine rr_g h (fun c145 h => ?_)
  refine rr_if h (fun c148 h => ?_) (fun c148 h => ?_)
  · skip
    exact rx_sub (f_m_tellWish_155_ok _ _ _ _ _ h) [0, 1, 2, 3, 4] rfl
  · skip
    refine rr_callV h (fun y hy => f_m_expression_ok _ hy) (fun y1 hy1 h => ?_)
    exact rx_sub (f_m_tellWish_155_ok _ _ _ _ _ h) [0, 1, 2, 3, 4] rfl
set_option maxRecDepth 100000 in
set_option maxHeartbeats 4000000 in
theorem f_m_tellWish_127_ok {P : List Nat} {o : rx_St} : ∀ (v1 : Int32) (v2 : Int32) (v3 : Int32) (v4 : Int32) (s1 : Int32) (σ : rx_St), f_m_tellWish_127 v1 v2 v3 v4 s1 σ = some o → rx_AtP none 188 127 [(0, .ref 87), (1, .int v1), (2, .int v2), (3, .int v3), (4, .int v4)] [.int s1, .ref 109] (rx_D P σ) (none, rx_D P o) := by
  intro v1 v2 v3 v4 s1 σ h
  refine rx_walk [53, 83, 127, 135, 155, 187, 209, 237] 2000 (by decide) rx_e188 ?_
  unfold f_m_tellWish_127 at h
  refine rr_callS h (fun y hy => f_m_ownVar_ok _ hy) (fun y1 hy1 h => ?_)
  exact rx_sub (f_m_tellWish_135_ok _ _ _ _ _ _ _ h) [0, 1, 2, 3, 4] rfl
set_option maxRecDepth 100000 in
set_option maxHeartbeats 4000000 in
theorem f_m_tellWish_83_ok {P : List Nat} {o : rx_St} : ∀ (v1 : Int32) (v2 : Int32) (σ : rx_St), f_m_tellWish_83 v1 v2 σ = some o → rx_AtP none 188 83 [(0, .ref 87), (1, .int v1), (2, .int v2)] [] (rx_D P σ) (none, rx_D P o) := by
  intro v1 v2 σ h
  refine rx_walk [53, 83, 127, 135, 155, 187, 209, 237] 2000 (by decide) rx_e188 ?_
  unfold f_m_tellWish_83 at h
  refine rr_if h (fun c87 h => ?_) (fun c87 h => ?_)
  · skip
    refine rr_g h (fun c100 h => ?_)
    refine rr_callV h (fun y hy => f_m_next_ok _ hy) (fun y2 hy2 h => ?_)
    refine rr_if h (fun c119 h => ?_) (fun c119 h => ?_)
    · skip
      exact rx_sub (f_m_tellWish_127_ok _ _ _ _ _ _ h) [2, 3, 4, 1, 0] rfl
    · skip
      refine rr_if h (fun c124 h => ?_) (fun c124 h => ?_)
      · skip
        exact rx_sub (f_m_tellWish_127_ok _ _ _ _ _ _ h) [2, 3, 4, 1, 0] rfl
      · skip
        exact rx_sub (f_m_tellWish_135_ok _ _ _ _ _ _ _ h) [2, 3, 4, 1, 0] rfl
  · skip
    cases h
    exact And.intro (rfl) rfl
set_option maxRecDepth 100000 in
set_option maxHeartbeats 4000000 in
theorem f_m_tellWish_53_ok {P : List Nat} {o : rx_St} : ∀ (v1 : Int32) (s0 : Int32) (σ : rx_St), f_m_tellWish_53 v1 s0 σ = some o → rx_AtP none 188 53 [(0, .ref 87), (1, .int v1)] [.int s0] (rx_D P σ) (none, rx_D P o) := by
  intro v1 s0 σ h
  refine rx_walk [53, 83, 127, 135, 155, 187, 209, 237] 2000 (by decide) rx_e188 ?_
  unfold f_m_tellWish_53 at h
  refine rr_if h (fun c56 h => ?_) (fun c56 h => ?_)
  · skip
    refine rr_callV h (fun y hy => f_m_fail_ok _ hy) (fun y1 hy1 h => ?_)
    exact rx_sub (f_m_tellWish_83_ok _ _ _ h) [1, 2, 0] rfl
  · skip
    refine rr_g h (fun c72 h => ?_)
    refine rr_if h (fun c75 h => ?_) (fun c75 h => ?_)
    · skip
      refine rr_callV h (fun y hy => f_m_fail_ok _ hy) (fun y2 hy2 h => ?_)
      exact rx_sub (f_m_tellWish_83_ok _ _ _ h) [1, 2, 0] rfl
    · skip
      exact rx_sub (f_m_tellWish_83_ok _ _ _ h) [1, 2, 0] rfl
set_option maxRecDepth 100000 in
set_option maxHeartbeats 4000000 in
theorem f_m_tellWish_ok {P : List Nat} {a0 : Int32} {σ : rx_St} : ∀ o, f_m_tellWish a0 σ = some o → rx_OK 188 [.ref 87, .int a0] 162 [] P σ (none, rx_D P o) := by
  intro o h
  refine rx_OK_of (by decide) (Nat.le_of_ble_eq_true rfl) ?_
  refine rx_walk [53, 83, 127, 135, 155, 187, 209, 237] 2000 (by decide) rx_e188 ?_
  unfold f_m_tellWish at h
  refine rr_callP h (fun y hy => f_m_is_ok _ hy) (fun y1 hy1 h => ?_)
  refine rr_if h (fun c6 h => ?_) (fun c6 h => ?_)
  · skip
    refine rr_callP h (fun y hy => f_m_is_ok _ hy) (fun y2 hy2 h => ?_)
    refine rr_if h (fun c19 h => ?_) (fun c19 h => ?_)
    · skip
      refine rr_callP h (fun y hy => f_m_is_ok _ hy) (fun y3 hy3 h => ?_)
      refine rr_if h (fun c32 h => ?_) (fun c32 h => ?_)
      · skip
        refine rr_callP h (fun y hy => f_m_is_ok _ hy) (fun y4 hy4 h => ?_)
        refine rr_if h (fun c45 h => ?_) (fun c45 h => ?_)
        · skip
          exact rx_sub (f_m_tellWish_53_ok _ _ _ h) [0, 1] rfl
        · skip
          exact rx_sub (f_m_tellWish_53_ok _ _ _ h) [0, 1] rfl
      · skip
        exact rx_sub (f_m_tellWish_53_ok _ _ _ h) [0, 1] rfl
    · skip
      exact rx_sub (f_m_tellWish_53_ok _ _ _ h) [0, 1] rfl
  · skip
    exact rx_sub (f_m_tellWish_53_ok _ _ _ h) [0, 1] rfl
