set_option maxRecDepth 100000 in
theorem rx_e235 : rx_Ext none 235 := rx_Ext_plain (by decide +kernel)
set_option maxRecDepth 100000 in
set_option maxHeartbeats 4000000 in
theorem f_m_changed_31_ok {P : List Nat} {o : Int32 × rx_St} : ∀ (σ : rx_St), f_m_changed_31 σ = some o → rx_AtP none 235 31 [] [] (rx_D P σ) (some (.int o.1), rx_D P o.2) := by
  intro σ h
  refine rx_walk [31] 2000 (by decide) rx_e235 ?_
  unfold f_m_changed_31 at h
  cases h
  exact And.intro (trivial) rfl
set_option maxRecDepth 100000 in
set_option maxHeartbeats 4000000 in
theorem f_m_changed_ok {P : List Nat} {a0 : Int32} {a1 : Int32} {a2 : Int32} {a3 : Int32} {σ : rx_St} : ∀ o, f_m_changed a0 a1 a2 a3 σ = some o → rx_OK 235 [.ref 87, .int a0, .int a1, .int a2, .int a3] 162 [] P σ (some (.int o.1), rx_D P o.2) := by
  intro o h
  refine rx_OK_of (by decide) (Nat.le_of_ble_eq_true rfl) ?_
  refine rx_walk [31] 2000 (by decide) rx_e235 ?_
  unfold f_m_changed at h
  refine rr_callT (f_m_isTicks_ok _ rfl) ?_
  refine rr_if h (fun c9 h => ?_) (fun c9 h => ?_)
  · skip
    exact rx_sub (f_m_changed_31_ok _ h) [] rfl
  · skip
    refine rr_callT (f_m_isOne_ok _ rfl) ?_
    refine rr_if h (fun c17 h => ?_) (fun c17 h => ?_)
    · skip
      exact rx_sub (f_m_changed_31_ok _ h) [] rfl
    · skip
      refine rr_if h (fun c22 h => ?_) (fun c22 h => ?_)
      · skip
        exact rx_sub (f_m_changed_31_ok _ h) [] rfl
      · skip
        refine rr_if h (fun c28 h => ?_) (fun c28 h => ?_)
        · skip
          refine rr_callS h (fun y hy => f_m_changes_ok _ hy) (fun y1 hy1 h => ?_)
          cases h
          exact And.intro (trivial) rfl
        · skip
          exact rx_sub (f_m_changed_31_ok _ h) [] rfl
set_option maxRecDepth 100000 in
theorem rx_e236 : rx_Ext none 236 := rx_Ext_plain (by decide +kernel)
set_option maxRecDepth 100000 in
set_option maxHeartbeats 4000000 in
theorem f_m_first_ok {P : List Nat} {a0 : Int32} {a1 : Int32} {a2 : Int32} {a3 : Int32} {a4 : Int32} {σ : rx_St} : ∀ o, f_m_first a0 a1 a2 a3 a4 σ = some o → rx_OK 236 [.ref 87, .int a0, .int a1, .int a2, .int a3, .int a4] 162 [] P σ (some (.int o.1), rx_D P o.2) := by
  intro o h
  refine rx_OK_of (by decide) (Nat.le_of_ble_eq_true rfl) ?_
  refine rx_walk [] 2000 (by decide) rx_e236 ?_
  unfold f_m_first at h
  refine rr_callT (f_m_isTicks_ok _ rfl) ?_
  refine rr_if h (fun c9 h => ?_) (fun c9 h => ?_)
  · skip
    cases h
    exact And.intro (trivial) rfl
  · skip
    refine rr_callT (f_m_isOne_ok _ rfl) ?_
    refine rr_if h (fun c17 h => ?_) (fun c17 h => ?_)
    · skip
      cases h
      exact And.intro (trivial) rfl
    · skip
      refine rr_callT (f_m_isOne_ok _ rfl) ?_
      refine rr_if h (fun c26 h => ?_) (fun c26 h => ?_)
      · skip
        cases h
        exact And.intro (trivial) rfl
      · skip
        refine rr_if h (fun c31 h => ?_) (fun c31 h => ?_)
        · skip
          cases h
          exact And.intro (trivial) rfl
        · skip
          refine rr_if h (fun c37 h => ?_) (fun c37 h => ?_)
          · skip
            refine rr_callS h (fun y hy => f_m_changes_ok _ hy) (fun y1 hy1 h => ?_)
            refine rr_if h (fun c60 h => ?_) (fun c60 h => ?_)
            · skip
              cases h
              exact And.intro (trivial) rfl
            · skip
              refine rr_g h (fun c74 h => ?_)
              cases h
              exact And.intro (trivial) rfl
          · skip
            cases h
            exact And.intro (trivial) rfl
set_option maxRecDepth 100000 in
theorem rx_e237 : rx_Ext none 237 := rx_Ext_plain (by decide +kernel)
set_option maxRecDepth 100000 in
set_option maxHeartbeats 4000000 in
theorem f_m_cause_ok {P : List Nat} {a0 : Int32} {a1 : Int32} {σ : rx_St} : ∀ o, f_m_cause a0 a1 σ = some o → rx_OK 237 [.ref 87, .int a0, .int a1] 162 [] P σ (some (.int o.1), rx_D P o.2) := by
  intro o h
  refine rx_OK_of (by decide) (Nat.le_of_ble_eq_true rfl) ?_
  refine rx_walk [] 2000 (by decide) rx_e237 ?_
  unfold f_m_cause at h
  refine rr_if h (fun c10 h => ?_) (fun c10 h => ?_)
  · skip
    cases h
    exact And.intro (trivial) rfl
  · skip
    refine rr_callP h (fun y hy => f_m_isSetting_ok _ hy) (fun y1 hy1 h => ?_)
    refine rr_if h (fun c18 h => ?_) (fun c18 h => ?_)
    · skip
      cases h
      exact And.intro (trivial) rfl
    · skip
      refine rr_callT (f_m_isNumber_ok _ rfl) ?_
      refine rr_if h (fun c25 h => ?_) (fun c25 h => ?_)
      · skip
        cases h
        exact And.intro (trivial) rfl
      · skip
        refine rr_g h (fun c39 h => ?_)
        refine rr_g h (fun c49 h => ?_)
        cases h
        exact And.intro (trivial) rfl
set_option maxRecDepth 100000 in
theorem rx_e238 : rx_Ext none 238 := rx_Ext_plain (by decide +kernel)
set_option maxRecDepth 100000 in
set_option maxHeartbeats 4000000 in
theorem f_m_clear_ok {P : List Nat} {σ : rx_St} : ∀ o, f_m_clear σ = some o → rx_OK 238 [.ref 87] 162 [] P σ (some (.int o.1), rx_D P o.2) := by
  intro o h
  refine rx_OK_of (by decide) (Nat.le_of_ble_eq_true rfl) ?_
  refine rx_walk [] 2000 (by decide) rx_e238 ?_
  unfold f_m_clear at h
  cases h
  exact And.intro (trivial) rfl
set_option maxRecDepth 100000 in
theorem rx_e239 : rx_Ext none 239 := rx_Ext_plain (by decide +kernel)
set_option maxRecDepth 100000 in
set_option maxHeartbeats 4000000 in
theorem f_m_bits_4_ok {P : List Nat} {σ : rx_St} {o : Int32} : ∀ (n : Nat) (v0 : Int32) (v1 : Int32) (v2 : Int32), f_m_bits_4 n v0 v1 v2 = some o → rx_AtP none 239 4 [(0, .int v0), (1, .int v1), (2, .int v2)] [] (rx_D P σ) (some (.int o), rx_D P σ) := by
  intro n
  induction n with
  | zero => intro _ _ _ h; cases h
  | succ n ih =>
  intro v0 v1 v2 h
  refine rx_walk [4] 2000 (by decide) rx_e239 ?_
  rw [f_m_bits_4] at h
  refine rr_if h (fun c7 h => ?_) (fun c7 h => ?_)
  · skip
    cases h
    exact And.intro (trivial) rfl
  · skip
    exact rx_sub (ih _ _ _ h) [2, 1, 0] rfl
set_option maxRecDepth 100000 in
set_option maxHeartbeats 4000000 in
theorem f_m_bits_ok {P : List Nat} {σ : rx_St} {a0 : Int32} : ∀ o, f_m_bits a0 = some o → rx_OK 239 [.int a0] 162 [] P σ (some (.int o), rx_D P σ) := by
  intro o h
  refine rx_OK_of (by decide) (Nat.le_of_ble_eq_true rfl) ?_
  refine rx_walk [4] 2000 (by decide) rx_e239 ?_
  unfold f_m_bits at h
  exact rx_sub (f_m_bits_4_ok rx_fu _ _ _ h) [2, 1, 0] rfl
set_option maxRecDepth 100000 in
theorem rx_e240 : rx_Ext none 240 := rx_Ext_plain (by decide +kernel)
set_option maxRecDepth 100000 in
set_option maxHeartbeats 4000000 in
theorem f_m_ways_4_ok {P : List Nat} {σ : rx_St} {o : Int64} : ∀ (n : Nat) (v0 : Int32) (v1 : Int64) (v3 : Int32), f_m_ways_4 n v0 v1 v3 = some o → rx_AtP none 240 4 [(0, .int v0), (1, .long v1), (3, .int v3)] [] (rx_D P σ) (some (.long o), rx_D P σ) := by
  intro n
  induction n with
  | zero => intro _ _ _ h; cases h
  | succ n ih =>
  intro v0 v1 v3 h
  refine rx_walk [4] 2000 (by decide) rx_e240 ?_
  rw [f_m_ways_4] at h
  refine rr_if h (fun c6 h => ?_) (fun c6 h => ?_)
  · skip
    cases h
    exact And.intro (rfl) rfl
  · skip
    exact rx_sub (ih _ _ _ h) [2, 1, 0] rfl
set_option maxRecDepth 100000 in
set_option maxHeartbeats 4000000 in
theorem f_m_ways_ok {P : List Nat} {σ : rx_St} {a0 : Int32} : ∀ o, f_m_ways a0 = some o → rx_OK 240 [.int a0] 162 [] P σ (some (.long o), rx_D P σ) := by
  intro o h
  refine rx_OK_of (by decide) (Nat.le_of_ble_eq_true rfl) ?_
  refine rx_walk [4] 2000 (by decide) rx_e240 ?_
  unfold f_m_ways at h
  exact rx_sub (f_m_ways_4_ok rx_fu _ _ _ h) [2, 1, 0] rfl
set_option maxRecDepth 100000 in
theorem rx_e241 : rx_Ext none 241 := rx_Ext_plain (by decide +kernel)
set_option maxRecDepth 100000 in
set_option maxHeartbeats 4000000 in
theorem f_m_share_203_ok {P : List Nat} {o : Int64 × rx_St} {k129 : Int32 → Int64 → Int32 → rx_St → Option (Int64 × rx_St)} (hk129 : ∀ (v1 : Int32) (v6 : Int64) (v8 : Int32) (σ : rx_St), k129 v1 v6 v8 σ = some o → rx_AtP none 241 129 [(0, .ref 87), (1, .int v1), (6, .long v6), (8, .int v8)] [] (rx_D P σ) (some (.long o.1), rx_D P o.2)) : ∀ (v1 : Int32) (v6 : Int64) (v8 : Int32) (σ : rx_St), f_m_share_203 k129 v1 v6 v8 σ = some o → rx_AtP none 241 203 [(0, .ref 87), (1, .int v1), (6, .long v6), (8, .int v8)] [] (rx_D P σ) (some (.long o.1), rx_D P o.2) := by
  intro v1 v6 v8 σ h
  refine rx_walk [36, 54, 93, 129, 203] 2000 (by decide) rx_e241 ?_
  unfold f_m_share_203 at h
  exact rx_sub (hk129 _ _ _ _ h) [1, 2, 3, 0] rfl
set_option maxRecDepth 100000 in
set_option maxHeartbeats 4000000 in
theorem f_m_share_129_ok {P : List Nat} {o : Int64 × rx_St} : ∀ (n : Nat) (v1 : Int32) (v6 : Int64) (v8 : Int32) (σ : rx_St), f_m_share_129 n v1 v6 v8 σ = some o → rx_AtP none 241 129 [(0, .ref 87), (1, .int v1), (6, .long v6), (8, .int v8)] [] (rx_D P σ) (some (.long o.1), rx_D P o.2) := by
  intro n
  induction n with
  | zero => intro _ _ _ _ h; cases h
  | succ n ih =>
  intro v1 v6 v8 σ h
  refine rx_walk [36, 54, 93, 129, 203] 2000 (by decide) rx_e241 ?_
  rw [f_m_share_129] at h
  refine rr_if h (fun c137 h => ?_) (fun c137 h => ?_)
  · skip
    cases h
    exact And.intro (rfl) rfl
  · skip
    refine rr_if h (fun c147 h => ?_) (fun c147 h => ?_)
    · skip
      exact rx_sub (f_m_share_203_ok ih _ _ _ _ h) [0, 1, 2, 3] rfl
    · skip
      refine rr_callP h (fun y hy => f_m_bits_ok _ hy) (fun y1 hy1 h => ?_)
      refine rr_callPL h (fun y hy => f_m_ways_ok _ hy) (fun y2 hy2 h => ?_)
      refine rr_callPL h (fun y hy => f_m_ways_ok _ hy) (fun y3 hy3 h => ?_)
      refine rr_g h (fun c190 h => ?_)
      refine rr_g h (fun c197 h => ?_)
      exact rx_sub (f_m_share_203_ok ih _ _ _ _ h) [2, 3, 0, 4] rfl
set_option maxRecDepth 100000 in
set_option maxHeartbeats 4000000 in
theorem f_m_share_93_ok {P : List Nat} {o : Int64 × rx_St} {k36 : Int32 → Int32 → Int32 → Int32 → Int32 → Int32 → rx_St → Option (Int64 × rx_St)} {k54 : Int32 → Int32 → Int32 → Int32 → Int32 → Int32 → Int32 → rx_St → Option (Int64 × rx_St)} (hk36 : ∀ (v1 : Int32) (v2 : Int32) (v3 : Int32) (v4 : Int32) (v5 : Int32) (v6 : Int32) (σ : rx_St), k36 v1 v2 v3 v4 v5 v6 σ = some o → rx_AtP none 241 36 [(0, .ref 87), (1, .int v1), (2, .int v2), (3, .int v3), (4, .int v4), (5, .int v5), (6, .int v6)] [] (rx_D P σ) (some (.long o.1), rx_D P o.2)) (hk54 : ∀ (v1 : Int32) (v2 : Int32) (v3 : Int32) (v4 : Int32) (v5 : Int32) (v6 : Int32) (v7 : Int32) (σ : rx_St), k54 v1 v2 v3 v4 v5 v6 v7 σ = some o → rx_AtP none 241 54 [(0, .ref 87), (1, .int v1), (2, .int v2), (3, .int v3), (4, .int v4), (5, .int v5), (6, .int v6), (7, .int v7)] [] (rx_D P σ) (some (.long o.1), rx_D P o.2)) : ∀ (v1 : Int32) (v2 : Int32) (v3 : Int32) (v4 : Int32) (v5 : Int32) (v6 : Int32) (v7 : Int32) (σ : rx_St), f_m_share_93 k36 k54 v1 v2 v3 v4 v5 v6 v7 σ = some o → rx_AtP none 241 93 [(0, .ref 87), (1, .int v1), (2, .int v2), (3, .int v3), (4, .int v4), (5, .int v5), (6, .int v6), (7, .int v7)] [] (rx_D P σ) (some (.long o.1), rx_D P o.2) := by
  intro v1 v2 v3 v4 v5 v6 v7 σ h
  refine rx_walk [36, 54, 93, 129, 203] 2000 (by decide) rx_e241 ?_
  unfold f_m_share_93 at h
  exact rx_sub (hk54 _ _ _ _ _ _ _ _ h) [1, 2, 3, 4, 5, 6, 7, 0] rfl
set_option maxRecDepth 100000 in
set_option maxHeartbeats 4000000 in
theorem f_m_share_54_ok {P : List Nat} {o : Int64 × rx_St} {k36 : Int32 → Int32 → Int32 → Int32 → Int32 → Int32 → rx_St → Option (Int64 × rx_St)} (hk36 : ∀ (v1 : Int32) (v2 : Int32) (v3 : Int32) (v4 : Int32) (v5 : Int32) (v6 : Int32) (σ : rx_St), k36 v1 v2 v3 v4 v5 v6 σ = some o → rx_AtP none 241 36 [(0, .ref 87), (1, .int v1), (2, .int v2), (3, .int v3), (4, .int v4), (5, .int v5), (6, .int v6)] [] (rx_D P σ) (some (.long o.1), rx_D P o.2)) : ∀ (n : Nat) (v1 : Int32) (v2 : Int32) (v3 : Int32) (v4 : Int32) (v5 : Int32) (v6 : Int32) (v7 : Int32) (σ : rx_St), f_m_share_54 k36 n v1 v2 v3 v4 v5 v6 v7 σ = some o → rx_AtP none 241 54 [(0, .ref 87), (1, .int v1), (2, .int v2), (3, .int v3), (4, .int v4), (5, .int v5), (6, .int v6), (7, .int v7)] [] (rx_D P σ) (some (.long o.1), rx_D P o.2) := by
  intro n
  induction n with
  | zero => intro _ _ _ _ _ _ _ _ h; cases h
  | succ n ih =>
  intro v1 v2 v3 v4 v5 v6 v7 σ h
  refine rx_walk [36, 54, 93, 129, 203] 2000 (by decide) rx_e241 ?_
  rw [f_m_share_54] at h
  refine rr_if h (fun c60 h => ?_) (fun c60 h => ?_)
  · skip
    refine rr_callS h (fun y hy => f_m_figureOf_ok _ hy) (fun y1 hy1 h => ?_)
    refine rr_g h (fun c116 h => ?_)
    exact rx_sub (hk36 _ _ _ _ _ _ _ h) [1, 2, 3, 4, 5, 6, 0] rfl
  · skip
    refine rr_if h (fun c71 h => ?_) (fun c71 h => ?_)
    · skip
      refine rr_g h (fun c84 h => ?_)
      refine rr_g h (fun c91 h => ?_)
      refine rr_g h (fun c92 h => ?_)
      exact rx_sub (f_m_share_93_ok hk36 ih _ _ _ _ _ _ _ _ h) [0, 1, 2, 3, 4, 5, 6, 7] rfl
    · skip
      exact rx_sub (f_m_share_93_ok hk36 ih _ _ _ _ _ _ _ _ h) [0, 1, 2, 3, 4, 5, 6, 7] rfl
set_option maxRecDepth 100000 in
set_option maxHeartbeats 4000000 in
theorem f_m_share_36_ok {P : List Nat} {o : Int64 × rx_St} : ∀ (n : Nat) (v1 : Int32) (v2 : Int32) (v3 : Int32) (v4 : Int32) (v5 : Int32) (v6 : Int32) (σ : rx_St), f_m_share_36 n v1 v2 v3 v4 v5 v6 σ = some o → rx_AtP none 241 36 [(0, .ref 87), (1, .int v1), (2, .int v2), (3, .int v3), (4, .int v4), (5, .int v5), (6, .int v6)] [] (rx_D P σ) (some (.long o.1), rx_D P o.2) := by
  intro n
  induction n with
  | zero => intro _ _ _ _ _ _ _ h; cases h
  | succ n ih =>
  intro v1 v2 v3 v4 v5 v6 σ h
  refine rx_walk [36, 54, 93, 129, 203] 2000 (by decide) rx_e241 ?_
  rw [f_m_share_36] at h
  refine rr_if h (fun c44 h => ?_) (fun c44 h => ?_)
  · skip
    exact rx_sub (f_m_share_129_ok rx_fu _ _ _ _ h) [2, 3, 1, 0] rfl
  · skip
    refine rr_callV h (fun y hy => f_m_takesNumbers_ok _ hy) (fun y1 hy1 h => ?_)
    exact rx_sub (f_m_share_54_ok ih rx_fu _ _ _ _ _ _ _ _ h) [1, 2, 3, 4, 5, 6, 7, 0] rfl
set_option maxRecDepth 100000 in
set_option maxHeartbeats 4000000 in
theorem f_m_share_ok {P : List Nat} {a0 : Int32} {a1 : Int32} {a2 : Int32} {a3 : Int32} {a4 : Int32} {σ : rx_St} : ∀ o, f_m_share a0 a1 a2 a3 a4 σ = some o → rx_OK 241 [.ref 87, .int a0, .int a1, .int a2, .int a3, .int a4] 162 [] P σ (some (.long o.1), rx_D P o.2) := by
  intro o h
  refine rx_OK_of (by decide) (Nat.le_of_ble_eq_true rfl) ?_
  refine rx_walk [36, 54, 93, 129, 203] 2000 (by decide) rx_e241 ?_
  unfold f_m_share at h
  refine rr_if h (fun c6 h => ?_) (fun c6 h => ?_)
  · skip
    cases h
    exact And.intro (rfl) rfl
  · skip
    refine rr_if h (fun c14 h => ?_) (fun c14 h => ?_)
    · skip
      cases h
      exact And.intro (rfl) rfl
    · skip
      refine rr_callP h (fun y hy => f_m_isFigure_ok _ hy) (fun y1 hy1 h => ?_)
      refine rr_if h (fun c26 h => ?_) (fun c26 h => ?_)
      · skip
        cases h
        exact And.intro (rfl) rfl
      · skip
        exact rx_sub (f_m_share_36_ok rx_fu _ _ _ _ _ _ _ h) [1, 2, 3, 4, 5, 6, 0] rfl
set_option maxRecDepth 100000 in
theorem rx_e242 : rx_Ext none 242 := rx_Ext_plain (by decide +kernel)
set_option maxRecDepth 100000 in
set_option maxHeartbeats 4000000 in
theorem f_m_seen_ok {P : List Nat} {a0 : Int32} {a1 : Int32} {a2 : Int32} {a3 : Int32} {a4 : Int32} {σ : rx_St} : ∀ o, f_m_seen a0 a1 a2 a3 a4 σ = some o → rx_OK 242 [.ref 87, .int a0, .int a1, .int a2, .int a3, .int a4] 162 [] P σ (some (.int o.1), rx_D P o.2) := by
  intro o h
  refine rx_OK_of (by decide) (Nat.le_of_ble_eq_true rfl) ?_
  refine rx_walk [] 2000 (by decide) rx_e242 ?_
  unfold f_m_seen at h
  refine rr_if h (fun c11 h => ?_) (fun c11 h => ?_)
  · skip
    cases h
    exact And.intro (trivial) rfl
  · skip
    refine rr_callP h (fun y hy => f_m_isFigure_ok _ hy) (fun y1 hy1 h => ?_)
    refine rr_if h (fun c21 h => ?_) (fun c21 h => ?_)
    · skip
      cases h
      exact And.intro (trivial) rfl
    · skip
      refine rr_if h (fun c28 h => ?_) (fun c28 h => ?_)
      · skip
        refine rr_g h (fun c42 h => ?_)
        refine rr_g h (fun c52 h => ?_)
        refine rr_g h (fun c62 h => ?_)
        refine rr_g h (fun c73 h => ?_)
        refine rr_g h (fun c84 h => ?_)
        cases h
        exact And.intro (trivial) rfl
      · skip
        cases h
        exact And.intro (trivial) rfl
set_option maxRecDepth 100000 in
theorem rx_e243 : rx_Ext none 243 := rx_Ext_plain (by decide +kernel)
set_option maxRecDepth 100000 in
set_option maxHeartbeats 4000000 in
theorem f_m_points_4_ok {P : List Nat} {o : Int32} : ∀ (n : Nat) (v1 : Int32) (v2 : Int32) (σ : rx_St), f_m_points_4 n v1 v2 σ = some o → rx_AtP none 243 4 [(0, .ref 87), (1, .int v1), (2, .int v2)] [] (rx_D P σ) (some (.int o), rx_D P σ) := by
  intro n
  induction n with
  | zero => intro _ _ _ h; cases h
  | succ n ih =>
  intro v1 v2 σ h
  refine rx_walk [4] 2000 (by decide) rx_e243 ?_
  rw [f_m_points_4] at h
  refine rr_if h (fun c9 h => ?_) (fun c9 h => ?_)
  · skip
    cases h
    exact And.intro (trivial) rfl
  · skip
    refine rr_g h (fun c18 h => ?_)
    exact rx_sub (ih _ _ _ h) [2, 1, 0] rfl
set_option maxRecDepth 100000 in
set_option maxHeartbeats 4000000 in
theorem f_m_points_ok {P : List Nat} {σ : rx_St} : ∀ o, f_m_points σ = some o → rx_OK 243 [.ref 87] 162 [] P σ (some (.int o), rx_D P σ) := by
  intro o h
  refine rx_OK_of (by decide) (Nat.le_of_ble_eq_true rfl) ?_
  refine rx_walk [4] 2000 (by decide) rx_e243 ?_
  unfold f_m_points at h
  exact rx_sub (f_m_points_4_ok rx_fu _ _ _ h) [2, 1, 0] rfl
set_option maxRecDepth 100000 in
theorem rx_e244 : rx_Ext none 244 := rx_Ext_plain (by decide +kernel)
set_option maxRecDepth 100000 in
set_option maxHeartbeats 4000000 in
theorem f_m_span_57_ok {P : List Nat} {o : Int32 × rx_St} : ∀ (n : Nat) (v1 : Int32) (v2 : Int32) (v3 : Int32) (v4 : Int32) (v5 : Int32) (σ : rx_St), f_m_span_57 n v1 v2 v3 v4 v5 σ = some o → rx_AtP none 244 57 [(0, .ref 87), (1, .int v1), (2, .int v2), (3, .int v3), (4, .int v4), (5, .int v5)] [] (rx_D P σ) (some (.int o.1), rx_D P o.2) := by
  intro n
  induction n with
  | zero => intro _ _ _ _ _ _ h; cases h
  | succ n ih =>
  intro v1 v2 v3 v4 v5 σ h
  refine rx_walk [57] 2000 (by decide) rx_e244 ?_
  rw [f_m_span_57] at h
  refine rr_if h (fun c63 h => ?_) (fun c63 h => ?_)
  · skip
    refine rr_c h (fun c90 h => ?_)
    refine rr_if h (fun c100 h => ?_) (fun c100 h => ?_)
    · skip
      cases h
      exact And.intro (trivial) rfl
    · skip
      refine rr_callP h (fun y hy => f_m_points_ok _ hy) (fun y3 hy3 h => ?_)
      refine rr_if h (fun c113 h => ?_) (fun c113 h => ?_)
      · skip
        refine rr_g h (fun c127 h => ?_)
        refine rr_g h (fun c137 h => ?_)
        refine rr_g h (fun c148 h => ?_)
        refine rr_g h (fun c159 h => ?_)
        refine rr_callP h (fun y hy => f_m_points_ok _ hy) (fun y4 hy4 h => ?_)
        cases h
        exact And.intro (trivial) rfl
      · skip
        cases h
        exact And.intro (trivial) rfl
  · skip
    refine rr_g h (fun c72 h => ?_)
    refine rr_if h (fun c74 h => ?_) (fun c74 h => ?_)
    · skip
      cases h
      exact And.intro (trivial) rfl
    · skip
      exact rx_sub (ih _ _ _ _ _ _ h) [1, 2, 3, 4, 5, 0] rfl
set_option maxRecDepth 100000 in
set_option maxHeartbeats 4000000 in
theorem f_m_span_ok {P : List Nat} {a0 : Int32} {a1 : Int32} {a2 : Int32} {a3 : Int32} {σ : rx_St} : ∀ o, f_m_span a0 a1 a2 a3 σ = some o → rx_OK 244 [.ref 87, .int a0, .int a1, .int a2, .int a3] 162 [] P σ (some (.int o.1), rx_D P o.2) := by
  intro o h
  refine rx_OK_of (by decide) (Nat.le_of_ble_eq_true rfl) ?_
  refine rx_walk [57] 2000 (by decide) rx_e244 ?_
  unfold f_m_span at h
  refine rr_if h (fun c10 h => ?_) (fun c10 h => ?_)
  · skip
    cases h
    exact And.intro (trivial) rfl
  · skip
    refine rr_callP h (fun y hy => f_m_isSetting_ok _ hy) (fun y1 hy1 h => ?_)
    refine rr_if h (fun c18 h => ?_) (fun c18 h => ?_)
    · skip
      cases h
      exact And.intro (trivial) rfl
    · skip
      refine rr_callT (f_m_isNumber_ok _ rfl) ?_
      refine rr_if h (fun c25 h => ?_) (fun c25 h => ?_)
      · skip
        cases h
        exact And.intro (trivial) rfl
      · skip
        refine rr_callT (f_m_isNumber_ok _ rfl) ?_
        refine rr_if h (fun c32 h => ?_) (fun c32 h => ?_)
        · skip
          cases h
          exact And.intro (trivial) rfl
        · skip
          refine rr_if h (fun c37 h => ?_) (fun c37 h => ?_)
          · skip
            cases h
            exact And.intro (trivial) rfl
          · skip
            refine rr_callT (f_m_in_ok _ rfl) ?_
            refine rr_if h (fun c49 h => ?_) (fun c49 h => ?_)
            · skip
              cases h
              exact And.intro (trivial) rfl
            · skip
              exact rx_sub (f_m_span_57_ok rx_fu _ _ _ _ _ _ h) [1, 2, 3, 4, 5, 0] rfl
set_option maxRecDepth 100000 in
theorem rx_e245 : rx_Ext none 245 := rx_Ext_plain (by decide +kernel)
set_option maxRecDepth 100000 in
set_option maxHeartbeats 4000000 in
theorem f_m_stepOf_10_ok {P : List Nat} {o : Int32} : ∀ (n : Nat) (v2 : Int32) (v3 : Int32) (v4 : Int32) (σ : rx_St), f_m_stepOf_10 n v2 v3 v4 σ = some o → rx_AtP none 245 10 [(0, .ref 87), (2, .int v2), (3, .int v3), (4, .int v4)] [] (rx_D P σ) (some (.int o), rx_D P σ) := by
  intro n
  induction n with
  | zero => intro _ _ _ _ h; cases h
  | succ n ih =>
  intro v2 v3 v4 σ h
  refine rx_walk [10] 2000 (by decide) rx_e245 ?_
  rw [f_m_stepOf_10] at h
  refine rr_if h (fun c13 h => ?_) (fun c13 h => ?_)
  · skip
    refine rr_g h (fun c38 h => ?_)
    refine rr_c h (fun c39 h => ?_)
    cases h
    exact And.intro (trivial) rfl
  · skip
    refine rr_g h (fun c23 h => ?_)
    refine rr_c h (fun c24 h => ?_)
    exact rx_sub (ih _ _ _ _ h) [2, 3, 1, 0] rfl
set_option maxRecDepth 100000 in
set_option maxHeartbeats 4000000 in
theorem f_m_stepOf_ok {P : List Nat} {a0 : Int32} {a1 : Int32} {σ : rx_St} : ∀ o, f_m_stepOf a0 a1 σ = some o → rx_OK 245 [.ref 87, .int a0, .int a1] 162 [] P σ (some (.int o), rx_D P σ) := by
  intro o h
  refine rx_OK_of (by decide) (Nat.le_of_ble_eq_true rfl) ?_
  refine rx_walk [10] 2000 (by decide) rx_e245 ?_
  unfold f_m_stepOf at h
  exact rx_sub (f_m_stepOf_10_ok rx_fu _ _ _ _ h) [2, 4, 1, 0] rfl
set_option maxRecDepth 100000 in
theorem rx_e246 : rx_Ext none 246 := rx_Ext_plain (by decide +kernel)
set_option maxRecDepth 100000 in
set_option maxHeartbeats 4000000 in
theorem f_m_stands_6_ok {P : List Nat} {o : rx_St} : ∀ (n : Nat) (v1 : Int32) (v2 : Int32) (σ : rx_St), f_m_stands_6 n v1 v2 σ = some o → rx_AtP none 246 6 [(0, .ref 87), (1, .int v1), (2, .int v2)] [] (rx_D P σ) (none, rx_D P o) := by
  intro n
  induction n with
  | zero => intro _ _ _ h; cases h
  | succ n ih =>
  intro v1 v2 σ h
  refine rx_walk [6] 2000 (by decide) rx_e246 ?_
  rw [f_m_stands_6] at h
  refine rr_if h (fun c11 h => ?_) (fun c11 h => ?_)
  · skip
    cases h
    exact And.intro (rfl) rfl
  · skip
    refine rr_g h (fun c23 h => ?_)
    refine rr_g h (fun c29 h => ?_)
    refine rr_callP h (fun y hy => f_m_stepOf_ok _ hy) (fun y1 hy1 h => ?_)
    refine rr_g h (fun c41 h => ?_)
    refine rr_g h (fun c44 h => ?_)
    exact rx_sub (ih _ _ _ h) [1, 2, 0] rfl
set_option maxRecDepth 100000 in
set_option maxHeartbeats 4000000 in
theorem f_m_stands_ok {P : List Nat} {a0 : Int32} {σ : rx_St} : ∀ o, f_m_stands a0 σ = some o → rx_OK 246 [.ref 87, .int a0] 162 [] P σ (none, rx_D P o) := by
  intro o h
  refine rx_OK_of (by decide) (Nat.le_of_ble_eq_true rfl) ?_
  refine rx_walk [6] 2000 (by decide) rx_e246 ?_
  unfold f_m_stands at h
  refine rr_callV h (fun y hy => f_m_takesNumbers_ok _ hy) (fun y1 hy1 h => ?_)
  exact rx_sub (f_m_stands_6_ok rx_fu _ _ _ h) [1, 2, 0] rfl
set_option maxRecDepth 100000 in
theorem rx_e247 : rx_Ext none 247 := rx_Ext_plain (by decide +kernel)
set_option maxRecDepth 100000 in
set_option maxHeartbeats 4000000 in
theorem f_m_isMeeting_15_ok {P : List Nat} {o : Int32 × rx_St} {k7 : Int32 → Int32 → rx_St → Option (Int32 × rx_St)} (hk7 : ∀ (v2 : Int32) (v3 : Int32) (σ : rx_St), k7 v2 v3 σ = some o → rx_AtP none 247 7 [(0, .ref 87), (2, .int v2), (3, .int v3)] [] (rx_D P σ) (some (.int o.1), rx_D P o.2)) : ∀ (n : Nat) (v2 : Int32) (v3 : Int32) (v4 : Int32) (σ : rx_St), f_m_isMeeting_15 k7 n v2 v3 v4 σ = some o → rx_AtP none 247 15 [(0, .ref 87), (2, .int v2), (3, .int v3), (4, .int v4)] [] (rx_D P σ) (some (.int o.1), rx_D P o.2) := by
  intro n
  induction n with
  | zero => intro _ _ _ _ h; cases h
  | succ n ih =>
  intro v2 v3 v4 σ h
  refine rx_walk [7, 15] 2000 (by decide) rx_e247 ?_
  rw [f_m_isMeeting_15] at h
  refine rr_if h (fun c21 h => ?_) (fun c21 h => ?_)
  · skip
    exact rx_sub (hk7 _ _ _ h) [1, 2, 0] rfl
  · skip
    refine rr_g h (fun c32 h => ?_)
    refine rr_g h (fun c39 h => ?_)
    refine rr_g h (fun c46 h => ?_)
    refine rr_callS h (fun y hy => f_m_figureOf_ok _ hy) (fun y1 hy1 h => ?_)
    refine rr_g h (fun c60 h => ?_)
    refine rr_if h (fun c61 h => ?_) (fun c61 h => ?_)
    · skip
      cases h
      exact And.intro (Or.inl rfl) rfl
    · skip
      refine rr_g h (fun c72 h => ?_)
      refine rr_if h (fun c73 h => ?_) (fun c73 h => ?_)
      · skip
        exact rx_sub (ih _ _ _ _ h) [2, 3, 4, 0] rfl
      · skip
        cases h
        exact And.intro (Or.inl rfl) rfl
set_option maxRecDepth 100000 in
set_option maxHeartbeats 4000000 in
theorem f_m_isMeeting_7_ok {P : List Nat} {o : Int32 × rx_St} : ∀ (n : Nat) (v2 : Int32) (v3 : Int32) (σ : rx_St), f_m_isMeeting_7 n v2 v3 σ = some o → rx_AtP none 247 7 [(0, .ref 87), (2, .int v2), (3, .int v3)] [] (rx_D P σ) (some (.int o.1), rx_D P o.2) := by
  intro n
  induction n with
  | zero => intro _ _ _ h; cases h
  | succ n ih =>
  intro v2 v3 σ h
  refine rx_walk [7, 15] 2000 (by decide) rx_e247 ?_
  rw [f_m_isMeeting_7] at h
  refine rr_if h (fun c9 h => ?_) (fun c9 h => ?_)
  · skip
    cases h
    exact And.intro (Or.inr rfl) rfl
  · skip
    exact rx_sub (f_m_isMeeting_15_ok ih rx_fu _ _ _ _ h) [1, 2, 3, 0] rfl
set_option maxRecDepth 100000 in
set_option maxHeartbeats 4000000 in
theorem f_m_isMeeting_ok {P : List Nat} {a0 : Int32} {a1 : Int32} {σ : rx_St} : ∀ o, f_m_isMeeting a0 a1 σ = some o → rx_OK 247 [.ref 87, .int a0, .int a1] 162 [] P σ (some (.int o.1), rx_D P o.2) := by
  intro o h
  refine rx_OK_of (by decide) (Nat.le_of_ble_eq_true rfl) ?_
  refine rx_walk [7, 15] 2000 (by decide) rx_e247 ?_
  unfold f_m_isMeeting at h
  refine rr_callV h (fun y hy => f_m_stands_ok _ hy) (fun y1 hy1 h => ?_)
  exact rx_sub (f_m_isMeeting_7_ok rx_fu _ _ _ h) [1, 3, 0] rfl
set_option maxRecDepth 100000 in
theorem rx_e248 : rx_Ext none 248 := rx_Ext_plain (by decide +kernel)
set_option maxRecDepth 100000 in
set_option maxHeartbeats 4000000 in
theorem f_m_isSeeds_ok {P : List Nat} {σ : rx_St} {a0 : Int32} : ∀ o, f_m_isSeeds a0 = o → rx_OK 248 [.int a0] 162 [] P σ (some (.int o), rx_D P σ) := by
  intro o h
  refine rx_OK_of (by decide) (Nat.le_of_ble_eq_true rfl) ?_
  refine rx_walk [] 2000 (by decide) rx_e248 ?_
  unfold f_m_isSeeds at h
  refine rr_if h (fun c2 h => ?_) (fun c2 h => ?_)
  · skip
    cases h
    exact And.intro (Or.inl rfl) rfl
  · skip
    refine rr_if h (fun c7 h => ?_) (fun c7 h => ?_)
    · skip
      cases h
      exact And.intro (Or.inl rfl) rfl
    · skip
      cases h
      exact And.intro (Or.inr rfl) rfl
set_option maxRecDepth 100000 in
theorem rx_e249 : rx_Ext none 249 := rx_Ext_plain (by decide +kernel)
set_option maxRecDepth 100000 in
set_option maxHeartbeats 4000000 in
theorem f_m_meets_38_ok {P : List Nat} {o : Int32 × rx_St} {k18 : Int32 → Int32 → Int32 → rx_St → Option (Int32 × rx_St)} (hk18 : ∀ (v1 : Int32) (v2 : Int32) (v3 : Int32) (σ : rx_St), k18 v1 v2 v3 σ = some o → rx_AtP none 249 18 [(0, .ref 87), (1, .int v1), (2, .int v2), (3, .int v3)] [] (rx_D P σ) (some (.int o.1), rx_D P o.2)) : ∀ (v1 : Int32) (v2 : Int32) (v3 : Int32) (σ : rx_St), f_m_meets_38 k18 v1 v2 v3 σ = some o → rx_AtP none 249 38 [(0, .ref 87), (1, .int v1), (2, .int v2), (3, .int v3)] [] (rx_D P σ) (some (.int o.1), rx_D P o.2) := by
  intro v1 v2 v3 σ h
  refine rx_walk [18, 38] 2000 (by decide) rx_e249 ?_
  unfold f_m_meets_38 at h
  exact rx_sub (hk18 _ _ _ _ h) [1, 2, 3, 0] rfl
set_option maxRecDepth 100000 in
set_option maxHeartbeats 4000000 in
theorem f_m_meets_18_ok {P : List Nat} {o : Int32 × rx_St} : ∀ (n : Nat) (v1 : Int32) (v2 : Int32) (v3 : Int32) (σ : rx_St), f_m_meets_18 n v1 v2 v3 σ = some o → rx_AtP none 249 18 [(0, .ref 87), (1, .int v1), (2, .int v2), (3, .int v3)] [] (rx_D P σ) (some (.int o.1), rx_D P o.2) := by
  intro n
  induction n with
  | zero => intro _ _ _ _ h; cases h
  | succ n ih =>
  intro v1 v2 v3 σ h
  refine rx_walk [18, 38] 2000 (by decide) rx_e249 ?_
  rw [f_m_meets_18] at h
  refine rr_callP h (fun y hy => f_m_points_ok _ hy) (fun y1 hy1 h => ?_)
  refine rr_if h (fun c23 h => ?_) (fun c23 h => ?_)
  · skip
    cases h
    exact And.intro (trivial) rfl
  · skip
    refine rr_callS h (fun y hy => f_m_isMeeting_ok _ hy) (fun y2 hy2 h => ?_)
    refine rr_if h (fun c32 h => ?_) (fun c32 h => ?_)
    · skip
      exact rx_sub (f_m_meets_38_ok ih _ _ _ _ h) [0, 1, 2, 3] rfl
    · skip
      exact rx_sub (f_m_meets_38_ok ih _ _ _ _ h) [1, 2, 0, 3] rfl
set_option maxRecDepth 100000 in
set_option maxHeartbeats 4000000 in
theorem f_m_meets_ok {P : List Nat} {a0 : Int32} {σ : rx_St} : ∀ o, f_m_meets a0 σ = some o → rx_OK 249 [.ref 87, .int a0] 162 [] P σ (some (.int o.1), rx_D P o.2) := by
  intro o h
  refine rx_OK_of (by decide) (Nat.le_of_ble_eq_true rfl) ?_
  refine rx_walk [18, 38] 2000 (by decide) rx_e249 ?_
  unfold f_m_meets at h
  refine rr_callT (f_m_isSeeds_ok _ rfl) ?_
  refine rr_if h (fun c9 h => ?_) (fun c9 h => ?_)
  · skip
    cases h
    exact And.intro (trivial) rfl
  · skip
    exact rx_sub (f_m_meets_18_ok rx_fu _ _ _ _ h) [2, 3, 1, 0] rfl
set_option maxRecDepth 100000 in
theorem rx_e250 : rx_Ext none 250 := rx_Ext_plain (by decide +kernel)
set_option maxRecDepth 100000 in
set_option maxHeartbeats 4000000 in
theorem f_m_met_90_ok {P : List Nat} {o : Int32 × rx_St} {k38 : Int32 → Int32 → Int32 → Int32 → rx_St → Option (Int32 × rx_St)} (hk38 : ∀ (v1 : Int32) (v3 : Int32) (v4 : Int32) (v5 : Int32) (σ : rx_St), k38 v1 v3 v4 v5 σ = some o → rx_AtP none 250 38 [(0, .ref 87), (1, .int v1), (3, .int v3), (4, .int v4), (5, .int v5)] [] (rx_D P σ) (some (.int o.1), rx_D P o.2)) : ∀ (v1 : Int32) (v3 : Int32) (v4 : Int32) (v5 : Int32) (σ : rx_St), f_m_met_90 k38 v1 v3 v4 v5 σ = some o → rx_AtP none 250 90 [(0, .ref 87), (1, .int v1), (3, .int v3), (4, .int v4), (5, .int v5)] [] (rx_D P σ) (some (.int o.1), rx_D P o.2) := by
  intro v1 v3 v4 v5 σ h
  refine rx_walk [38, 90] 2000 (by decide) rx_e250 ?_
  unfold f_m_met_90 at h
  exact rx_sub (hk38 _ _ _ _ _ h) [1, 2, 3, 4, 0] rfl
set_option maxRecDepth 100000 in
set_option maxHeartbeats 4000000 in
theorem f_m_met_38_ok {P : List Nat} {o : Int32 × rx_St} : ∀ (n : Nat) (v1 : Int32) (v3 : Int32) (v4 : Int32) (v5 : Int32) (σ : rx_St), f_m_met_38 n v1 v3 v4 v5 σ = some o → rx_AtP none 250 38 [(0, .ref 87), (1, .int v1), (3, .int v3), (4, .int v4), (5, .int v5)] [] (rx_D P σ) (some (.int o.1), rx_D P o.2) := by
  intro n
  induction n with
  | zero => intro _ _ _ _ _ h; cases h
  | succ n ih =>
  intro v1 v3 v4 v5 σ h
  refine rx_walk [38, 90] 2000 (by decide) rx_e250 ?_
  rw [f_m_met_38] at h
  refine rr_callP h (fun y hy => f_m_points_ok _ hy) (fun y1 hy1 h => ?_)
  refine rr_if h (fun c44 h => ?_) (fun c44 h => ?_)
  · skip
    cases h
    exact And.intro (trivial) rfl
  · skip
    refine rr_callS h (fun y hy => f_m_isMeeting_ok _ hy) (fun y2 hy2 h => ?_)
    refine rr_if h (fun c54 h => ?_) (fun c54 h => ?_)
    · skip
      exact rx_sub (f_m_met_90_ok ih _ _ _ _ _ h) [0, 1, 2, 3, 4] rfl
    · skip
      refine rr_if h (fun c62 h => ?_) (fun c62 h => ?_)
      · skip
        refine rr_g h (fun c70 h => ?_)
        refine rr_callP h (fun y hy => f_m_stepOf_ok _ hy) (fun y3 hy3 h => ?_)
        refine rr_g h (fun c83 h => ?_)
        cases h
        exact And.intro (trivial) rfl
      · skip
        exact rx_sub (f_m_met_90_ok ih _ _ _ _ _ h) [1, 2, 3, 0, 4] rfl
set_option maxRecDepth 100000 in
set_option maxHeartbeats 4000000 in
theorem f_m_met_ok {P : List Nat} {a0 : Int32} {a1 : Int32} {a2 : Int32} {σ : rx_St} : ∀ o, f_m_met a0 a1 a2 σ = some o → rx_OK 250 [.ref 87, .int a0, .int a1, .int a2] 162 [] P σ (some (.int o.1), rx_D P o.2) := by
  intro o h
  refine rx_OK_of (by decide) (Nat.le_of_ble_eq_true rfl) ?_
  refine rx_walk [38, 90] 2000 (by decide) rx_e250 ?_
  unfold f_m_met at h
  refine rr_callT (f_m_isSeeds_ok _ rfl) ?_
  refine rr_if h (fun c9 h => ?_) (fun c9 h => ?_)
  · skip
    cases h
    exact And.intro (trivial) rfl
  · skip
    refine rr_if h (fun c13 h => ?_) (fun c13 h => ?_)
    · skip
      cases h
      exact And.intro (trivial) rfl
    · skip
      refine rr_if h (fun c17 h => ?_) (fun c17 h => ?_)
      · skip
        cases h
        exact And.intro (trivial) rfl
      · skip
        refine rr_if h (fun c25 h => ?_) (fun c25 h => ?_)
        · skip
          exact rx_sub (f_m_met_38_ok rx_fu _ _ _ _ _ h) [2, 3, 5, 1, 0] rfl
        · skip
          cases h
          exact And.intro (trivial) rfl
set_option maxRecDepth 100000 in
theorem rx_e251 : rx_Ext none 251 := rx_Ext_plain (by decide +kernel)
set_option maxRecDepth 100000 in
set_option maxHeartbeats 4000000 in
theorem f_m_untold_106_ok {P : List Nat} {o : Int32 × rx_St} {k21 : Int32 → Int32 → Int32 → Int32 → rx_St → Option (Int32 × rx_St)} (hk21 : ∀ (v1 : Int32) (v2 : Int32) (v3 : Int32) (v4 : Int32) (σ : rx_St), k21 v1 v2 v3 v4 σ = some o → rx_AtP none 251 21 [(0, .ref 87), (1, .int v1), (2, .int v2), (3, .int v3), (4, .int v4)] [] (rx_D P σ) (some (.int o.1), rx_D P o.2)) : ∀ (v1 : Int32) (v2 : Int32) (v3 : Int32) (v4 : Int32) (σ : rx_St), f_m_untold_106 k21 v1 v2 v3 v4 σ = some o → rx_AtP none 251 106 [(0, .ref 87), (1, .int v1), (2, .int v2), (3, .int v3), (4, .int v4)] [] (rx_D P σ) (some (.int o.1), rx_D P o.2) := by
  intro v1 v2 v3 v4 σ h
  refine rx_walk [21, 46, 73, 100, 106] 2000 (by decide) rx_e251 ?_
  unfold f_m_untold_106 at h
  exact rx_sub (hk21 _ _ _ _ _ h) [1, 2, 3, 4, 0] rfl
set_option maxRecDepth 100000 in
set_option maxHeartbeats 4000000 in
theorem f_m_untold_100_ok {P : List Nat} {o : Int32 × rx_St} {k21 : Int32 → Int32 → Int32 → Int32 → rx_St → Option (Int32 × rx_St)} {k46 : Int32 → Int32 → Int32 → Int32 → Int32 → rx_St → Option (Int32 × rx_St)} (hk21 : ∀ (v1 : Int32) (v2 : Int32) (v3 : Int32) (v4 : Int32) (σ : rx_St), k21 v1 v2 v3 v4 σ = some o → rx_AtP none 251 21 [(0, .ref 87), (1, .int v1), (2, .int v2), (3, .int v3), (4, .int v4)] [] (rx_D P σ) (some (.int o.1), rx_D P o.2)) (hk46 : ∀ (v1 : Int32) (v2 : Int32) (v3 : Int32) (v4 : Int32) (v5 : Int32) (σ : rx_St), k46 v1 v2 v3 v4 v5 σ = some o → rx_AtP none 251 46 [(0, .ref 87), (1, .int v1), (2, .int v2), (3, .int v3), (4, .int v4), (5, .int v5)] [] (rx_D P σ) (some (.int o.1), rx_D P o.2)) : ∀ (v1 : Int32) (v2 : Int32) (v3 : Int32) (v4 : Int32) (v5 : Int32) (σ : rx_St), f_m_untold_100 k21 k46 v1 v2 v3 v4 v5 σ = some o → rx_AtP none 251 100 [(0, .ref 87), (1, .int v1), (2, .int v2), (3, .int v3), (4, .int v4), (5, .int v5)] [] (rx_D P σ) (some (.int o.1), rx_D P o.2) := by
  intro v1 v2 v3 v4 v5 σ h
  refine rx_walk [21, 46, 73, 100, 106] 2000 (by decide) rx_e251 ?_
  unfold f_m_untold_100 at h
  exact rx_sub (hk46 _ _ _ _ _ _ h) [1, 2, 3, 4, 5, 0] rfl
set_option maxRecDepth 100000 in
set_option maxHeartbeats 4000000 in
theorem f_m_untold_73_ok {P : List Nat} {o : Int32 × rx_St} {k21 : Int32 → Int32 → Int32 → Int32 → rx_St → Option (Int32 × rx_St)} {k46 : Int32 → Int32 → Int32 → Int32 → Int32 → rx_St → Option (Int32 × rx_St)} (hk21 : ∀ (v1 : Int32) (v2 : Int32) (v3 : Int32) (v4 : Int32) (σ : rx_St), k21 v1 v2 v3 v4 σ = some o → rx_AtP none 251 21 [(0, .ref 87), (1, .int v1), (2, .int v2), (3, .int v3), (4, .int v4)] [] (rx_D P σ) (some (.int o.1), rx_D P o.2)) (hk46 : ∀ (v1 : Int32) (v2 : Int32) (v3 : Int32) (v4 : Int32) (v5 : Int32) (σ : rx_St), k46 v1 v2 v3 v4 v5 σ = some o → rx_AtP none 251 46 [(0, .ref 87), (1, .int v1), (2, .int v2), (3, .int v3), (4, .int v4), (5, .int v5)] [] (rx_D P σ) (some (.int o.1), rx_D P o.2)) : ∀ (v1 : Int32) (v2 : Int32) (v3 : Int32) (v4 : Int32) (v5 : Int32) (σ : rx_St), f_m_untold_73 k21 k46 v1 v2 v3 v4 v5 σ = some o → rx_AtP none 251 73 [(0, .ref 87), (1, .int v1), (2, .int v2), (3, .int v3), (4, .int v4), (5, .int v5)] [] (rx_D P σ) (some (.int o.1), rx_D P o.2) := by
  intro v1 v2 v3 v4 v5 σ h
  refine rx_walk [21, 46, 73, 100, 106] 2000 (by decide) rx_e251 ?_
  unfold f_m_untold_73 at h
  refine rr_callP h (fun y hy => f_m_stepOf_ok _ hy) (fun y1 hy1 h => ?_)
  refine rr_g h (fun c87 h => ?_)
  refine rr_if h (fun c90 h => ?_) (fun c90 h => ?_)
  · skip
    exact rx_sub (f_m_untold_100_ok hk21 hk46 _ _ _ _ _ _ h) [1, 2, 3, 0, 4, 5] rfl
  · skip
    exact rx_sub (f_m_untold_100_ok hk21 hk46 _ _ _ _ _ _ h) [0, 1, 2, 3, 4, 5] rfl
set_option maxRecDepth 100000 in
set_option maxHeartbeats 4000000 in
theorem f_m_untold_46_ok {P : List Nat} {o : Int32 × rx_St} {k21 : Int32 → Int32 → Int32 → Int32 → rx_St → Option (Int32 × rx_St)} (hk21 : ∀ (v1 : Int32) (v2 : Int32) (v3 : Int32) (v4 : Int32) (σ : rx_St), k21 v1 v2 v3 v4 σ = some o → rx_AtP none 251 21 [(0, .ref 87), (1, .int v1), (2, .int v2), (3, .int v3), (4, .int v4)] [] (rx_D P σ) (some (.int o.1), rx_D P o.2)) : ∀ (n : Nat) (v1 : Int32) (v2 : Int32) (v3 : Int32) (v4 : Int32) (v5 : Int32) (σ : rx_St), f_m_untold_46 k21 n v1 v2 v3 v4 v5 σ = some o → rx_AtP none 251 46 [(0, .ref 87), (1, .int v1), (2, .int v2), (3, .int v3), (4, .int v4), (5, .int v5)] [] (rx_D P σ) (some (.int o.1), rx_D P o.2) := by
  intro n
  induction n with
  | zero => intro _ _ _ _ _ _ h; cases h
  | succ n ih =>
  intro v1 v2 v3 v4 v5 σ h
  refine rx_walk [21, 46, 73, 100, 106] 2000 (by decide) rx_e251 ?_
  rw [f_m_untold_46] at h
  refine rr_if h (fun c52 h => ?_) (fun c52 h => ?_)
  · skip
    exact rx_sub (f_m_untold_106_ok hk21 _ _ _ _ _ h) [0, 1, 2, 3, 4] rfl
  · skip
    refine rr_callP h (fun y hy => f_m_stepOf_ok _ hy) (fun y1 hy1 h => ?_)
    refine rr_if h (fun c63 h => ?_) (fun c63 h => ?_)
    · skip
      exact rx_sub (f_m_untold_73_ok hk21 ih _ _ _ _ _ _ h) [1, 2, 0, 3, 4, 5] rfl
    · skip
      exact rx_sub (f_m_untold_73_ok hk21 ih _ _ _ _ _ _ h) [0, 1, 2, 3, 4, 5] rfl
set_option maxRecDepth 100000 in
set_option maxHeartbeats 4000000 in
theorem f_m_untold_21_ok {P : List Nat} {o : Int32 × rx_St} : ∀ (n : Nat) (v1 : Int32) (v2 : Int32) (v3 : Int32) (v4 : Int32) (σ : rx_St), f_m_untold_21 n v1 v2 v3 v4 σ = some o → rx_AtP none 251 21 [(0, .ref 87), (1, .int v1), (2, .int v2), (3, .int v3), (4, .int v4)] [] (rx_D P σ) (some (.int o.1), rx_D P o.2) := by
  intro n
  induction n with
  | zero => intro _ _ _ _ _ h; cases h
  | succ n ih =>
  intro v1 v2 v3 v4 σ h
  refine rx_walk [21, 46, 73, 100, 106] 2000 (by decide) rx_e251 ?_
  rw [f_m_untold_21] at h
  refine rr_callP h (fun y hy => f_m_points_ok _ hy) (fun y1 hy1 h => ?_)
  refine rr_if h (fun c27 h => ?_) (fun c27 h => ?_)
  · skip
    cases h
    exact And.intro (trivial) rfl
  · skip
    refine rr_callS h (fun y hy => f_m_isMeeting_ok _ hy) (fun y2 hy2 h => ?_)
    refine rr_if h (fun c37 h => ?_) (fun c37 h => ?_)
    · skip
      exact rx_sub (f_m_untold_106_ok ih _ _ _ _ _ h) [0, 1, 2, 3, 4] rfl
    · skip
      exact rx_sub (f_m_untold_46_ok ih rx_fu _ _ _ _ _ _ h) [1, 2, 3, 4, 5, 0] rfl
set_option maxRecDepth 100000 in
set_option maxHeartbeats 4000000 in
theorem f_m_untold_ok {P : List Nat} {a0 : Int32} {σ : rx_St} : ∀ o, f_m_untold a0 σ = some o → rx_OK 251 [.ref 87, .int a0] 162 [] P σ (some (.int o.1), rx_D P o.2) := by
  intro o h
  refine rx_OK_of (by decide) (Nat.le_of_ble_eq_true rfl) ?_
  refine rx_walk [21, 46, 73, 100, 106] 2000 (by decide) rx_e251 ?_
  unfold f_m_untold at h
  refine rr_callT (f_m_isSeeds_ok _ rfl) ?_
  refine rr_if h (fun c9 h => ?_) (fun c9 h => ?_)
  · skip
    cases h
    exact And.intro (trivial) rfl
  · skip
    exact rx_sub (f_m_untold_21_ok rx_fu _ _ _ _ _ h) [3, 4, 2, 1, 0] rfl
set_option maxRecDepth 100000 in
theorem rx_e252 : rx_Ext none 252 := rx_Ext_plain (by decide +kernel)
set_option maxRecDepth 100000 in
set_option maxHeartbeats 4000000 in
theorem f_m_would_196_ok {P : List Nat} {o : Int32 × rx_St} {k73 : Int32 → Int32 → Int32 → Int32 → Int32 → Int32 → Int32 → Int32 → Int32 → Int32 → Int32 → Int32 → rx_St → Option (Int32 × rx_St)} (hk73 : ∀ (v1 : Int32) (v2 : Int32) (v3 : Int32) (v4 : Int32) (v5 : Int32) (v6 : Int32) (v7 : Int32) (v8 : Int32) (v9 : Int32) (v10 : Int32) (v11 : Int32) (v12 : Int32) (σ : rx_St), k73 v1 v2 v3 v4 v5 v6 v7 v8 v9 v10 v11 v12 σ = some o → rx_AtP none 252 73 [(0, .ref 87), (1, .int v1), (2, .int v2), (3, .int v3), (4, .int v4), (5, .int v5), (6, .int v6), (7, .int v7), (8, .int v8), (9, .int v9), (10, .int v10), (11, .int v11), (12, .int v12)] [] (rx_D P σ) (some (.int o.1), rx_D P o.2)) : ∀ (v1 : Int32) (v2 : Int32) (v3 : Int32) (v4 : Int32) (v5 : Int32) (v6 : Int32) (v7 : Int32) (v8 : Int32) (v9 : Int32) (v10 : Int32) (v11 : Int32) (v12 : Int32) (σ : rx_St), f_m_would_196 k73 v1 v2 v3 v4 v5 v6 v7 v8 v9 v10 v11 v12 σ = some o → rx_AtP none 252 196 [(0, .ref 87), (1, .int v1), (2, .int v2), (3, .int v3), (4, .int v4), (5, .int v5), (6, .int v6), (7, .int v7), (8, .int v8), (9, .int v9), (10, .int v10), (11, .int v11), (12, .int v12)] [] (rx_D P σ) (some (.int o.1), rx_D P o.2) := by
  intro v1 v2 v3 v4 v5 v6 v7 v8 v9 v10 v11 v12 σ h
  refine rx_walk [73, 98, 155, 167, 171, 183, 187, 196] 2000 (by decide) rx_e252 ?_
  unfold f_m_would_196 at h
  exact rx_sub (hk73 _ _ _ _ _ _ _ _ _ _ _ _ _ h) [1, 2, 3, 4, 5, 6, 7, 8, 9, 10, 11, 12, 0] rfl
set_option maxRecDepth 100000 in
set_option maxHeartbeats 4000000 in
theorem f_m_would_187_ok {P : List Nat} {o : Int32 × rx_St} {k73 : Int32 → Int32 → Int32 → Int32 → Int32 → Int32 → Int32 → Int32 → Int32 → Int32 → Int32 → Int32 → rx_St → Option (Int32 × rx_St)} {k98 : Int32 → Int32 → Int32 → Int32 → Int32 → Int32 → Int32 → Int32 → Int32 → Int32 → Int32 → Int32 → Int32 → rx_St → Option (Int32 × rx_St)} (hk73 : ∀ (v1 : Int32) (v2 : Int32) (v3 : Int32) (v4 : Int32) (v5 : Int32) (v6 : Int32) (v7 : Int32) (v8 : Int32) (v9 : Int32) (v10 : Int32) (v11 : Int32) (v12 : Int32) (σ : rx_St), k73 v1 v2 v3 v4 v5 v6 v7 v8 v9 v10 v11 v12 σ = some o → rx_AtP none 252 73 [(0, .ref 87), (1, .int v1), (2, .int v2), (3, .int v3), (4, .int v4), (5, .int v5), (6, .int v6), (7, .int v7), (8, .int v8), (9, .int v9), (10, .int v10), (11, .int v11), (12, .int v12)] [] (rx_D P σ) (some (.int o.1), rx_D P o.2)) (hk98 : ∀ (v1 : Int32) (v2 : Int32) (v3 : Int32) (v4 : Int32) (v5 : Int32) (v6 : Int32) (v7 : Int32) (v8 : Int32) (v9 : Int32) (v10 : Int32) (v11 : Int32) (v12 : Int32) (v13 : Int32) (σ : rx_St), k98 v1 v2 v3 v4 v5 v6 v7 v8 v9 v10 v11 v12 v13 σ = some o → rx_AtP none 252 98 [(0, .ref 87), (1, .int v1), (2, .int v2), (3, .int v3), (4, .int v4), (5, .int v5), (6, .int v6), (7, .int v7), (8, .int v8), (9, .int v9), (10, .int v10), (11, .int v11), (12, .int v12), (13, .int v13)] [] (rx_D P σ) (some (.int o.1), rx_D P o.2)) : ∀ (v1 : Int32) (v2 : Int32) (v3 : Int32) (v4 : Int32) (v5 : Int32) (v6 : Int32) (v7 : Int32) (v9 : Int32) (v10 : Int32) (v11 : Int32) (v12 : Int32) (v13 : Int32) (σ : rx_St), f_m_would_187 k73 k98 v1 v2 v3 v4 v5 v6 v7 v9 v10 v11 v12 v13 σ = some o → rx_AtP none 252 187 [(0, .ref 87), (1, .int v1), (2, .int v2), (3, .int v3), (4, .int v4), (5, .int v5), (6, .int v6), (7, .int v7), (9, .int v9), (10, .int v10), (11, .int v11), (12, .int v12), (13, .int v13)] [] (rx_D P σ) (some (.int o.1), rx_D P o.2) := by
  intro v1 v2 v3 v4 v5 v6 v7 v9 v10 v11 v12 v13 σ h
  refine rx_walk [73, 98, 155, 167, 171, 183, 187, 196] 2000 (by decide) rx_e252 ?_
  unfold f_m_would_187 at h
  exact rx_sub (hk98 _ _ _ _ _ _ _ _ _ _ _ _ _ _ h) [2, 3, 4, 5, 6, 7, 8, 9, 1, 10, 11, 12, 13, 0] rfl
set_option maxRecDepth 100000 in
set_option maxHeartbeats 4000000 in
theorem f_m_would_183_ok {P : List Nat} {o : Int32 × rx_St} {k73 : Int32 → Int32 → Int32 → Int32 → Int32 → Int32 → Int32 → Int32 → Int32 → Int32 → Int32 → Int32 → rx_St → Option (Int32 × rx_St)} {k98 : Int32 → Int32 → Int32 → Int32 → Int32 → Int32 → Int32 → Int32 → Int32 → Int32 → Int32 → Int32 → Int32 → rx_St → Option (Int32 × rx_St)} (hk73 : ∀ (v1 : Int32) (v2 : Int32) (v3 : Int32) (v4 : Int32) (v5 : Int32) (v6 : Int32) (v7 : Int32) (v8 : Int32) (v9 : Int32) (v10 : Int32) (v11 : Int32) (v12 : Int32) (σ : rx_St), k73 v1 v2 v3 v4 v5 v6 v7 v8 v9 v10 v11 v12 σ = some o → rx_AtP none 252 73 [(0, .ref 87), (1, .int v1), (2, .int v2), (3, .int v3), (4, .int v4), (5, .int v5), (6, .int v6), (7, .int v7), (8, .int v8), (9, .int v9), (10, .int v10), (11, .int v11), (12, .int v12)] [] (rx_D P σ) (some (.int o.1), rx_D P o.2)) (hk98 : ∀ (v1 : Int32) (v2 : Int32) (v3 : Int32) (v4 : Int32) (v5 : Int32) (v6 : Int32) (v7 : Int32) (v8 : Int32) (v9 : Int32) (v10 : Int32) (v11 : Int32) (v12 : Int32) (v13 : Int32) (σ : rx_St), k98 v1 v2 v3 v4 v5 v6 v7 v8 v9 v10 v11 v12 v13 σ = some o → rx_AtP none 252 98 [(0, .ref 87), (1, .int v1), (2, .int v2), (3, .int v3), (4, .int v4), (5, .int v5), (6, .int v6), (7, .int v7), (8, .int v8), (9, .int v9), (10, .int v10), (11, .int v11), (12, .int v12), (13, .int v13)] [] (rx_D P σ) (some (.int o.1), rx_D P o.2)) : ∀ (v1 : Int32) (v2 : Int32) (v3 : Int32) (v4 : Int32) (v5 : Int32) (v6 : Int32) (v7 : Int32) (v9 : Int32) (v11 : Int32) (v12 : Int32) (v13 : Int32) (v15 : Int32) (σ : rx_St), f_m_would_183 k73 k98 v1 v2 v3 v4 v5 v6 v7 v9 v11 v12 v13 v15 σ = some o → rx_AtP none 252 183 [(0, .ref 87), (1, .int v1), (2, .int v2), (3, .int v3), (4, .int v4), (5, .int v5), (6, .int v6), (7, .int v7), (9, .int v9), (11, .int v11), (12, .int v12), (13, .int v13), (15, .int v15)] [] (rx_D P σ) (some (.int o.1), rx_D P o.2) := by
  intro v1 v2 v3 v4 v5 v6 v7 v9 v11 v12 v13 v15 σ h
  refine rx_walk [73, 98, 155, 167, 171, 183, 187, 196] 2000 (by decide) rx_e252 ?_
  unfold f_m_would_183 at h
  exact rx_sub (f_m_would_187_ok hk73 hk98 _ _ _ _ _ _ _ _ _ _ _ _ _ h) [1, 2, 3, 4, 5, 6, 7, 8, 9, 0, 10, 11, 12] rfl
set_option maxRecDepth 100000 in
set_option maxHeartbeats 4000000 in
theorem f_m_would_171_ok {P : List Nat} {o : Int32 × rx_St} {k73 : Int32 → Int32 → Int32 → Int32 → Int32 → Int32 → Int32 → Int32 → Int32 → Int32 → Int32 → Int32 → rx_St → Option (Int32 × rx_St)} {k98 : Int32 → Int32 → Int32 → Int32 → Int32 → Int32 → Int32 → Int32 → Int32 → Int32 → Int32 → Int32 → Int32 → rx_St → Option (Int32 × rx_St)} (hk73 : ∀ (v1 : Int32) (v2 : Int32) (v3 : Int32) (v4 : Int32) (v5 : Int32) (v6 : Int32) (v7 : Int32) (v8 : Int32) (v9 : Int32) (v10 : Int32) (v11 : Int32) (v12 : Int32) (σ : rx_St), k73 v1 v2 v3 v4 v5 v6 v7 v8 v9 v10 v11 v12 σ = some o → rx_AtP none 252 73 [(0, .ref 87), (1, .int v1), (2, .int v2), (3, .int v3), (4, .int v4), (5, .int v5), (6, .int v6), (7, .int v7), (8, .int v8), (9, .int v9), (10, .int v10), (11, .int v11), (12, .int v12)] [] (rx_D P σ) (some (.int o.1), rx_D P o.2)) (hk98 : ∀ (v1 : Int32) (v2 : Int32) (v3 : Int32) (v4 : Int32) (v5 : Int32) (v6 : Int32) (v7 : Int32) (v8 : Int32) (v9 : Int32) (v10 : Int32) (v11 : Int32) (v12 : Int32) (v13 : Int32) (σ : rx_St), k98 v1 v2 v3 v4 v5 v6 v7 v8 v9 v10 v11 v12 v13 σ = some o → rx_AtP none 252 98 [(0, .ref 87), (1, .int v1), (2, .int v2), (3, .int v3), (4, .int v4), (5, .int v5), (6, .int v6), (7, .int v7), (8, .int v8), (9, .int v9), (10, .int v10), (11, .int v11), (12, .int v12), (13, .int v13)] [] (rx_D P σ) (some (.int o.1), rx_D P o.2)) : ∀ (v1 : Int32) (v2 : Int32) (v3 : Int32) (v4 : Int32) (v5 : Int32) (v6 : Int32) (v7 : Int32) (v8 : Int32) (v9 : Int32) (v10 : Int32) (v11 : Int32) (v12 : Int32) (v13 : Int32) (v15 : Int32) (σ : rx_St), f_m_would_171 k73 k98 v1 v2 v3 v4 v5 v6 v7 v8 v9 v10 v11 v12 v13 v15 σ = some o → rx_AtP none 252 171 [(0, .ref 87), (1, .int v1), (2, .int v2), (3, .int v3), (4, .int v4), (5, .int v5), (6, .int v6), (7, .int v7), (8, .int v8), (9, .int v9), (10, .int v10), (11, .int v11), (12, .int v12), (13, .int v13), (15, .int v15)] [] (rx_D P σ) (some (.int o.1), rx_D P o.2) := by
  intro v1 v2 v3 v4 v5 v6 v7 v8 v9 v10 v11 v12 v13 v15 σ h
  refine rx_walk [73, 98, 155, 167, 171, 183, 187, 196] 2000 (by decide) rx_e252 ?_
  unfold f_m_would_171 at h
  refine rr_if h (fun c173 h => ?_) (fun c173 h => ?_)
  · skip
    exact rx_sub (f_m_would_183_ok hk73 hk98 _ _ _ _ _ _ _ _ _ _ _ _ _ h) [0, 1, 2, 3, 4, 5, 6, 7, 9, 11, 12, 13, 14] rfl
  · skip
    refine rr_if h (fun c180 h => ?_) (fun c180 h => ?_)
    · skip
      exact rx_sub (f_m_would_187_ok hk73 hk98 _ _ _ _ _ _ _ _ _ _ _ _ _ h) [0, 1, 2, 3, 4, 5, 6, 7, 9, 10, 11, 12, 13] rfl
    · skip
      exact rx_sub (f_m_would_183_ok hk73 hk98 _ _ _ _ _ _ _ _ _ _ _ _ _ h) [0, 1, 2, 3, 4, 5, 6, 7, 9, 11, 12, 13, 14] rfl
set_option maxRecDepth 100000 in
set_option maxHeartbeats 4000000 in
theorem f_m_would_167_ok {P : List Nat} {o : Int32 × rx_St} {k73 : Int32 → Int32 → Int32 → Int32 → Int32 → Int32 → Int32 → Int32 → Int32 → Int32 → Int32 → Int32 → rx_St → Option (Int32 × rx_St)} {k98 : Int32 → Int32 → Int32 → Int32 → Int32 → Int32 → Int32 → Int32 → Int32 → Int32 → Int32 → Int32 → Int32 → rx_St → Option (Int32 × rx_St)} (hk73 : ∀ (v1 : Int32) (v2 : Int32) (v3 : Int32) (v4 : Int32) (v5 : Int32) (v6 : Int32) (v7 : Int32) (v8 : Int32) (v9 : Int32) (v10 : Int32) (v11 : Int32) (v12 : Int32) (σ : rx_St), k73 v1 v2 v3 v4 v5 v6 v7 v8 v9 v10 v11 v12 σ = some o → rx_AtP none 252 73 [(0, .ref 87), (1, .int v1), (2, .int v2), (3, .int v3), (4, .int v4), (5, .int v5), (6, .int v6), (7, .int v7), (8, .int v8), (9, .int v9), (10, .int v10), (11, .int v11), (12, .int v12)] [] (rx_D P σ) (some (.int o.1), rx_D P o.2)) (hk98 : ∀ (v1 : Int32) (v2 : Int32) (v3 : Int32) (v4 : Int32) (v5 : Int32) (v6 : Int32) (v7 : Int32) (v8 : Int32) (v9 : Int32) (v10 : Int32) (v11 : Int32) (v12 : Int32) (v13 : Int32) (σ : rx_St), k98 v1 v2 v3 v4 v5 v6 v7 v8 v9 v10 v11 v12 v13 σ = some o → rx_AtP none 252 98 [(0, .ref 87), (1, .int v1), (2, .int v2), (3, .int v3), (4, .int v4), (5, .int v5), (6, .int v6), (7, .int v7), (8, .int v8), (9, .int v9), (10, .int v10), (11, .int v11), (12, .int v12), (13, .int v13)] [] (rx_D P σ) (some (.int o.1), rx_D P o.2)) : ∀ (v1 : Int32) (v2 : Int32) (v3 : Int32) (v4 : Int32) (v5 : Int32) (v6 : Int32) (v7 : Int32) (v8 : Int32) (v10 : Int32) (v11 : Int32) (v12 : Int32) (v13 : Int32) (v15 : Int32) (σ : rx_St), f_m_would_167 k73 k98 v1 v2 v3 v4 v5 v6 v7 v8 v10 v11 v12 v13 v15 σ = some o → rx_AtP none 252 167 [(0, .ref 87), (1, .int v1), (2, .int v2), (3, .int v3), (4, .int v4), (5, .int v5), (6, .int v6), (7, .int v7), (8, .int v8), (10, .int v10), (11, .int v11), (12, .int v12), (13, .int v13), (15, .int v15)] [] (rx_D P σ) (some (.int o.1), rx_D P o.2) := by
  intro v1 v2 v3 v4 v5 v6 v7 v8 v10 v11 v12 v13 v15 σ h
  refine rx_walk [73, 98, 155, 167, 171, 183, 187, 196] 2000 (by decide) rx_e252 ?_
  unfold f_m_would_167 at h
  exact rx_sub (f_m_would_171_ok hk73 hk98 _ _ _ _ _ _ _ _ _ _ _ _ _ _ _ h) [1, 2, 3, 4, 5, 6, 7, 8, 9, 0, 10, 11, 12, 13, 14] rfl
set_option maxRecDepth 100000 in
set_option maxHeartbeats 4000000 in
theorem f_m_would_155_ok {P : List Nat} {o : Int32 × rx_St} {k73 : Int32 → Int32 → Int32 → Int32 → Int32 → Int32 → Int32 → Int32 → Int32 → Int32 → Int32 → Int32 → rx_St → Option (Int32 × rx_St)} {k98 : Int32 → Int32 → Int32 → Int32 → Int32 → Int32 → Int32 → Int32 → Int32 → Int32 → Int32 → Int32 → Int32 → rx_St → Option (Int32 × rx_St)} (hk73 : ∀ (v1 : Int32) (v2 : Int32) (v3 : Int32) (v4 : Int32) (v5 : Int32) (v6 : Int32) (v7 : Int32) (v8 : Int32) (v9 : Int32) (v10 : Int32) (v11 : Int32) (v12 : Int32) (σ : rx_St), k73 v1 v2 v3 v4 v5 v6 v7 v8 v9 v10 v11 v12 σ = some o → rx_AtP none 252 73 [(0, .ref 87), (1, .int v1), (2, .int v2), (3, .int v3), (4, .int v4), (5, .int v5), (6, .int v6), (7, .int v7), (8, .int v8), (9, .int v9), (10, .int v10), (11, .int v11), (12, .int v12)] [] (rx_D P σ) (some (.int o.1), rx_D P o.2)) (hk98 : ∀ (v1 : Int32) (v2 : Int32) (v3 : Int32) (v4 : Int32) (v5 : Int32) (v6 : Int32) (v7 : Int32) (v8 : Int32) (v9 : Int32) (v10 : Int32) (v11 : Int32) (v12 : Int32) (v13 : Int32) (σ : rx_St), k98 v1 v2 v3 v4 v5 v6 v7 v8 v9 v10 v11 v12 v13 σ = some o → rx_AtP none 252 98 [(0, .ref 87), (1, .int v1), (2, .int v2), (3, .int v3), (4, .int v4), (5, .int v5), (6, .int v6), (7, .int v7), (8, .int v8), (9, .int v9), (10, .int v10), (11, .int v11), (12, .int v12), (13, .int v13)] [] (rx_D P σ) (some (.int o.1), rx_D P o.2)) : ∀ (v1 : Int32) (v2 : Int32) (v3 : Int32) (v4 : Int32) (v5 : Int32) (v6 : Int32) (v7 : Int32) (v8 : Int32) (v9 : Int32) (v10 : Int32) (v11 : Int32) (v12 : Int32) (v13 : Int32) (v15 : Int32) (σ : rx_St), f_m_would_155 k73 k98 v1 v2 v3 v4 v5 v6 v7 v8 v9 v10 v11 v12 v13 v15 σ = some o → rx_AtP none 252 155 [(0, .ref 87), (1, .int v1), (2, .int v2), (3, .int v3), (4, .int v4), (5, .int v5), (6, .int v6), (7, .int v7), (8, .int v8), (9, .int v9), (10, .int v10), (11, .int v11), (12, .int v12), (13, .int v13), (15, .int v15)] [] (rx_D P σ) (some (.int o.1), rx_D P o.2) := by
  intro v1 v2 v3 v4 v5 v6 v7 v8 v9 v10 v11 v12 v13 v15 σ h
  refine rx_walk [73, 98, 155, 167, 171, 183, 187, 196] 2000 (by decide) rx_e252 ?_
  unfold f_m_would_155 at h
  refine rr_if h (fun c157 h => ?_) (fun c157 h => ?_)
  · skip
    exact rx_sub (f_m_would_167_ok hk73 hk98 _ _ _ _ _ _ _ _ _ _ _ _ _ _ h) [0, 1, 2, 3, 4, 5, 6, 7, 8, 10, 11, 12, 13, 14] rfl
  · skip
    refine rr_if h (fun c164 h => ?_) (fun c164 h => ?_)
    · skip
      exact rx_sub (f_m_would_171_ok hk73 hk98 _ _ _ _ _ _ _ _ _ _ _ _ _ _ _ h) [0, 1, 2, 3, 4, 5, 6, 7, 8, 9, 10, 11, 12, 13, 14] rfl
    · skip
      exact rx_sub (f_m_would_167_ok hk73 hk98 _ _ _ _ _ _ _ _ _ _ _ _ _ _ h) [0, 1, 2, 3, 4, 5, 6, 7, 8, 10, 11, 12, 13, 14] rfl
set_option maxRecDepth 100000 in
set_option maxHeartbeats 4000000 in
theorem f_m_would_98_ok {P : List Nat} {o : Int32 × rx_St} {k73 : Int32 → Int32 → Int32 → Int32 → Int32 → Int32 → Int32 → Int32 → Int32 → Int32 → Int32 → Int32 → rx_St → Option (Int32 × rx_St)} (hk73 : ∀ (v1 : Int32) (v2 : Int32) (v3 : Int32) (v4 : Int32) (v5 : Int32) (v6 : Int32) (v7 : Int32) (v8 : Int32) (v9 : Int32) (v10 : Int32) (v11 : Int32) (v12 : Int32) (σ : rx_St), k73 v1 v2 v3 v4 v5 v6 v7 v8 v9 v10 v11 v12 σ = some o → rx_AtP none 252 73 [(0, .ref 87), (1, .int v1), (2, .int v2), (3, .int v3), (4, .int v4), (5, .int v5), (6, .int v6), (7, .int v7), (8, .int v8), (9, .int v9), (10, .int v10), (11, .int v11), (12, .int v12)] [] (rx_D P σ) (some (.int o.1), rx_D P o.2)) : ∀ (n : Nat) (v1 : Int32) (v2 : Int32) (v3 : Int32) (v4 : Int32) (v5 : Int32) (v6 : Int32) (v7 : Int32) (v8 : Int32) (v9 : Int32) (v10 : Int32) (v11 : Int32) (v12 : Int32) (v13 : Int32) (σ : rx_St), f_m_would_98 k73 n v1 v2 v3 v4 v5 v6 v7 v8 v9 v10 v11 v12 v13 σ = some o → rx_AtP none 252 98 [(0, .ref 87), (1, .int v1), (2, .int v2), (3, .int v3), (4, .int v4), (5, .int v5), (6, .int v6), (7, .int v7), (8, .int v8), (9, .int v9), (10, .int v10), (11, .int v11), (12, .int v12), (13, .int v13)] [] (rx_D P σ) (some (.int o.1), rx_D P o.2) := by
  intro n
  induction n with
  | zero => intro _ _ _ _ _ _ _ _ _ _ _ _ _ _ h; cases h
  | succ n ih =>
  intro v1 v2 v3 v4 v5 v6 v7 v8 v9 v10 v11 v12 v13 σ h
  refine rx_walk [73, 98, 155, 167, 171, 183, 187, 196] 2000 (by decide) rx_e252 ?_
  rw [f_m_would_98] at h
  refine rr_if h (fun c101 h => ?_) (fun c101 h => ?_)
  · skip
    exact rx_sub (f_m_would_196_ok hk73 _ _ _ _ _ _ _ _ _ _ _ _ _ h) [0, 1, 2, 3, 4, 5, 6, 7, 8, 9, 10, 11, 12] rfl
  · skip
    refine rr_callV h (fun y hy => f_m_stands_ok _ hy) (fun y1 hy1 h => ?_)
    refine rr_callS h (fun y hy => f_m_figureOf_ok _ hy) (fun y2 hy2 h => ?_)
    refine rr_g h (fun c130 h => ?_)
    refine rr_callS h (fun y hy => f_m_figureOf_ok _ hy) (fun y3 hy3 h => ?_)
    refine rr_if h (fun c149 h => ?_) (fun c149 h => ?_)
    · skip
      exact rx_sub (f_m_would_155_ok hk73 ih _ _ _ _ _ _ _ _ _ _ _ _ _ _ _ h) [2, 3, 4, 5, 6, 7, 8, 9, 10, 11, 12, 13, 14, 15, 0] rfl
    · skip
      exact rx_sub (f_m_would_155_ok hk73 ih _ _ _ _ _ _ _ _ _ _ _ _ _ _ _ h) [3, 4, 5, 6, 7, 8, 9, 10, 11, 12, 13, 0, 14, 15, 1] rfl
set_option maxRecDepth 100000 in
set_option maxHeartbeats 4000000 in
theorem f_m_would_73_ok {P : List Nat} {o : Int32 × rx_St} : ∀ (n : Nat) (v1 : Int32) (v2 : Int32) (v3 : Int32) (v4 : Int32) (v5 : Int32) (v6 : Int32) (v7 : Int32) (v8 : Int32) (v9 : Int32) (v10 : Int32) (v11 : Int32) (v12 : Int32) (σ : rx_St), f_m_would_73 n v1 v2 v3 v4 v5 v6 v7 v8 v9 v10 v11 v12 σ = some o → rx_AtP none 252 73 [(0, .ref 87), (1, .int v1), (2, .int v2), (3, .int v3), (4, .int v4), (5, .int v5), (6, .int v6), (7, .int v7), (8, .int v8), (9, .int v9), (10, .int v10), (11, .int v11), (12, .int v12)] [] (rx_D P σ) (some (.int o.1), rx_D P o.2) := by
  intro n
  induction n with
  | zero => intro _ _ _ _ _ _ _ _ _ _ _ _ _ h; cases h
  | succ n ih =>
  intro v1 v2 v3 v4 v5 v6 v7 v8 v9 v10 v11 v12 σ h
  refine rx_walk [73, 98, 155, 167, 171, 183, 187, 196] 2000 (by decide) rx_e252 ?_
  rw [f_m_would_73] at h
  refine rr_callP h (fun y hy => f_m_points_ok _ hy) (fun y1 hy1 h => ?_)
  refine rr_if h (fun c79 h => ?_) (fun c79 h => ?_)
  · skip
    refine rr_if h (fun c204 h => ?_) (fun c204 h => ?_)
    · skip
      cases h
      exact And.intro (trivial) rfl
    · skip
      refine rr_if h (fun c215 h => ?_) (fun c215 h => ?_)
      · skip
        cases h
        exact And.intro (trivial) rfl
      · skip
        cases h
        exact And.intro (trivial) rfl
  · skip
    refine rr_callS h (fun y hy => f_m_isMeeting_ok _ hy) (fun y2 hy2 h => ?_)
    refine rr_if h (fun c89 h => ?_) (fun c89 h => ?_)
    · skip
      exact rx_sub (f_m_would_196_ok ih _ _ _ _ _ _ _ _ _ _ _ _ _ h) [0, 1, 2, 3, 4, 5, 6, 7, 8, 9, 10, 11, 12] rfl
    · skip
      exact rx_sub (f_m_would_98_ok ih rx_fu _ _ _ _ _ _ _ _ _ _ _ _ _ _ h) [1, 2, 3, 4, 5, 6, 7, 8, 9, 10, 11, 12, 13, 0] rfl
set_option maxRecDepth 100000 in
set_option maxHeartbeats 4000000 in
theorem f_m_would_ok {P : List Nat} {a0 : Int32} {a1 : Int32} {a2 : Int32} {a3 : Int32} {a4 : Int32} {a5 : Int32} {a6 : Int32} {σ : rx_St} : ∀ o, f_m_would a0 a1 a2 a3 a4 a5 a6 σ = some o → rx_OK 252 [.ref 87, .int a0, .int a1, .int a2, .int a3, .int a4, .int a5, .int a6] 162 [] P σ (some (.int o.1), rx_D P o.2) := by
  intro o h
  refine rx_OK_of (by decide) (Nat.le_of_ble_eq_true rfl) ?_
  refine rx_walk [73, 98, 155, 167, 171, 183, 187, 196] 2000 (by decide) rx_e252 ?_
  unfold f_m_would at h
  refine rr_callT (f_m_isSeeds_ok _ rfl) ?_
  refine rr_if h (fun c9 h => ?_) (fun c9 h => ?_)
  · skip
    cases h
    exact And.intro (trivial) rfl
  · skip
    refine rr_callP h (fun y hy => f_m_isSetting_ok _ hy) (fun y1 hy1 h => ?_)
    refine rr_if h (fun c17 h => ?_) (fun c17 h => ?_)
    · skip
      cases h
      exact And.intro (trivial) rfl
    · skip
      refine rr_callT (f_m_isNumber_ok _ rfl) ?_
      refine rr_if h (fun c24 h => ?_) (fun c24 h => ?_)
      · skip
        cases h
        exact And.intro (trivial) rfl
      · skip
        refine rr_callP h (fun y hy => f_m_isFigure_ok _ hy) (fun y2 hy2 h => ?_)
        refine rr_if h (fun c37 h => ?_) (fun c37 h => ?_)
        · skip
          cases h
          exact And.intro (trivial) rfl
        · skip
          refine rr_callT (f_m_in_ok _ rfl) ?_
          refine rr_if h (fun c47 h => ?_) (fun c47 h => ?_)
          · skip
            cases h
            exact And.intro (trivial) rfl
          · skip
            exact rx_sub (f_m_would_73_ok rx_fu _ _ _ _ _ _ _ _ _ _ _ _ _ h) [5, 6, 7, 8, 9, 10, 11, 12, 4, 3, 2, 1, 0] rfl
set_option maxRecDepth 100000 in
theorem rx_e253 : rx_Ext none 253 := rx_Ext_plain (by decide +kernel)
set_option maxRecDepth 100000 in
set_option maxHeartbeats 4000000 in
theorem f_m_effectOf_ok {P : List Nat} {σ : rx_St} {a0 : Int32} {a1 : Int32} : ∀ o, f_m_effectOf a0 a1 = some o → rx_OK 253 [.int a0, .int a1] 162 [] P σ (some (.int o), rx_D P σ) := by
  intro o h
  refine rx_OK_of (by decide) (Nat.le_of_ble_eq_true rfl) ?_
  refine rx_walk [] 2000 (by decide) rx_e253 ?_
  unfold f_m_effectOf at h
  refine rr_callP h (fun y hy => f_m_bits_ok _ hy) (fun y2 hy2 h => ?_)
  refine rr_ck ((by decide)) ?_
  refine rr_if h (fun c12 h => ?_) (fun c12 h => ?_)
  · skip
    cases h
    exact And.intro (trivial) rfl
  · skip
    cases h
    exact And.intro (trivial) rfl
set_option maxRecDepth 100000 in
theorem rx_e254 : rx_Ext none 254 := rx_Ext_plain (by decide +kernel)
set_option maxRecDepth 100000 in
set_option maxHeartbeats 4000000 in
theorem f_m_areTold_122_ok {P : List Nat} {σ : rx_St} {o : Int32} {k2 : Int32 → Int32 → Int32 → Int32 → Option (Int32)} (hk2 : ∀ (v0 : Int32) (v1 : Int32) (v2 : Int32) (v3 : Int32), k2 v0 v1 v2 v3 = some o → rx_AtP none 254 2 [(0, .int v0), (1, .int v1), (2, .int v2), (3, .int v3)] [] (rx_D P σ) (some (.int o), rx_D P σ)) : ∀ (v0 : Int32) (v1 : Int32) (v2 : Int32) (v3 : Int32), f_m_areTold_122 k2 v0 v1 v2 v3 = some o → rx_AtP none 254 122 [(0, .int v0), (1, .int v1), (2, .int v2), (3, .int v3)] [] (rx_D P σ) (some (.int o), rx_D P σ) := by
  intro v0 v1 v2 v3 h
  refine rx_walk [2, 23, 49, 100, 103, 116, 122] 2000 (by decide) rx_e254 ?_
  unfold f_m_areTold_122 at h
  exact rx_sub (hk2 _ _ _ _ h) [1, 2, 3, 0] rfl
set_option maxRecDepth 100000 in
set_option maxHeartbeats 4000000 in
theorem f_m_areTold_116_ok {P : List Nat} {σ : rx_St} {o : Int32} {k2 : Int32 → Int32 → Int32 → Int32 → Option (Int32)} {k23 : Int32 → Int32 → Int32 → Int32 → Int32 → Option (Int32)} (hk2 : ∀ (v0 : Int32) (v1 : Int32) (v2 : Int32) (v3 : Int32), k2 v0 v1 v2 v3 = some o → rx_AtP none 254 2 [(0, .int v0), (1, .int v1), (2, .int v2), (3, .int v3)] [] (rx_D P σ) (some (.int o), rx_D P σ)) (hk23 : ∀ (v0 : Int32) (v1 : Int32) (v2 : Int32) (v3 : Int32) (v4 : Int32), k23 v0 v1 v2 v3 v4 = some o → rx_AtP none 254 23 [(0, .int v0), (1, .int v1), (2, .int v2), (3, .int v3), (4, .int v4)] [] (rx_D P σ) (some (.int o), rx_D P σ)) : ∀ (v0 : Int32) (v1 : Int32) (v2 : Int32) (v3 : Int32) (v4 : Int32), f_m_areTold_116 k2 k23 v0 v1 v2 v3 v4 = some o → rx_AtP none 254 116 [(0, .int v0), (1, .int v1), (2, .int v2), (3, .int v3), (4, .int v4)] [] (rx_D P σ) (some (.int o), rx_D P σ) := by
  intro v0 v1 v2 v3 v4 h
  refine rx_walk [2, 23, 49, 100, 103, 116, 122] 2000 (by decide) rx_e254 ?_
  unfold f_m_areTold_116 at h
  exact rx_sub (hk23 _ _ _ _ _ h) [1, 2, 3, 4, 0] rfl
set_option maxRecDepth 100000 in
set_option maxHeartbeats 4000000 in
theorem f_m_areTold_103_ok {P : List Nat} {σ : rx_St} {o : Int32} {k2 : Int32 → Int32 → Int32 → Int32 → Option (Int32)} {k23 : Int32 → Int32 → Int32 → Int32 → Int32 → Option (Int32)} {k49 : Int32 → Int32 → Int32 → Int32 → Int32 → Int32 → Int32 → Option (Int32)} (hk2 : ∀ (v0 : Int32) (v1 : Int32) (v2 : Int32) (v3 : Int32), k2 v0 v1 v2 v3 = some o → rx_AtP none 254 2 [(0, .int v0), (1, .int v1), (2, .int v2), (3, .int v3)] [] (rx_D P σ) (some (.int o), rx_D P σ)) (hk23 : ∀ (v0 : Int32) (v1 : Int32) (v2 : Int32) (v3 : Int32) (v4 : Int32), k23 v0 v1 v2 v3 v4 = some o → rx_AtP none 254 23 [(0, .int v0), (1, .int v1), (2, .int v2), (3, .int v3), (4, .int v4)] [] (rx_D P σ) (some (.int o), rx_D P σ)) (hk49 : ∀ (v0 : Int32) (v1 : Int32) (v2 : Int32) (v3 : Int32) (v4 : Int32) (v5 : Int32) (v6 : Int32), k49 v0 v1 v2 v3 v4 v5 v6 = some o → rx_AtP none 254 49 [(0, .int v0), (1, .int v1), (2, .int v2), (3, .int v3), (4, .int v4), (5, .int v5), (6, .int v6)] [] (rx_D P σ) (some (.int o), rx_D P σ)) : ∀ (v0 : Int32) (v1 : Int32) (v2 : Int32) (v3 : Int32) (v4 : Int32) (v5 : Int32) (v6 : Int32), f_m_areTold_103 k2 k23 k49 v0 v1 v2 v3 v4 v5 v6 = some o → rx_AtP none 254 103 [(0, .int v0), (1, .int v1), (2, .int v2), (3, .int v3), (4, .int v4), (5, .int v5), (6, .int v6)] [] (rx_D P σ) (some (.int o), rx_D P σ) := by
  intro v0 v1 v2 v3 v4 v5 v6 h
  refine rx_walk [2, 23, 49, 100, 103, 116, 122] 2000 (by decide) rx_e254 ?_
  unfold f_m_areTold_103 at h
  exact rx_sub (hk49 _ _ _ _ _ _ _ h) [1, 2, 3, 4, 5, 6, 0] rfl
set_option maxRecDepth 100000 in
set_option maxHeartbeats 4000000 in
theorem f_m_areTold_100_ok {P : List Nat} {σ : rx_St} {o : Int32} {k2 : Int32 → Int32 → Int32 → Int32 → Option (Int32)} {k23 : Int32 → Int32 → Int32 → Int32 → Int32 → Option (Int32)} {k49 : Int32 → Int32 → Int32 → Int32 → Int32 → Int32 → Int32 → Option (Int32)} (hk2 : ∀ (v0 : Int32) (v1 : Int32) (v2 : Int32) (v3 : Int32), k2 v0 v1 v2 v3 = some o → rx_AtP none 254 2 [(0, .int v0), (1, .int v1), (2, .int v2), (3, .int v3)] [] (rx_D P σ) (some (.int o), rx_D P σ)) (hk23 : ∀ (v0 : Int32) (v1 : Int32) (v2 : Int32) (v3 : Int32) (v4 : Int32), k23 v0 v1 v2 v3 v4 = some o → rx_AtP none 254 23 [(0, .int v0), (1, .int v1), (2, .int v2), (3, .int v3), (4, .int v4)] [] (rx_D P σ) (some (.int o), rx_D P σ)) (hk49 : ∀ (v0 : Int32) (v1 : Int32) (v2 : Int32) (v3 : Int32) (v4 : Int32) (v5 : Int32) (v6 : Int32), k49 v0 v1 v2 v3 v4 v5 v6 = some o → rx_AtP none 254 49 [(0, .int v0), (1, .int v1), (2, .int v2), (3, .int v3), (4, .int v4), (5, .int v5), (6, .int v6)] [] (rx_D P σ) (some (.int o), rx_D P σ)) : ∀ (v0 : Int32) (v1 : Int32) (v2 : Int32) (v3 : Int32) (v4 : Int32) (v6 : Int32) (s0 : Int32) (s1 : Int32), f_m_areTold_100 k2 k23 k49 v0 v1 v2 v3 v4 v6 s0 s1 = some o → rx_AtP none 254 100 [(0, .int v0), (1, .int v1), (2, .int v2), (3, .int v3), (4, .int v4), (6, .int v6)] [.int s1, .int s0] (rx_D P σ) (some (.int o), rx_D P σ) := by
  intro v0 v1 v2 v3 v4 v6 s0 s1 h
  refine rx_walk [2, 23, 49, 100, 103, 116, 122] 2000 (by decide) rx_e254 ?_
  unfold f_m_areTold_100 at h
  exact rx_sub (f_m_areTold_103_ok hk2 hk23 hk49 _ _ _ _ _ _ _ h) [1, 2, 3, 4, 5, 0, 6] rfl
set_option maxRecDepth 100000 in
set_option maxHeartbeats 4000000 in
theorem f_m_areTold_49_ok {P : List Nat} {σ : rx_St} {o : Int32} {k2 : Int32 → Int32 → Int32 → Int32 → Option (Int32)} {k23 : Int32 → Int32 → Int32 → Int32 → Int32 → Option (Int32)} (hk2 : ∀ (v0 : Int32) (v1 : Int32) (v2 : Int32) (v3 : Int32), k2 v0 v1 v2 v3 = some o → rx_AtP none 254 2 [(0, .int v0), (1, .int v1), (2, .int v2), (3, .int v3)] [] (rx_D P σ) (some (.int o), rx_D P σ)) (hk23 : ∀ (v0 : Int32) (v1 : Int32) (v2 : Int32) (v3 : Int32) (v4 : Int32), k23 v0 v1 v2 v3 v4 = some o → rx_AtP none 254 23 [(0, .int v0), (1, .int v1), (2, .int v2), (3, .int v3), (4, .int v4)] [] (rx_D P σ) (some (.int o), rx_D P σ)) : ∀ (n : Nat) (v0 : Int32) (v1 : Int32) (v2 : Int32) (v3 : Int32) (v4 : Int32) (v5 : Int32) (v6 : Int32), f_m_areTold_49 k2 k23 n v0 v1 v2 v3 v4 v5 v6 = some o → rx_AtP none 254 49 [(0, .int v0), (1, .int v1), (2, .int v2), (3, .int v3), (4, .int v4), (5, .int v5), (6, .int v6)] [] (rx_D P σ) (some (.int o), rx_D P σ) := by
  intro n
  induction n with
  | zero => intro _ _ _ _ _ _ _ h; cases h
  | succ n ih =>
  intro v0 v1 v2 v3 v4 v5 v6 h
  refine rx_walk [2, 23, 49, 100, 103, 116, 122] 2000 (by decide) rx_e254 ?_
  rw [f_m_areTold_49] at h
  refine rr_if h (fun c54 h => ?_) (fun c54 h => ?_)
  · skip
    refine rr_if h (fun c111 h => ?_) (fun c111 h => ?_)
    · skip
      exact rx_sub (f_m_areTold_116_ok hk2 hk23 _ _ _ _ _ h) [0, 1, 2, 3, 4] rfl
    · skip
      cases h
      exact And.intro (Or.inl rfl) rfl
  · skip
    refine rr_if h (fun c63 h => ?_) (fun c63 h => ?_)
    · skip
      exact rx_sub (f_m_areTold_103_ok hk2 hk23 ih _ _ _ _ _ _ _ h) [0, 1, 2, 3, 4, 5, 6] rfl
    · skip
      refine rr_if h (fun c74 h => ?_) (fun c74 h => ?_)
      · skip
        refine rr_callP h (fun y hy => f_m_effectOf_ok _ hy) (fun y1 hy1 h => ?_)
        exact rx_sub (f_m_areTold_100_ok hk2 hk23 ih _ _ _ _ _ _ _ _ h) [0, 1, 2, 3, 4, 6] rfl
      · skip
        refine rr_callP h (fun y hy => f_m_effectOf_ok _ hy) (fun y2 hy2 h => ?_)
        refine rr_callP h (fun y hy => f_m_effectOf_ok _ hy) (fun y3 hy3 h => ?_)
        exact rx_sub (f_m_areTold_100_ok hk2 hk23 ih _ _ _ _ _ _ _ _ h) [0, 1, 2, 3, 4, 6] rfl
set_option maxRecDepth 100000 in
set_option maxHeartbeats 4000000 in
theorem f_m_areTold_23_ok {P : List Nat} {σ : rx_St} {o : Int32} {k2 : Int32 → Int32 → Int32 → Int32 → Option (Int32)} (hk2 : ∀ (v0 : Int32) (v1 : Int32) (v2 : Int32) (v3 : Int32), k2 v0 v1 v2 v3 = some o → rx_AtP none 254 2 [(0, .int v0), (1, .int v1), (2, .int v2), (3, .int v3)] [] (rx_D P σ) (some (.int o), rx_D P σ)) : ∀ (n : Nat) (v0 : Int32) (v1 : Int32) (v2 : Int32) (v3 : Int32) (v4 : Int32), f_m_areTold_23 k2 n v0 v1 v2 v3 v4 = some o → rx_AtP none 254 23 [(0, .int v0), (1, .int v1), (2, .int v2), (3, .int v3), (4, .int v4)] [] (rx_D P σ) (some (.int o), rx_D P σ) := by
  intro n
  induction n with
  | zero => intro _ _ _ _ _ h; cases h
  | succ n ih =>
  intro v0 v1 v2 v3 v4 h
  refine rx_walk [2, 23, 49, 100, 103, 116, 122] 2000 (by decide) rx_e254 ?_
  rw [f_m_areTold_23] at h
  refine rr_if h (fun c28 h => ?_) (fun c28 h => ?_)
  · skip
    exact rx_sub (f_m_areTold_122_ok hk2 _ _ _ _ h) [0, 1, 2, 3] rfl
  · skip
    refine rr_if h (fun c37 h => ?_) (fun c37 h => ?_)
    · skip
      exact rx_sub (f_m_areTold_116_ok hk2 ih _ _ _ _ _ h) [0, 1, 2, 3, 4] rfl
    · skip
      exact rx_sub (f_m_areTold_49_ok hk2 ih rx_fu _ _ _ _ _ _ _ h) [2, 3, 4, 5, 6, 1, 0] rfl
set_option maxRecDepth 100000 in
set_option maxHeartbeats 4000000 in
theorem f_m_areTold_2_ok {P : List Nat} {σ : rx_St} {o : Int32} : ∀ (n : Nat) (v0 : Int32) (v1 : Int32) (v2 : Int32) (v3 : Int32), f_m_areTold_2 n v0 v1 v2 v3 = some o → rx_AtP none 254 2 [(0, .int v0), (1, .int v1), (2, .int v2), (3, .int v3)] [] (rx_D P σ) (some (.int o), rx_D P σ) := by
  intro n
  induction n with
  | zero => intro _ _ _ _ h; cases h
  | succ n ih =>
  intro v0 v1 v2 v3 h
  refine rx_walk [2, 23, 49, 100, 103, 116, 122] 2000 (by decide) rx_e254 ?_
  rw [f_m_areTold_2] at h
  refine rr_if h (fun c6 h => ?_) (fun c6 h => ?_)
  · skip
    cases h
    exact And.intro (Or.inr rfl) rfl
  · skip
    refine rr_if h (fun c14 h => ?_) (fun c14 h => ?_)
    · skip
      exact rx_sub (f_m_areTold_122_ok ih _ _ _ _ h) [0, 1, 2, 3] rfl
    · skip
      exact rx_sub (f_m_areTold_23_ok ih rx_fu _ _ _ _ _ h) [1, 2, 3, 4, 0] rfl
set_option maxRecDepth 100000 in
set_option maxHeartbeats 4000000 in
theorem f_m_areTold_ok {P : List Nat} {σ : rx_St} {a0 : Int32} {a1 : Int32} {a2 : Int32} : ∀ o, f_m_areTold a0 a1 a2 = some o → rx_OK 254 [.int a0, .int a1, .int a2] 162 [] P σ (some (.int o), rx_D P σ) := by
  intro o h
  refine rx_OK_of (by decide) (Nat.le_of_ble_eq_true rfl) ?_
  refine rx_walk [2, 23, 49, 100, 103, 116, 122] 2000 (by decide) rx_e254 ?_
  unfold f_m_areTold at h
  exact rx_sub (f_m_areTold_2_ok rx_fu _ _ _ _ h) [1, 2, 3, 0] rfl
set_option maxRecDepth 100000 in
theorem rx_e255 : rx_Ext none 255 := rx_Ext_plain (by decide +kernel)
set_option maxRecDepth 100000 in
set_option maxHeartbeats 4000000 in
theorem f_m_isTrial_ok {P : List Nat} {σ : rx_St} {a0 : Int32} {a1 : Int32} : ∀ o, f_m_isTrial a0 a1 = o → rx_OK 255 [.int a0, .int a1] 162 [] P σ (some (.int o), rx_D P σ) := by
  intro o h
  refine rx_OK_of (by decide) (Nat.le_of_ble_eq_true rfl) ?_
  refine rx_walk [] 2000 (by decide) rx_e255 ?_
  unfold f_m_isTrial at h
  refine rr_if h (fun c2 h => ?_) (fun c2 h => ?_)
  · skip
    cases h
    exact And.intro (Or.inl rfl) rfl
  · skip
    refine rr_if h (fun c7 h => ?_) (fun c7 h => ?_)
    · skip
      cases h
      exact And.intro (Or.inl rfl) rfl
    · skip
      refine rr_if h (fun c11 h => ?_) (fun c11 h => ?_)
      · skip
        cases h
        exact And.intro (Or.inl rfl) rfl
      · skip
        refine rr_if h (fun c20 h => ?_) (fun c20 h => ?_)
        · skip
          cases h
          exact And.intro (Or.inl rfl) rfl
        · skip
          refine rr_if h (fun c26 h => ?_) (fun c26 h => ?_)
          · skip
            cases h
            exact And.intro (Or.inr rfl) rfl
          · skip
            cases h
            exact And.intro (Or.inl rfl) rfl
set_option maxRecDepth 100000 in
theorem rx_e256 : rx_Ext none 256 := rx_Ext_plain (by decide +kernel)
set_option maxRecDepth 100000 in
set_option maxHeartbeats 4000000 in
theorem f_m_tells_27_ok {P : List Nat} {o : Int32 × rx_St} : ∀ (σ : rx_St), f_m_tells_27 σ = some o → rx_AtP none 256 27 [] [] (rx_D P σ) (some (.int o.1), rx_D P o.2) := by
  intro σ h
  refine rx_walk [27] 2000 (by decide) rx_e256 ?_
  unfold f_m_tells_27 at h
  cases h
  exact And.intro (trivial) rfl
set_option maxRecDepth 100000 in
set_option maxHeartbeats 4000000 in
theorem f_m_tells_ok {P : List Nat} {a0 : Int32} {a1 : Int32} {a2 : Int32} {σ : rx_St} : ∀ o, f_m_tells a0 a1 a2 σ = some o → rx_OK 256 [.ref 87, .int a0, .int a1, .int a2] 162 [] P σ (some (.int o.1), rx_D P o.2) := by
  intro o h
  refine rx_OK_of (by decide) (Nat.le_of_ble_eq_true rfl) ?_
  refine rx_walk [27] 2000 (by decide) rx_e256 ?_
  unfold f_m_tells at h
  refine rr_callT (f_m_isTrial_ok _ rfl) ?_
  refine rr_if h (fun c10 h => ?_) (fun c10 h => ?_)
  · skip
    exact rx_sub (f_m_tells_27_ok _ h) [] rfl
  · skip
    refine rr_if h (fun c15 h => ?_) (fun c15 h => ?_)
    · skip
      exact rx_sub (f_m_tells_27_ok _ h) [] rfl
    · skip
      refine rr_if h (fun c24 h => ?_) (fun c24 h => ?_)
      · skip
        refine rr_callP h (fun y hy => f_m_areTold_ok _ hy) (fun y1 hy1 h => ?_)
        refine rr_if h (fun c37 h => ?_) (fun c37 h => ?_)
        · skip
          cases h
          exact And.intro (trivial) rfl
        · skip
          cases h
          exact And.intro (trivial) rfl
      · skip
        exact rx_sub (f_m_tells_27_ok _ h) [] rfl
set_option maxRecDepth 100000 in
theorem rx_e257 : rx_Ext none 257 := rx_Ext_plain (by decide +kernel)
set_option maxRecDepth 100000 in
set_option maxHeartbeats 4000000 in
theorem f_m_fewest_73_ok {P : List Nat} {o : Int32 × rx_St} {k24 : Int32 → Int32 → Int32 → Int32 → Int32 → rx_St → Option (Int32 × rx_St)} (hk24 : ∀ (v1 : Int32) (v2 : Int32) (v3 : Int32) (v4 : Int32) (v5 : Int32) (σ : rx_St), k24 v1 v2 v3 v4 v5 σ = some o → rx_AtP none 257 24 [(1, .int v1), (2, .int v2), (3, .int v3), (4, .int v4), (5, .int v5)] [] (rx_D P σ) (some (.int o.1), rx_D P o.2)) : ∀ (v1 : Int32) (v2 : Int32) (v3 : Int32) (v4 : Int32) (v5 : Int32) (σ : rx_St), f_m_fewest_73 k24 v1 v2 v3 v4 v5 σ = some o → rx_AtP none 257 73 [(1, .int v1), (2, .int v2), (3, .int v3), (4, .int v4), (5, .int v5)] [] (rx_D P σ) (some (.int o.1), rx_D P o.2) := by
  intro v1 v2 v3 v4 v5 σ h
  refine rx_walk [24, 50, 73] 2000 (by decide) rx_e257 ?_
  unfold f_m_fewest_73 at h
  exact rx_sub (hk24 _ _ _ _ _ _ h) [1, 2, 3, 4, 0] rfl
set_option maxRecDepth 100000 in
set_option maxHeartbeats 4000000 in
theorem f_m_fewest_50_ok {P : List Nat} {o : Int32 × rx_St} {k24 : Int32 → Int32 → Int32 → Int32 → Int32 → rx_St → Option (Int32 × rx_St)} (hk24 : ∀ (v1 : Int32) (v2 : Int32) (v3 : Int32) (v4 : Int32) (v5 : Int32) (σ : rx_St), k24 v1 v2 v3 v4 v5 σ = some o → rx_AtP none 257 24 [(1, .int v1), (2, .int v2), (3, .int v3), (4, .int v4), (5, .int v5)] [] (rx_D P σ) (some (.int o.1), rx_D P o.2)) : ∀ (v1 : Int32) (v2 : Int32) (v3 : Int32) (v4 : Int32) (v5 : Int32) (σ : rx_St), f_m_fewest_50 k24 v1 v2 v3 v4 v5 σ = some o → rx_AtP none 257 50 [(1, .int v1), (2, .int v2), (3, .int v3), (4, .int v4), (5, .int v5)] [] (rx_D P σ) (some (.int o.1), rx_D P o.2) := by
  intro v1 v2 v3 v4 v5 σ h
  refine rx_walk [24, 50, 73] 2000 (by decide) rx_e257 ?_
  unfold f_m_fewest_50 at h
  refine rr_callP h (fun y hy => f_m_areTold_ok _ hy) (fun y1 hy1 h => ?_)
  refine rr_if h (fun c57 h => ?_) (fun c57 h => ?_)
  · skip
    exact rx_sub (f_m_fewest_73_ok hk24 _ _ _ _ _ _ h) [0, 1, 2, 3, 4] rfl
  · skip
    refine rr_callP h (fun y hy => f_m_bits_ok _ hy) (fun y2 hy2 h => ?_)
    exact rx_sub (f_m_fewest_73_ok hk24 _ _ _ _ _ _ h) [2, 3, 1, 0, 4] rfl
set_option maxRecDepth 100000 in
set_option maxHeartbeats 4000000 in
theorem f_m_fewest_24_ok {P : List Nat} {o : Int32 × rx_St} : ∀ (n : Nat) (v1 : Int32) (v2 : Int32) (v3 : Int32) (v4 : Int32) (v5 : Int32) (σ : rx_St), f_m_fewest_24 n v1 v2 v3 v4 v5 σ = some o → rx_AtP none 257 24 [(1, .int v1), (2, .int v2), (3, .int v3), (4, .int v4), (5, .int v5)] [] (rx_D P σ) (some (.int o.1), rx_D P o.2) := by
  intro n
  induction n with
  | zero => intro _ _ _ _ _ _ h; cases h
  | succ n ih =>
  intro v1 v2 v3 v4 v5 σ h
  refine rx_walk [24, 50, 73] 2000 (by decide) rx_e257 ?_
  rw [f_m_fewest_24] at h
  refine rr_if h (fun c31 h => ?_) (fun c31 h => ?_)
  · skip
    cases h
    exact And.intro (trivial) rfl
  · skip
    refine rr_if h (fun c37 h => ?_) (fun c37 h => ?_)
    · skip
      exact rx_sub (f_m_fewest_50_ok ih _ _ _ _ _ _ h) [0, 1, 2, 3, 4] rfl
    · skip
      refine rr_callP h (fun y hy => f_m_bits_ok _ hy) (fun y1 hy1 h => ?_)
      refine rr_if h (fun c47 h => ?_) (fun c47 h => ?_)
      · skip
        exact rx_sub (f_m_fewest_73_ok ih _ _ _ _ _ _ h) [0, 1, 2, 3, 4] rfl
      · skip
        exact rx_sub (f_m_fewest_50_ok ih _ _ _ _ _ _ h) [0, 1, 2, 3, 4] rfl
set_option maxRecDepth 100000 in
set_option maxHeartbeats 4000000 in
theorem f_m_fewest_ok {P : List Nat} {a0 : Int32} {a1 : Int32} {σ : rx_St} : ∀ o, f_m_fewest a0 a1 σ = some o → rx_OK 257 [.ref 87, .int a0, .int a1] 162 [] P σ (some (.int o.1), rx_D P o.2) := by
  intro o h
  refine rx_OK_of (by decide) (Nat.le_of_ble_eq_true rfl) ?_
  refine rx_walk [24, 50, 73] 2000 (by decide) rx_e257 ?_
  unfold f_m_fewest at h
  refine rr_callT (f_m_isTrial_ok _ rfl) ?_
  refine rr_if h (fun c10 h => ?_) (fun c10 h => ?_)
  · skip
    cases h
    exact And.intro (trivial) rfl
  · skip
    exact rx_sub (f_m_fewest_24_ok rx_fu _ _ _ _ _ _ h) [4, 5, 2, 1, 0] rfl
set_option maxRecDepth 100000 in
theorem rx_e258 : rx_Ext none 258 := rx_Ext_plain (by decide +kernel)
set_option maxRecDepth 100000 in
set_option maxHeartbeats 4000000 in
theorem f_m_count_83_ok {P : List Nat} {o : Int32 × rx_St} : ∀ (v1 : Int32) (σ : rx_St), f_m_count_83 v1 σ = some o → rx_AtP none 258 83 [(0, .ref 87), (1, .int v1)] [] (rx_D P σ) (some (.int o.1), rx_D P o.2) := by
  intro v1 σ h
  refine rx_walk [44, 83] 2000 (by decide) rx_e258 ?_
  unfold f_m_count_83 at h
  refine rr_if h (fun c84_0 h => ?_) (fun c84_0 h => ?_)
  · skip
    refine rr_g h (fun c136 h => ?_)
    cases h
    exact And.intro (trivial) rfl
  · skip
    refine rr_if h (fun c84_1 h => ?_) (fun c84_1 h => ?_)
    · skip
      refine rr_g h (fun c146 h => ?_)
      cases h
      exact And.intro (trivial) rfl
    · skip
      refine rr_if h (fun c84_2 h => ?_) (fun c84_2 h => ?_)
      · skip
        cases h
        exact And.intro (trivial) rfl
      · skip
        refine rr_if h (fun c84_3 h => ?_) (fun c84_3 h => ?_)
        · skip
          cases h
          exact And.intro (trivial) rfl
        · skip
          refine rr_if h (fun c84_4 h => ?_) (fun c84_4 h => ?_)
          · skip
            cases h
            exact And.intro (trivial) rfl
          · skip
            refine rr_if h (fun c84_5 h => ?_) (fun c84_5 h => ?_)
            · skip
              cases h
              exact And.intro (trivial) rfl
            · skip
              refine rr_if h (fun c84_6 h => ?_) (fun c84_6 h => ?_)
              · skip
                cases h
                exact And.intro (trivial) rfl
              · skip
                cases h
                exact And.intro (trivial) rfl
set_option maxRecDepth 100000 in
set_option maxHeartbeats 4000000 in
theorem f_m_count_44_ok {P : List Nat} {o : Int32 × rx_St} : ∀ (v1 : Int32) (σ : rx_St), f_m_count_44 v1 σ = some o → rx_AtP none 258 44 [(0, .ref 87), (1, .int v1)] [] (rx_D P σ) (some (.int o.1), rx_D P o.2) := by
  intro v1 σ h
  refine rx_walk [44, 83] 2000 (by decide) rx_e258 ?_
  unfold f_m_count_44 at h
  refine rr_if h (fun c47 h => ?_) (fun c47 h => ?_)
  · skip
    exact rx_sub (f_m_count_83_ok _ _ h) [0, 1] rfl
  · skip
    refine rr_g h (fun c61 h => ?_)
    refine rr_if h (fun c63 h => ?_) (fun c63 h => ?_)
    · skip
      exact rx_sub (f_m_count_83_ok _ _ h) [0, 1] rfl
    · skip
      refine rr_g h (fun c81 h => ?_)
      cases h
      exact And.intro (trivial) rfl
set_option maxRecDepth 100000 in
set_option maxHeartbeats 4000000 in
theorem f_m_count_ok {P : List Nat} {a0 : Int32} {σ : rx_St} : ∀ o, f_m_count a0 σ = some o → rx_OK 258 [.ref 87, .int a0] 162 [] P σ (some (.int o.1), rx_D P o.2) := by
  intro o h
  refine rx_OK_of (by decide) (Nat.le_of_ble_eq_true rfl) ?_
  refine rx_walk [44, 83] 2000 (by decide) rx_e258 ?_
  unfold f_m_count at h
  refine rr_if h (fun c8 h => ?_) (fun c8 h => ?_)
  · skip
    exact rx_sub (f_m_count_44_ok _ _ h) [0, 1] rfl
  · skip
    refine rr_g h (fun c22 h => ?_)
    refine rr_if h (fun c24 h => ?_) (fun c24 h => ?_)
    · skip
      exact rx_sub (f_m_count_44_ok _ _ h) [0, 1] rfl
    · skip
      refine rr_g h (fun c42 h => ?_)
      cases h
      exact And.intro (trivial) rfl
