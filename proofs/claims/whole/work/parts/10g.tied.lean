set_option maxRecDepth 100000 in
theorem rx_e186 : rx_Ext none 186 := rx_Ext_plain (by decide +kernel)
set_option maxRecDepth 100000 in
set_option maxHeartbeats 4000000 in
theorem f_m_tellRule_170_ok {P : List Nat} {o : rx_St} : ∀ (σ : rx_St), f_m_tellRule_170 σ = some o → rx_AtP none 186 170 [(0, .ref 87)] [] (rx_D P σ) (none, rx_D P o) := by
  intro σ h
  refine rx_walk [19, 81, 83, 119, 124, 136, 146, 170] 2000 (by decide) rx_e186 ?_
  unfold f_m_tellRule_170 at h
  refine rr_callV h (fun y hy => f_m_must_ok _ hy) (fun y1 hy1 h => ?_)
  refine rr_if h (fun c180 h => ?_) (fun c180 h => ?_)
  · skip
    refine rr_g h (fun c192 h => ?_)
    refine rr_g h (fun c195 h => ?_)
    cases h
    exact And.intro (rfl) rfl
  · skip
    cases h
    exact And.intro (rfl) rfl
set_option maxRecDepth 100000 in
set_option maxHeartbeats 4000000 in
theorem f_m_tellRule_146_ok {P : List Nat} {o : rx_St} : ∀ (n : Nat) (v1 : Int32) (σ : rx_St), f_m_tellRule_146 n v1 σ = some o → rx_AtP none 186 146 [(0, .ref 87), (1, .int v1)] [] (rx_D P σ) (none, rx_D P o) := by
  intro n
  induction n with
  | zero => intro _ _ h; cases h
  | succ n ih =>
  intro v1 σ h
  refine rx_walk [19, 81, 83, 119, 124, 136, 146, 170] 2000 (by decide) rx_e186 ?_
  rw [f_m_tellRule_146] at h
  refine rr_if h (fun c150 h => ?_) (fun c150 h => ?_)
  · skip
    refine rr_callP h (fun y hy => f_m_is_ok _ hy) (fun y1 hy1 h => ?_)
    refine rr_if h (fun c159 h => ?_) (fun c159 h => ?_)
    · skip
      refine rr_callV h (fun y hy => f_m_tellWish_ok _ hy) (fun y2 hy2 h => ?_)
      exact rx_sub (ih _ _ h) [0, 1] rfl
    · skip
      exact rx_sub (f_m_tellRule_170_ok _ h) [0] rfl
  · skip
    exact rx_sub (f_m_tellRule_170_ok _ h) [0] rfl
set_option maxRecDepth 100000 in
set_option maxHeartbeats 4000000 in
theorem f_m_tellRule_136_ok {P : List Nat} {o : rx_St} : ∀ (v1 : Int32) (σ : rx_St), f_m_tellRule_136 v1 σ = some o → rx_AtP none 186 136 [(0, .ref 87), (1, .int v1)] [] (rx_D P σ) (none, rx_D P o) := by
  intro v1 σ h
  refine rx_walk [19, 81, 83, 119, 124, 136, 146, 170] 2000 (by decide) rx_e186 ?_
  unfold f_m_tellRule_136 at h
  refine rr_g h (fun c145 h => ?_)
  exact rx_sub (f_m_tellRule_146_ok rx_fu _ _ h) [0, 1] rfl
set_option maxRecDepth 100000 in
set_option maxHeartbeats 4000000 in
theorem f_m_tellRule_124_ok {P : List Nat} {o : rx_St} {k83 : Int32 → Int32 → Int32 → rx_St → Option (rx_St)} (hk83 : ∀ (v1 : Int32) (v2 : Int32) (v3 : Int32) (σ : rx_St), k83 v1 v2 v3 σ = some o → rx_AtP none 186 83 [(0, .ref 87), (1, .int v1), (2, .int v2), (3, .int v3)] [] (rx_D P σ) (none, rx_D P o)) : ∀ (v1 : Int32) (v3 : Int32) (s0 : Int32) (σ : rx_St), f_m_tellRule_124 k83 v1 v3 s0 σ = some o → rx_AtP none 186 124 [(0, .ref 87), (1, .int v1), (3, .int v3)] [.int s0] (rx_D P σ) (none, rx_D P o) := by
  intro v1 v3 s0 σ h
  refine rx_walk [19, 81, 83, 119, 124, 136, 146, 170] 2000 (by decide) rx_e186 ?_
  unfold f_m_tellRule_124 at h
  refine rr_if h (fun c126 h => ?_) (fun c126 h => ?_)
  · skip
    exact rx_sub (hk83 _ _ _ _ h) [1, 2, 0, 3] rfl
  · skip
    refine rr_callV h (fun y hy => f_m_next_ok _ hy) (fun y1 hy1 h => ?_)
    exact rx_sub (hk83 _ _ _ _ h) [1, 2, 0, 3] rfl
set_option maxRecDepth 100000 in
set_option maxHeartbeats 4000000 in
theorem f_m_tellRule_119_ok {P : List Nat} {o : rx_St} {k83 : Int32 → Int32 → Int32 → rx_St → Option (rx_St)} (hk83 : ∀ (v1 : Int32) (v2 : Int32) (v3 : Int32) (σ : rx_St), k83 v1 v2 v3 σ = some o → rx_AtP none 186 83 [(0, .ref 87), (1, .int v1), (2, .int v2), (3, .int v3)] [] (rx_D P σ) (none, rx_D P o)) : ∀ (v1 : Int32) (v3 : Int32) (σ : rx_St), f_m_tellRule_119 k83 v1 v3 σ = some o → rx_AtP none 186 119 [(0, .ref 87), (1, .int v1), (3, .int v3)] [] (rx_D P σ) (none, rx_D P o) := by
  intro v1 v3 σ h
  refine rx_walk [19, 81, 83, 119, 124, 136, 146, 170] 2000 (by decide) rx_e186 ?_
  unfold f_m_tellRule_119 at h
  exact rx_sub (f_m_tellRule_124_ok hk83 _ _ _ _ h) [0, 1, 2] rfl
set_option maxRecDepth 100000 in
set_option maxHeartbeats 4000000 in
theorem f_m_tellRule_83_ok {P : List Nat} {o : rx_St} : ∀ (n : Nat) (v1 : Int32) (v2 : Int32) (v3 : Int32) (σ : rx_St), f_m_tellRule_83 n v1 v2 v3 σ = some o → rx_AtP none 186 83 [(0, .ref 87), (1, .int v1), (2, .int v2), (3, .int v3)] [] (rx_D P σ) (none, rx_D P o) := by
  intro n
  induction n with
  | zero => intro _ _ _ _ h; cases h
  | succ n ih =>
  intro v1 v2 v3 σ h
  refine rx_walk [19, 81, 83, 119, 124, 136, 146, 170] 2000 (by decide) rx_e186 ?_
  rw [f_m_tellRule_83] at h
  refine rr_if h (fun c84 h => ?_) (fun c84 h => ?_)
  · skip
    exact rx_sub (f_m_tellRule_136_ok _ _ h) [0, 1] rfl
  · skip
    refine rr_if h (fun c91 h => ?_) (fun c91 h => ?_)
    · skip
      refine rr_callV h (fun y hy => f_m_literal_ok _ hy) (fun y1 hy1 h => ?_)
      refine rr_callP h (fun y hy => f_m_is_ok _ hy) (fun y2 hy2 h => ?_)
      refine rr_if h (fun c107 h => ?_) (fun c107 h => ?_)
      · skip
        refine rr_callP h (fun y hy => f_m_is_ok _ hy) (fun y3 hy3 h => ?_)
        refine rr_if h (fun c116 h => ?_) (fun c116 h => ?_)
        · skip
          exact rx_sub (f_m_tellRule_124_ok ih _ _ _ _ h) [1, 2, 0] rfl
        · skip
          exact rx_sub (f_m_tellRule_119_ok ih _ _ _ h) [1, 2, 0] rfl
      · skip
        exact rx_sub (f_m_tellRule_119_ok ih _ _ _ h) [1, 2, 0] rfl
    · skip
      exact rx_sub (f_m_tellRule_136_ok _ _ h) [0, 1] rfl
set_option maxRecDepth 100000 in
set_option maxHeartbeats 4000000 in
theorem f_m_tellRule_81_ok {P : List Nat} {o : rx_St} : ∀ (v1 : Int32) (v2 : Int32) (σ : rx_St), f_m_tellRule_81 v1 v2 σ = some o → rx_AtP none 186 81 [(0, .ref 87), (1, .int v1), (2, .int v2)] [] (rx_D P σ) (none, rx_D P o) := by
  intro v1 v2 σ h
  refine rx_walk [19, 81, 83, 119, 124, 136, 146, 170] 2000 (by decide) rx_e186 ?_
  unfold f_m_tellRule_81 at h
  exact rx_sub (f_m_tellRule_83_ok rx_fu _ _ _ _ h) [1, 2, 3, 0] rfl
set_option maxRecDepth 100000 in
set_option maxHeartbeats 4000000 in
theorem f_m_tellRule_19_ok {P : List Nat} {o : rx_St} : ∀ (σ : rx_St), f_m_tellRule_19 σ = some o → rx_AtP none 186 19 [(0, .ref 87)] [] (rx_D P σ) (none, rx_D P o) := by
  intro σ h
  refine rx_walk [19, 81, 83, 119, 124, 136, 146, 170] 2000 (by decide) rx_e186 ?_
  unfold f_m_tellRule_19 at h
  refine rr_if h (fun c23 h => ?_) (fun c23 h => ?_)
  · skip
    refine rr_g h (fun c42 h => ?_)
    refine rr_callV h (fun y hy => f_m_next_ok _ hy) (fun y2 hy2 h => ?_)
    refine rr_g h (fun c58 h => ?_)
    refine rr_g h (fun c65 h => ?_)
    refine rr_callP h (fun y hy => f_m_is_ok _ hy) (fun y3 hy3 h => ?_)
    refine rr_if h (fun c74 h => ?_) (fun c74 h => ?_)
    · skip
      exact rx_sub (f_m_tellRule_81_ok _ _ _ h) [2, 1, 0] rfl
    · skip
      refine rr_callV h (fun y hy => f_m_next_ok _ hy) (fun y4 hy4 h => ?_)
      exact rx_sub (f_m_tellRule_81_ok _ _ _ h) [2, 1, 0] rfl
  · skip
    cases h
    exact And.intro (rfl) rfl
set_option maxRecDepth 100000 in
set_option maxHeartbeats 4000000 in
theorem f_m_tellRule_ok {P : List Nat} {σ : rx_St} : ∀ o, f_m_tellRule σ = some o → rx_OK 186 [.ref 87] 162 [] P σ (none, rx_D P o) := by
  intro o h
  refine rx_OK_of (by decide) (Nat.le_of_ble_eq_true rfl) ?_
  refine rx_walk [19, 81, 83, 119, 124, 136, 146, 170] 2000 (by decide) rx_e186 ?_
  unfold f_m_tellRule at h
  refine rr_g h (fun c8 h => ?_)
  refine rr_if h (fun c11 h => ?_) (fun c11 h => ?_)
  · skip
    refine rr_callV h (fun y hy => f_m_fail_ok _ hy) (fun y1 hy1 h => ?_)
    exact rx_sub (f_m_tellRule_19_ok _ h) [0] rfl
  · skip
    exact rx_sub (f_m_tellRule_19_ok _ h) [0] rfl
set_option maxRecDepth 100000 in
theorem rx_e183 : rx_Ext none 183 := rx_Ext_plain (by decide +kernel)
set_option maxRecDepth 100000 in
set_option maxHeartbeats 4000000 in
theorem f_m_tellKind_152_ok {P : List Nat} {o : rx_St} : ∀ (n : Nat) (σ : rx_St), f_m_tellKind_152 n σ = some o → rx_AtP none 183 152 [(0, .ref 87)] [] (rx_D P σ) (none, rx_D P o) := by
  intro n
  induction n with
  | zero => intro _ h; cases h
  | succ n ih =>
  intro σ h
  refine rx_walk [18, 59, 127, 145, 152] 2000 (by decide) rx_e183 ?_
  rw [f_m_tellKind_152] at h
  refine rr_callP h (fun y hy => f_m_is_ok _ hy) (fun y1 hy1 h => ?_)
  refine rr_if h (fun c158 h => ?_) (fun c158 h => ?_)
  · skip
    refine rr_callV h (fun y hy => f_m_must_ok _ hy) (fun y2 hy2 h => ?_)
    cases h
    exact And.intro (rfl) rfl
  · skip
    refine rr_callV h (fun y hy => f_m_tellRule_ok _ hy) (fun y3 hy3 h => ?_)
    exact rx_sub (ih _ h) [0] rfl
set_option maxRecDepth 100000 in
set_option maxHeartbeats 4000000 in
theorem f_m_tellKind_145_ok {P : List Nat} {o : rx_St} {k127 : rx_St → Option (rx_St)} (hk127 : ∀ (σ : rx_St), k127 σ = some o → rx_AtP none 183 127 [(0, .ref 87)] [] (rx_D P σ) (none, rx_D P o)) : ∀ (σ : rx_St), f_m_tellKind_145 k127 σ = some o → rx_AtP none 183 145 [(0, .ref 87)] [] (rx_D P σ) (none, rx_D P o) := by
  intro σ h
  refine rx_walk [18, 59, 127, 145, 152] 2000 (by decide) rx_e183 ?_
  unfold f_m_tellKind_145 at h
  refine rr_callV h (fun y hy => f_m_tellVar_ok _ hy) (fun y1 hy1 h => ?_)
  exact rx_sub (hk127 _ h) [0] rfl
set_option maxRecDepth 100000 in
set_option maxHeartbeats 4000000 in
theorem f_m_tellKind_127_ok {P : List Nat} {o : rx_St} : ∀ (n : Nat) (σ : rx_St), f_m_tellKind_127 n σ = some o → rx_AtP none 183 127 [(0, .ref 87)] [] (rx_D P σ) (none, rx_D P o) := by
  intro n
  induction n with
  | zero => intro _ h; cases h
  | succ n ih =>
  intro σ h
  refine rx_walk [18, 59, 127, 145, 152] 2000 (by decide) rx_e183 ?_
  rw [f_m_tellKind_127] at h
  refine rr_callP h (fun y hy => f_m_is_ok _ hy) (fun y1 hy1 h => ?_)
  refine rr_if h (fun c133 h => ?_) (fun c133 h => ?_)
  · skip
    refine rr_callP h (fun y hy => f_m_is_ok _ hy) (fun y2 hy2 h => ?_)
    refine rr_if h (fun c142 h => ?_) (fun c142 h => ?_)
    · skip
      exact rx_sub (f_m_tellKind_152_ok rx_fu _ h) [0] rfl
    · skip
      exact rx_sub (f_m_tellKind_145_ok ih _ h) [0] rfl
  · skip
    exact rx_sub (f_m_tellKind_145_ok ih _ h) [0] rfl
set_option maxRecDepth 100000 in
set_option maxHeartbeats 4000000 in
theorem f_m_tellKind_59_ok {P : List Nat} {o : rx_St} : ∀ (v1 : Int32) (σ : rx_St), f_m_tellKind_59 v1 σ = some o → rx_AtP none 183 59 [(0, .ref 87), (1, .int v1)] [] (rx_D P σ) (none, rx_D P o) := by
  intro v1 σ h
  refine rx_walk [18, 59, 127, 145, 152] 2000 (by decide) rx_e183 ?_
  unfold f_m_tellKind_59 at h
  refine rr_g h (fun c74 h => ?_)
  refine rr_g h (fun c92 h => ?_)
  refine rr_g h (fun c93 h => ?_)
  refine rr_g h (fun c103 h => ?_)
  refine rr_g h (fun c113 h => ?_)
  refine rr_g h (fun c123 h => ?_)
  refine rr_g h (fun c126 h => ?_)
  exact rx_sub (f_m_tellKind_127_ok rx_fu _ h) [0] rfl
set_option maxRecDepth 100000 in
set_option maxHeartbeats 4000000 in
theorem f_m_tellKind_18_ok {P : List Nat} {o : rx_St} : ∀ (σ : rx_St), f_m_tellKind_18 σ = some o → rx_AtP none 183 18 [(0, .ref 87)] [] (rx_D P σ) (none, rx_D P o) := by
  intro σ h
  refine rx_walk [18, 59, 127, 145, 152] 2000 (by decide) rx_e183 ?_
  unfold f_m_tellKind_18 at h
  refine rr_callV h (fun y hy => f_m_next_ok _ hy) (fun y1 hy1 h => ?_)
  refine rr_callV h (fun y hy => f_m_must_ok _ hy) (fun y2 hy2 h => ?_)
  refine rr_if h (fun c36 h => ?_) (fun c36 h => ?_)
  · skip
    refine rr_g h (fun c46 h => ?_)
    refine rr_callP h (fun y hy => f_m_isNamed_ok _ hy) (fun y3 hy3 h => ?_)
    refine rr_if h (fun c50 h => ?_) (fun c50 h => ?_)
    · skip
      exact rx_sub (f_m_tellKind_59_ok _ _ h) [1, 0] rfl
    · skip
      refine rr_callV h (fun y hy => f_m_wrong_ok _ hy) (fun y4 hy4 h => ?_)
      exact rx_sub (f_m_tellKind_59_ok _ _ h) [1, 0] rfl
  · skip
    cases h
    exact And.intro (rfl) rfl
set_option maxRecDepth 100000 in
set_option maxHeartbeats 4000000 in
theorem f_m_tellKind_ok {P : List Nat} {σ : rx_St} : ∀ o, f_m_tellKind σ = some o → rx_OK 183 [.ref 87] 162 [] P σ (none, rx_D P o) := by
  intro o h
  refine rx_OK_of (by decide) (Nat.le_of_ble_eq_true rfl) ?_
  refine rx_walk [18, 59, 127, 145, 152] 2000 (by decide) rx_e183 ?_
  unfold f_m_tellKind at h
  refine rr_g h (fun c8 h => ?_)
  refine rr_if h (fun c10 h => ?_) (fun c10 h => ?_)
  · skip
    refine rr_callV h (fun y hy => f_m_fail_ok _ hy) (fun y1 hy1 h => ?_)
    exact rx_sub (f_m_tellKind_18_ok _ h) [0] rfl
  · skip
    exact rx_sub (f_m_tellKind_18_ok _ h) [0] rfl
set_option maxRecDepth 100000 in
theorem rx_e190 : rx_Ext none 190 := rx_Ext_plain (by decide +kernel)
set_option maxRecDepth 100000 in
set_option maxHeartbeats 4000000 in
theorem f_m_answers_137_ok {P : List Nat} {o : rx_St} : ∀ (v1 : Int32) (v2 : Int32) (v3 : Int32) (σ : rx_St), f_m_answers_137 v1 v2 v3 σ = some o → rx_AtP none 190 137 [(0, .ref 87), (1, .int v1), (2, .int v2), (3, .int v3)] [] (rx_D P σ) (none, rx_D P o) := by
  intro v1 v2 v3 σ h
  refine rx_walk [9, 57, 110, 137, 233] 2000 (by decide) rx_e190 ?_
  unfold f_m_answers_137 at h
  refine rr_g h (fun c146 h => ?_)
  refine rr_g h (fun c155 h => ?_)
  refine rr_g h (fun c165 h => ?_)
  refine rr_g h (fun c167 h => ?_)
  cases h
  exact And.intro (rfl) rfl
set_option maxRecDepth 100000 in
set_option maxHeartbeats 4000000 in
theorem f_m_answers_233_ok {P : List Nat} {o : rx_St} : ∀ (v1 : Int32) (v2 : Int32) (v3 : Int32) (σ : rx_St), f_m_answers_233 v1 v2 v3 σ = some o → rx_AtP none 190 233 [(0, .ref 87), (1, .int v1), (2, .int v2), (3, .int v3)] [] (rx_D P σ) (none, rx_D P o) := by
  intro v1 v2 v3 σ h
  refine rx_walk [9, 57, 110, 137, 233] 2000 (by decide) rx_e190 ?_
  unfold f_m_answers_233 at h
  refine rr_g h (fun c242 h => ?_)
  refine rr_g h (fun c251 h => ?_)
  refine rr_g h (fun c261 h => ?_)
  refine rr_g h (fun c263 h => ?_)
  cases h
  exact And.intro (rfl) rfl
set_option maxRecDepth 100000 in
set_option maxHeartbeats 4000000 in
theorem f_m_answers_110_ok {P : List Nat} {o : rx_St} : ∀ (v1 : Int32) (v2 : Int32) (s0 : Int32) (σ : rx_St), f_m_answers_110 v1 v2 s0 σ = some o → rx_AtP none 190 110 [(0, .ref 87), (1, .int v1), (2, .int v2)] [.int s0] (rx_D P σ) (none, rx_D P o) := by
  intro v1 v2 s0 σ h
  refine rx_walk [9, 57, 110, 137, 233] 2000 (by decide) rx_e190 ?_
  unfold f_m_answers_110 at h
  refine rr_g h (fun c116 h => ?_)
  refine rr_if h (fun c118 h => ?_) (fun c118 h => ?_)
  · skip
    refine rr_if h (fun c123 h => ?_) (fun c123 h => ?_)
    · skip
      refine rr_g h (fun c133 h => ?_)
      refine rr_callV h (fun y hy => f_m_wrong_ok _ hy) (fun y1 hy1 h => ?_)
      exact rx_sub (f_m_answers_137_ok _ _ _ _ h) [1, 2, 3, 0] rfl
    · skip
      exact rx_sub (f_m_answers_137_ok _ _ _ _ h) [1, 2, 3, 0] rfl
  · skip
    refine rr_if h (fun c171 h => ?_) (fun c171 h => ?_)
    · skip
      refine rr_g h (fun c181 h => ?_)
      refine rr_callV h (fun y hy => f_m_wrong_ok _ hy) (fun y2 hy2 h => ?_)
      exact rx_sub (f_m_answers_233_ok _ _ _ _ h) [1, 2, 3, 0] rfl
    · skip
      refine rr_g h (fun c193 h => ?_)
      refine rr_if h (fun c194 h => ?_) (fun c194 h => ?_)
      · skip
        refine rr_g h (fun c203 h => ?_)
        refine rr_if h (fun c204 h => ?_) (fun c204 h => ?_)
        · skip
          exact rx_sub (f_m_answers_233_ok _ _ _ _ h) [1, 2, 3, 0] rfl
        · skip
          refine rr_g h (fun c217 h => ?_)
          refine rr_if h (fun c218 h => ?_) (fun c218 h => ?_)
          · skip
            exact rx_sub (f_m_answers_233_ok _ _ _ _ h) [1, 2, 3, 0] rfl
          · skip
            refine rr_g h (fun c229 h => ?_)
            refine rr_callV h (fun y hy => f_m_wrong_ok _ hy) (fun y3 hy3 h => ?_)
            exact rx_sub (f_m_answers_233_ok _ _ _ _ h) [1, 2, 3, 0] rfl
      · skip
        exact rx_sub (f_m_answers_233_ok _ _ _ _ h) [1, 2, 3, 0] rfl
set_option maxRecDepth 100000 in
set_option maxHeartbeats 4000000 in
theorem f_m_answers_57_ok {P : List Nat} {o : rx_St} {k9 : Int32 → Int32 → Int32 → rx_St → Option (rx_St)} (hk9 : ∀ (v1 : Int32) (v2 : Int32) (v3 : Int32) (σ : rx_St), k9 v1 v2 v3 σ = some o → rx_AtP none 190 9 [(0, .ref 87), (1, .int v1), (2, .int v2), (3, .int v3)] [] (rx_D P σ) (none, rx_D P o)) : ∀ (v1 : Int32) (v2 : Int32) (v3 : Int32) (σ : rx_St), f_m_answers_57 k9 v1 v2 v3 σ = some o → rx_AtP none 190 57 [(0, .ref 87), (1, .int v1), (2, .int v2), (3, .int v3)] [] (rx_D P σ) (none, rx_D P o) := by
  intro v1 v2 v3 σ h
  refine rx_walk [9, 57, 110, 137, 233] 2000 (by decide) rx_e190 ?_
  unfold f_m_answers_57 at h
  exact rx_sub (hk9 _ _ _ _ h) [1, 2, 3, 0] rfl
set_option maxRecDepth 100000 in
set_option maxHeartbeats 4000000 in
theorem f_m_answers_9_ok {P : List Nat} {o : rx_St} : ∀ (n : Nat) (v1 : Int32) (v2 : Int32) (v3 : Int32) (σ : rx_St), f_m_answers_9 n v1 v2 v3 σ = some o → rx_AtP none 190 9 [(0, .ref 87), (1, .int v1), (2, .int v2), (3, .int v3)] [] (rx_D P σ) (none, rx_D P o) := by
  intro n
  induction n with
  | zero => intro _ _ _ _ h; cases h
  | succ n ih =>
  intro v1 v2 v3 σ h
  refine rx_walk [9, 57, 110, 137, 233] 2000 (by decide) rx_e190 ?_
  rw [f_m_answers_9] at h
  refine rr_g h (fun c24 h => ?_)
  refine rr_if h (fun c26 h => ?_) (fun c26 h => ?_)
  · skip
    refine rr_if h (fun c65 h => ?_) (fun c65 h => ?_)
    · skip
      refine rr_g h (fun c75 h => ?_)
      refine rr_callV h (fun y hy => f_m_wrong_ok _ hy) (fun y1 hy1 h => ?_)
      cases h
      exact And.intro (rfl) rfl
    · skip
      refine rr_g h (fun c85 h => ?_)
      refine rr_if h (fun c87 h => ?_) (fun c87 h => ?_)
      · skip
        exact rx_sub (f_m_answers_110_ok _ _ _ _ h) [0, 1, 2] rfl
      · skip
        refine rr_g h (fun c105 h => ?_)
        refine rr_g h (fun c106 h => ?_)
        refine rr_callP h (fun y hy => f_m_varOf_ok _ hy) (fun y2 hy2 h => ?_)
        exact rx_sub (f_m_answers_110_ok _ _ _ _ h) [0, 1, 2] rfl
  · skip
    refine rr_if h (fun c31 h => ?_) (fun c31 h => ?_)
    · skip
      refine rr_g h (fun c39 h => ?_)
      refine rr_g h (fun c49 h => ?_)
      refine rr_g h (fun c50 h => ?_)
      refine rr_if h (fun c52 h => ?_) (fun c52 h => ?_)
      · skip
        exact rx_sub (f_m_answers_57_ok ih _ _ _ _ h) [1, 2, 0, 3] rfl
      · skip
        exact rx_sub (f_m_answers_57_ok ih _ _ _ _ h) [0, 1, 2, 3] rfl
    · skip
      exact rx_sub (f_m_answers_57_ok ih _ _ _ _ h) [0, 1, 2, 3] rfl
set_option maxRecDepth 100000 in
set_option maxHeartbeats 4000000 in
theorem f_m_answers_ok {P : List Nat} {a0 : Int32} {σ : rx_St} : ∀ o, f_m_answers a0 σ = some o → rx_OK 190 [.ref 87, .int a0] 162 [] P σ (none, rx_D P o) := by
  intro o h
  refine rx_OK_of (by decide) (Nat.le_of_ble_eq_true rfl) ?_
  refine rx_walk [9, 57, 110, 137, 233] 2000 (by decide) rx_e190 ?_
  unfold f_m_answers at h
  exact rx_sub (f_m_answers_9_ok rx_fu _ _ _ _ h) [2, 3, 1, 0] rfl
set_option maxRecDepth 100000 in
theorem rx_e179 : rx_Ext none 179 := rx_Ext_plain (by decide +kernel)
set_option maxRecDepth 100000 in
set_option maxHeartbeats 4000000 in
theorem f_m_read_276_ok {P : List Nat} {o : Int32 × rx_St} : ∀ (n : Nat) (v1 : Int32) (σ : rx_St), f_m_read_276 n v1 σ = some o → rx_AtP none 179 276 [(0, .ref 87), (1, .int v1)] [] (rx_D P σ) (some (.int o.1), rx_D P o.2) := by
  intro n
  induction n with
  | zero => intro _ _ h; cases h
  | succ n ih =>
  intro v1 σ h
  refine rx_walk [15, 129, 145, 181, 183, 209, 239, 276] 2000 (by decide) rx_e179 ?_
  rw [f_m_read_276] at h
  refine rr_g h (fun c285 h => ?_)
  refine rr_if h (fun c286 h => ?_) (fun c286 h => ?_)
  · skip
    cases h
    exact And.intro (trivial) rfl
  · skip
    refine rr_g h (fun c307 h => ?_)
    refine rr_g h (fun c308 h => ?_)
    exact rx_sub (ih _ _ h) [1, 0] rfl
set_option maxRecDepth 100000 in
set_option maxHeartbeats 4000000 in
theorem f_m_read_239_ok {P : List Nat} {o : Int32 × rx_St} : ∀ (s1 : Int32) (σ : rx_St), f_m_read_239 s1 σ = some o → rx_AtP none 179 239 [(0, .ref 87)] [.int s1, .ref 87] (rx_D P σ) (some (.int o.1), rx_D P o.2) := by
  intro s1 σ h
  refine rx_walk [15, 129, 145, 181, 183, 209, 239, 276] 2000 (by decide) rx_e179 ?_
  unfold f_m_read_239 at h
  refine rr_if h (fun c246 h => ?_) (fun c246 h => ?_)
  · skip
    refine rr_if h (fun c258 h => ?_) (fun c258 h => ?_)
    · skip
      exact rx_sub (f_m_read_276_ok rx_fu _ _ h) [1, 0] rfl
    · skip
      cases h
      exact And.intro (trivial) rfl
  · skip
    cases h
    exact And.intro (trivial) rfl
set_option maxRecDepth 100000 in
set_option maxHeartbeats 4000000 in
theorem f_m_read_209_ok {P : List Nat} {o : Int32 × rx_St} : ∀ (σ : rx_St), f_m_read_209 σ = some o → rx_AtP none 179 209 [(0, .ref 87)] [] (rx_D P σ) (some (.int o.1), rx_D P o.2) := by
  intro σ h
  refine rx_walk [15, 129, 145, 181, 183, 209, 239, 276] 2000 (by decide) rx_e179 ?_
  unfold f_m_read_209 at h
  refine rr_if h (fun c214 h => ?_) (fun c214 h => ?_)
  · skip
    refine rr_if h (fun c228 h => ?_) (fun c228 h => ?_)
    · skip
      exact rx_sub (f_m_read_239_ok _ _ h) [0] rfl
    · skip
      exact rx_sub (f_m_read_239_ok _ _ h) [0] rfl
  · skip
    exact rx_sub (f_m_read_239_ok _ _ h) [0] rfl
set_option maxRecDepth 100000 in
set_option maxHeartbeats 4000000 in
theorem f_m_read_183_ok {P : List Nat} {o : Int32 × rx_St} : ∀ (n : Nat) (v1 : Int32) (σ : rx_St), f_m_read_183 n v1 σ = some o → rx_AtP none 179 183 [(0, .ref 87), (1, .int v1)] [] (rx_D P σ) (some (.int o.1), rx_D P o.2) := by
  intro n
  induction n with
  | zero => intro _ _ h; cases h
  | succ n ih =>
  intro v1 σ h
  refine rx_walk [15, 129, 145, 181, 183, 209, 239, 276] 2000 (by decide) rx_e179 ?_
  rw [f_m_read_183] at h
  refine rr_if h (fun c188 h => ?_) (fun c188 h => ?_)
  · skip
    exact rx_sub (f_m_read_209_ok _ h) [0] rfl
  · skip
    refine rr_if h (fun c195 h => ?_) (fun c195 h => ?_)
    · skip
      refine rr_callV h (fun y hy => f_m_answers_ok _ hy) (fun y1 hy1 h => ?_)
      exact rx_sub (ih _ _ h) [1, 0] rfl
    · skip
      exact rx_sub (f_m_read_209_ok _ h) [0] rfl
set_option maxRecDepth 100000 in
set_option maxHeartbeats 4000000 in
theorem f_m_read_181_ok {P : List Nat} {o : Int32 × rx_St} : ∀ (σ : rx_St), f_m_read_181 σ = some o → rx_AtP none 179 181 [(0, .ref 87)] [] (rx_D P σ) (some (.int o.1), rx_D P o.2) := by
  intro σ h
  refine rx_walk [15, 129, 145, 181, 183, 209, 239, 276] 2000 (by decide) rx_e179 ?_
  unfold f_m_read_181 at h
  exact rx_sub (f_m_read_183_ok rx_fu _ _ h) [1, 0] rfl
set_option maxRecDepth 100000 in
set_option maxHeartbeats 4000000 in
theorem f_m_read_145_ok {P : List Nat} {o : Int32 × rx_St} : ∀ (n : Nat) (σ : rx_St), f_m_read_145 n σ = some o → rx_AtP none 179 145 [(0, .ref 87)] [] (rx_D P σ) (some (.int o.1), rx_D P o.2) := by
  intro n
  induction n with
  | zero => intro _ h; cases h
  | succ n ih =>
  intro σ h
  refine rx_walk [15, 129, 145, 181, 183, 209, 239, 276] 2000 (by decide) rx_e179 ?_
  rw [f_m_read_145] at h
  refine rr_callP h (fun y hy => f_m_is_ok _ hy) (fun y1 hy1 h => ?_)
  refine rr_if h (fun c151 h => ?_) (fun c151 h => ?_)
  · skip
    refine rr_if h (fun c165 h => ?_) (fun c165 h => ?_)
    · skip
      refine rr_callP h (fun y hy => f_m_is_ok _ hy) (fun y2 hy2 h => ?_)
      refine rr_if h (fun c173 h => ?_) (fun c173 h => ?_)
      · skip
        refine rr_callV h (fun y hy => f_m_fail_ok _ hy) (fun y3 hy3 h => ?_)
        exact rx_sub (f_m_read_181_ok _ h) [0] rfl
      · skip
        exact rx_sub (f_m_read_181_ok _ h) [0] rfl
    · skip
      exact rx_sub (f_m_read_181_ok _ h) [0] rfl
  · skip
    refine rr_callV h (fun y hy => f_m_tellKind_ok _ hy) (fun y4 hy4 h => ?_)
    exact rx_sub (ih _ h) [0] rfl
set_option maxRecDepth 100000 in
set_option maxHeartbeats 4000000 in
theorem f_m_read_129_ok {P : List Nat} {o : Int32 × rx_St} : ∀ (n : Nat) (σ : rx_St), f_m_read_129 n σ = some o → rx_AtP none 179 129 [(0, .ref 87)] [] (rx_D P σ) (some (.int o.1), rx_D P o.2) := by
  intro n
  induction n with
  | zero => intro _ h; cases h
  | succ n ih =>
  intro σ h
  refine rx_walk [15, 129, 145, 181, 183, 209, 239, 276] 2000 (by decide) rx_e179 ?_
  rw [f_m_read_129] at h
  refine rr_callP h (fun y hy => f_m_is_ok _ hy) (fun y1 hy1 h => ?_)
  refine rr_if h (fun c135 h => ?_) (fun c135 h => ?_)
  · skip
    exact rx_sub (f_m_read_145_ok rx_fu _ h) [0] rfl
  · skip
    refine rr_callV h (fun y hy => f_m_tellSet_ok _ hy) (fun y2 hy2 h => ?_)
    exact rx_sub (ih _ h) [0] rfl
set_option maxRecDepth 100000 in
set_option maxHeartbeats 4000000 in
theorem f_m_read_15_ok {P : List Nat} {o : Int32 × rx_St} : ∀ (n : Nat) (v1 : Int32) (σ : rx_St), f_m_read_15 n v1 σ = some o → rx_AtP none 179 15 [(0, .ref 87), (1, .int v1)] [] (rx_D P σ) (some (.int o.1), rx_D P o.2) := by
  intro n
  induction n with
  | zero => intro _ _ h; cases h
  | succ n ih =>
  intro v1 σ h
  refine rx_walk [15, 129, 145, 181, 183, 209, 239, 276] 2000 (by decide) rx_e179 ?_
  rw [f_m_read_15] at h
  refine rr_if h (fun c20 h => ?_) (fun c20 h => ?_)
  · skip
    refine rr_callV h (fun y hy => f_m_cut_ok _ hy) (fun y1 hy1 h => ?_)
    refine rr_g h (fun c89 h => ?_)
    refine rr_g h (fun c99 h => ?_)
    exact rx_sub (f_m_read_129_ok rx_fu _ h) [0] rfl
  · skip
    refine rr_g h (fun c33 h => ?_)
    refine rr_g h (fun c34 h => ?_)
    exact rx_sub (ih _ _ h) [1, 0] rfl
set_option maxRecDepth 100000 in
set_option maxHeartbeats 4000000 in
theorem f_m_read_ok {P : List Nat} {σ : rx_St} : ∀ o, f_m_read σ = some o → rx_OK 179 [.ref 87] 162 [] P σ (some (.int o.1), rx_D P o.2) := by
  intro o h
  refine rx_OK_of (by decide) (Nat.le_of_ble_eq_true rfl) ?_
  refine rx_walk [15, 129, 145, 181, 183, 209, 239, 276] 2000 (by decide) rx_e179 ?_
  unfold f_m_read at h
  exact rx_sub (f_m_read_15_ok rx_fu _ _ h) [1, 0] rfl
set_option maxRecDepth 100000 in
theorem rx_e180 : rx_Ext none 180 := rx_Ext_plain (by decide +kernel)
set_option maxRecDepth 100000 in
set_option maxHeartbeats 4000000 in
theorem f_m_place_ok {P : List Nat} {σ : rx_St} : ∀ o, f_m_place σ = some o → rx_OK 180 [.ref 87] 162 [] P σ (some (.int o.1), rx_D P o.2) := by
  intro o h
  refine rx_OK_of (by decide) (Nat.le_of_ble_eq_true rfl) ?_
  refine rx_walk [] 2000 (by decide) rx_e180 ?_
  unfold f_m_place at h
  cases h
  exact And.intro (trivial) rfl
set_option maxRecDepth 100000 in
theorem rx_e196 : rx_Ext none 196 := rx_Ext_plain (by decide +kernel)
set_option maxRecDepth 100000 in
set_option maxHeartbeats 4000000 in
theorem f_m_in_ok {P : List Nat} {σ : rx_St} {a0 : Int32} {a1 : Int32} {a2 : Int32} : ∀ o, f_m_in a0 a1 a2 = o → rx_OK 196 [.int a0, .int a1, .int a2] 162 [] P σ (some (.int o), rx_D P σ) := by
  intro o h
  refine rx_OK_of (by decide) (Nat.le_of_ble_eq_true rfl) ?_
  refine rx_walk [] 2000 (by decide) rx_e196 ?_
  unfold f_m_in at h
  refine rr_if h (fun c2 h => ?_) (fun c2 h => ?_)
  · skip
    cases h
    exact And.intro (Or.inl rfl) rfl
  · skip
    refine rr_if h (fun c7 h => ?_) (fun c7 h => ?_)
    · skip
      cases h
      exact And.intro (Or.inl rfl) rfl
    · skip
      cases h
      exact And.intro (Or.inr rfl) rfl
theorem f_m_in_b (a b c : Int32) : f_m_in a b c = 0 ∨ f_m_in a b c = 1 := by
  unfold f_m_in
  split
  · exact Or.inl rfl
  · split
    · exact Or.inl rfl
    · exact Or.inr rfl
set_option maxRecDepth 100000 in
theorem rx_e197 : rx_Ext none 197 := rx_Ext_plain (by decide +kernel)
set_option maxRecDepth 100000 in
set_option maxHeartbeats 4000000 in
theorem f_m_isNumber_ok {P : List Nat} {σ : rx_St} {a0 : Int32} : ∀ o, f_m_isNumber a0 = o → rx_OK 197 [.int a0] 162 [] P σ (some (.int o), rx_D P σ) := by
  intro o h
  refine rx_OK_of (by decide) (Nat.le_of_ble_eq_true rfl) ?_
  refine rx_walk [] 2000 (by decide) rx_e197 ?_
  unfold f_m_isNumber at h
  refine rr_callT (f_m_in_ok _ rfl) ?_
  cases h
  exact And.intro ((f_m_in_b _ _ _)) rfl
set_option maxRecDepth 100000 in
theorem rx_e198 : rx_Ext none 198 := rx_Ext_plain (by decide +kernel)
set_option maxRecDepth 100000 in
set_option maxHeartbeats 4000000 in
theorem f_m_isSetting_ok {P : List Nat} {a0 : Int32} {σ : rx_St} : ∀ o, f_m_isSetting a0 σ = some o → rx_OK 198 [.ref 87, .int a0] 162 [] P σ (some (.int o), rx_D P σ) := by
  intro o h
  refine rx_OK_of (by decide) (Nat.le_of_ble_eq_true rfl) ?_
  refine rx_walk [] 2000 (by decide) rx_e198 ?_
  unfold f_m_isSetting at h
  refine rr_if h (fun c1 h => ?_) (fun c1 h => ?_)
  · skip
    cases h
    exact And.intro (Or.inl rfl) rfl
  · skip
    refine rr_g h (fun c13 h => ?_)
    refine rr_if h (fun c14 h => ?_) (fun c14 h => ?_)
    · skip
      cases h
      exact And.intro (Or.inl rfl) rfl
    · skip
      cases h
      exact And.intro (Or.inr rfl) rfl
set_option maxRecDepth 100000 in
theorem rx_e199 : rx_Ext none 199 := rx_Ext_plain (by decide +kernel)
set_option maxRecDepth 100000 in
set_option maxHeartbeats 4000000 in
theorem f_m_isOne_ok {P : List Nat} {a0 : Int32} {σ : rx_St} : ∀ o, f_m_isOne a0 σ = o → rx_OK 199 [.ref 87, .int a0] 162 [] P σ (some (.int o), rx_D P σ) := by
  intro o h
  refine rx_OK_of (by decide) (Nat.le_of_ble_eq_true rfl) ?_
  refine rx_walk [] 2000 (by decide) rx_e199 ?_
  unfold f_m_isOne at h
  refine rr_if h (fun c1 h => ?_) (fun c1 h => ?_)
  · skip
    cases h
    exact And.intro (Or.inl rfl) rfl
  · skip
    refine rr_if h (fun c9 h => ?_) (fun c9 h => ?_)
    · skip
      cases h
      exact And.intro (Or.inl rfl) rfl
    · skip
      cases h
      exact And.intro (Or.inr rfl) rfl
set_option maxRecDepth 100000 in
theorem rx_e200 : rx_Ext none 200 := rx_Ext_plain (by decide +kernel)
set_option maxRecDepth 100000 in
set_option maxHeartbeats 4000000 in
theorem f_m_set_ok {P : List Nat} {a0 : Int32} {a1 : Int32} {σ : rx_St} : ∀ o, f_m_set a0 a1 σ = some o → rx_OK 200 [.ref 87, .int a0, .int a1] 162 [] P σ (some (.int o.1), rx_D P o.2) := by
  intro o h
  refine rx_OK_of (by decide) (Nat.le_of_ble_eq_true rfl) ?_
  refine rx_walk [] 2000 (by decide) rx_e200 ?_
  unfold f_m_set at h
  refine rr_callP h (fun y hy => f_m_isSetting_ok _ hy) (fun y1 hy1 h => ?_)
  refine rr_if h (fun c10 h => ?_) (fun c10 h => ?_)
  · skip
    cases h
    exact And.intro (Or.inl rfl) rfl
  · skip
    refine rr_callT (f_m_isNumber_ok _ rfl) ?_
    refine rr_if h (fun c17 h => ?_) (fun c17 h => ?_)
    · skip
      cases h
      exact And.intro (Or.inl rfl) rfl
    · skip
      refine rr_g h (fun c28 h => ?_)
      cases h
      exact And.intro (Or.inr rfl) rfl
set_option maxRecDepth 100000 in
theorem rx_e201 : rx_Ext none 201 := rx_Ext_plain (by decide +kernel)
set_option maxRecDepth 100000 in
set_option maxHeartbeats 4000000 in
theorem f_m_setting_ok {P : List Nat} {a0 : Int32} {σ : rx_St} : ∀ o, f_m_setting a0 σ = some o → rx_OK 201 [.ref 87, .int a0] 162 [] P σ (some (.int o.1), rx_D P o.2) := by
  intro o h
  refine rx_OK_of (by decide) (Nat.le_of_ble_eq_true rfl) ?_
  refine rx_walk [] 2000 (by decide) rx_e201 ?_
  unfold f_m_setting at h
  refine rr_callP h (fun y hy => f_m_isSetting_ok _ hy) (fun y1 hy1 h => ?_)
  refine rr_if h (fun c10 h => ?_) (fun c10 h => ?_)
  · skip
    cases h
    exact And.intro (trivial) rfl
  · skip
    refine rr_g h (fun c25 h => ?_)
    cases h
    exact And.intro (trivial) rfl
set_option maxRecDepth 100000 in
theorem rx_e202 : rx_Ext none 202 := rx_Ext_plain (by decide +kernel)
set_option maxRecDepth 100000 in
set_option maxHeartbeats 4000000 in
theorem f_m_one_86_ok {P : List Nat} {o : Int32 × rx_St} : ∀ (n : Nat) (v1 : Int32) (v4 : Int32) (σ : rx_St), f_m_one_86 n v1 v4 σ = some o → rx_AtP none 202 86 [(0, .ref 87), (1, .int v1), (4, .int v4)] [] (rx_D P σ) (some (.int o.1), rx_D P o.2) := by
  intro n
  induction n with
  | zero => intro _ _ _ h; cases h
  | succ n ih =>
  intro v1 v4 σ h
  refine rx_walk [86] 2000 (by decide) rx_e202 ?_
  rw [f_m_one_86] at h
  refine rr_g h (fun c100 h => ?_)
  refine rr_if h (fun c101 h => ?_) (fun c101 h => ?_)
  · skip
    cases h
    exact And.intro (trivial) rfl
  · skip
    refine rr_g h (fun c136 h => ?_)
    refine rr_g h (fun c137 h => ?_)
    exact rx_sub (ih _ _ _ h) [1, 2, 0] rfl
set_option maxRecDepth 100000 in
set_option maxHeartbeats 4000000 in
theorem f_m_one_ok {P : List Nat} {a0 : Int32} {a1 : Int32} {a2 : Int32} {σ : rx_St} : ∀ o, f_m_one a0 a1 a2 σ = some o → rx_OK 202 [.ref 87, .int a0, .int a1, .int a2] 162 [] P σ (some (.int o.1), rx_D P o.2) := by
  intro o h
  refine rx_OK_of (by decide) (Nat.le_of_ble_eq_true rfl) ?_
  refine rx_walk [86] 2000 (by decide) rx_e202 ?_
  unfold f_m_one at h
  refine rr_if h (fun c11 h => ?_) (fun c11 h => ?_)
  · skip
    cases h
    exact And.intro (trivial) rfl
  · skip
    refine rr_if h (fun c15 h => ?_) (fun c15 h => ?_)
    · skip
      cases h
      exact And.intro (trivial) rfl
    · skip
      refine rr_g h (fun c27 h => ?_)
      refine rr_if h (fun c28 h => ?_) (fun c28 h => ?_)
      · skip
        cases h
        exact And.intro (trivial) rfl
      · skip
        refine rr_callT (f_m_in_ok _ rfl) ?_
        refine rr_if h (fun c38 h => ?_) (fun c38 h => ?_)
        · skip
          cases h
          exact And.intro (trivial) rfl
        · skip
          refine rr_callT (f_m_in_ok _ rfl) ?_
          refine rr_if h (fun c48 h => ?_) (fun c48 h => ?_)
          · skip
            cases h
            exact And.intro (trivial) rfl
          · skip
            refine rr_g h (fun c62 h => ?_)
            refine rr_g h (fun c72 h => ?_)
            refine rr_g h (fun c82 h => ?_)
            exact rx_sub (f_m_one_86_ok rx_fu _ _ _ h) [1, 2, 0] rfl
set_option maxRecDepth 100000 in
theorem rx_e203 : rx_Ext none 203 := rx_Ext_plain (by decide +kernel)
set_option maxRecDepth 100000 in
set_option maxHeartbeats 4000000 in
theorem f_m_isVar_ok {P : List Nat} {a0 : Int32} {a1 : Int32} {σ : rx_St} : ∀ o, f_m_isVar a0 a1 σ = some o → rx_OK 203 [.ref 87, .int a0, .int a1] 162 [] P σ (some (.int o), rx_D P σ) := by
  intro o h
  refine rx_OK_of (by decide) (Nat.le_of_ble_eq_true rfl) ?_
  refine rx_walk [] 2000 (by decide) rx_e203 ?_
  unfold f_m_isVar at h
  refine rr_callT (f_m_isOne_ok _ rfl) ?_
  refine rr_if h (fun c5 h => ?_) (fun c5 h => ?_)
  · skip
    cases h
    exact And.intro (Or.inl rfl) rfl
  · skip
    refine rr_if h (fun c9 h => ?_) (fun c9 h => ?_)
    · skip
      cases h
      exact And.intro (Or.inl rfl) rfl
    · skip
      refine rr_g h (fun c28 h => ?_)
      refine rr_g h (fun c30 h => ?_)
      refine rr_if h (fun c31 h => ?_) (fun c31 h => ?_)
      · skip
        cases h
        exact And.intro (Or.inl rfl) rfl
      · skip
        cases h
        exact And.intro (Or.inr rfl) rfl
set_option maxRecDepth 100000 in
theorem rx_e204 : rx_Ext none 204 := rx_Ext_plain (by decide +kernel)
set_option maxRecDepth 100000 in
set_option maxHeartbeats 4000000 in
theorem f_m_begin_ok {P : List Nat} {a0 : Int32} {a1 : Int32} {a2 : Int32} {σ : rx_St} : ∀ o, f_m_begin a0 a1 a2 σ = some o → rx_OK 204 [.ref 87, .int a0, .int a1, .int a2] 162 [] P σ (some (.int o.1), rx_D P o.2) := by
  intro o h
  refine rx_OK_of (by decide) (Nat.le_of_ble_eq_true rfl) ?_
  refine rx_walk [] 2000 (by decide) rx_e204 ?_
  unfold f_m_begin at h
  refine rr_callP h (fun y hy => f_m_isVar_ok _ hy) (fun y1 hy1 h => ?_)
  refine rr_if h (fun c11 h => ?_) (fun c11 h => ?_)
  · skip
    cases h
    exact And.intro (Or.inl rfl) rfl
  · skip
    refine rr_callT (f_m_isNumber_ok _ rfl) ?_
    refine rr_if h (fun c18 h => ?_) (fun c18 h => ?_)
    · skip
      cases h
      exact And.intro (Or.inl rfl) rfl
    · skip
      refine rr_g h (fun c34 h => ?_)
      cases h
      exact And.intro (Or.inr rfl) rfl
set_option maxRecDepth 100000 in
theorem rx_e205 : rx_Ext none 205 := rx_Ext_plain (by decide +kernel)
set_option maxRecDepth 100000 in
set_option maxHeartbeats 4000000 in
theorem f_m_order_ok {P : List Nat} {a0 : Int32} {σ : rx_St} : ∀ o, f_m_order a0 σ = some o → rx_OK 205 [.ref 87, .int a0] 162 [] P σ (none, rx_D P o) := by
  intro o h
  refine rx_OK_of (by decide) (Nat.le_of_ble_eq_true rfl) ?_
  refine rx_walk [] 2000 (by decide) rx_e205 ?_
  unfold f_m_order at h
  refine rr_c h (fun c7 h => ?_)
  cases h
  exact And.intro (rfl) rfl
set_option maxRecDepth 100000 in
theorem rx_e206 : rx_Ext none 206 := rx_Ext_plain (by decide +kernel)
set_option maxRecDepth 100000 in
set_option maxHeartbeats 4000000 in
theorem f_m_mixed_ok {P : List Nat} {σ : rx_St} {a0 : Int32} {a1 : Int32} : ∀ o, f_m_mixed a0 a1 = o → rx_OK 206 [.int a0, .int a1] 162 [] P σ (some (.int o), rx_D P σ) := by
  intro o h
  refine rx_OK_of (by decide) (Nat.le_of_ble_eq_true rfl) ?_
  refine rx_walk [] 2000 (by decide) rx_e206 ?_
  unfold f_m_mixed at h
  cases h
  exact And.intro (trivial) rfl
set_option maxRecDepth 100000 in
theorem rx_e207 : rx_Ext none 207 := rx_Ext_plain (by decide +kernel)
set_option maxRecDepth 100000 in
set_option maxHeartbeats 4000000 in
theorem f_m_lotOf_ok {P : List Nat} {σ : rx_St} {a0 : Int32} {a1 : Int32} {a2 : Int32} {a3 : Int32} {a4 : Int32} : ∀ o, f_m_lotOf a0 a1 a2 a3 a4 = some o → rx_OK 207 [.int a0, .int a1, .int a2, .int a3, .int a4] 162 [] P σ (some (.int o), rx_D P σ) := by
  intro o h
  refine rx_OK_of (by decide) (Nat.le_of_ble_eq_true rfl) ?_
  refine rx_walk [] 2000 (by decide) rx_e207 ?_
  unfold f_m_lotOf at h
  refine rr_callT (f_m_mixed_ok _ rfl) ?_
  refine rr_callT (f_m_mixed_ok _ rfl) ?_
  refine rr_callT (f_m_mixed_ok _ rfl) ?_
  refine rr_c h (fun c21 h => ?_)
  cases h
  exact And.intro (trivial) rfl
set_option maxRecDepth 100000 in
theorem rx_e208 : rx_Ext none 208 := rx_Ext_plain (by decide +kernel)
set_option maxRecDepth 100000 in
set_option maxHeartbeats 4000000 in
theorem f_m_lot_ok {P : List Nat} {a0 : Int32} {a1 : Int32} {a2 : Int32} {a3 : Int32} {a4 : Int32} {σ : rx_St} : ∀ o, f_m_lot a0 a1 a2 a3 a4 σ = some o → rx_OK 208 [.ref 87, .int a0, .int a1, .int a2, .int a3, .int a4] 162 [] P σ (some (.int o.1), rx_D P o.2) := by
  intro o h
  refine rx_OK_of (by decide) (Nat.le_of_ble_eq_true rfl) ?_
  refine rx_walk [] 2000 (by decide) rx_e208 ?_
  unfold f_m_lot at h
  refine rr_callT (f_m_in_ok _ rfl) ?_
  refine rr_if h (fun c14 h => ?_) (fun c14 h => ?_)
  · skip
    cases h
    exact And.intro (trivial) rfl
  · skip
    refine rr_callT (f_m_in_ok _ rfl) ?_
    refine rr_if h (fun c24 h => ?_) (fun c24 h => ?_)
    · skip
      cases h
      exact And.intro (trivial) rfl
    · skip
      refine rr_callT (f_m_in_ok _ rfl) ?_
      refine rr_if h (fun c34 h => ?_) (fun c34 h => ?_)
      · skip
        cases h
        exact And.intro (trivial) rfl
      · skip
        refine rr_callT (f_m_in_ok _ rfl) ?_
        refine rr_if h (fun c46 h => ?_) (fun c46 h => ?_)
        · skip
          cases h
          exact And.intro (trivial) rfl
        · skip
          refine rr_callP h (fun y hy => f_m_lotOf_ok _ hy) (fun y1 hy1 h => ?_)
          cases h
          exact And.intro (trivial) rfl
set_option maxRecDepth 100000 in
theorem rx_e209 : rx_Ext none 209 := rx_Ext_plain (by decide +kernel)
set_option maxRecDepth 100000 in
set_option maxHeartbeats 4000000 in
theorem f_m_takesNumbers_2_ok {P : List Nat} {o : rx_St} : ∀ (n : Nat) (v1 : Int32) (σ : rx_St), f_m_takesNumbers_2 n v1 σ = some o → rx_AtP none 209 2 [(0, .ref 87), (1, .int v1)] [] (rx_D P σ) (none, rx_D P o) := by
  intro n
  induction n with
  | zero => intro _ _ h; cases h
  | succ n ih =>
  intro v1 σ h
  refine rx_walk [2] 2000 (by decide) rx_e209 ?_
  rw [f_m_takesNumbers_2] at h
  refine rr_if h (fun c5 h => ?_) (fun c5 h => ?_)
  · skip
    cases h
    exact And.intro (rfl) rfl
  · skip
    refine rr_g h (fun c18 h => ?_)
    refine rr_g h (fun c19 h => ?_)
    exact rx_sub (ih _ _ h) [1, 0] rfl
set_option maxRecDepth 100000 in
set_option maxHeartbeats 4000000 in
theorem f_m_takesNumbers_ok {P : List Nat} {σ : rx_St} : ∀ o, f_m_takesNumbers σ = some o → rx_OK 209 [.ref 87] 162 [] P σ (none, rx_D P o) := by
  intro o h
  refine rx_OK_of (by decide) (Nat.le_of_ble_eq_true rfl) ?_
  refine rx_walk [2] 2000 (by decide) rx_e209 ?_
  unfold f_m_takesNumbers at h
  exact rx_sub (f_m_takesNumbers_2_ok rx_fu _ _ h) [1, 0] rfl
set_option maxRecDepth 100000 in
theorem rx_e210 : rx_Ext none 210 := rx_Ext_plain (by decide +kernel)
set_option maxRecDepth 100000 in
set_option maxHeartbeats 4000000 in
theorem f_m_sumOf_77_ok {P : List Nat} {o : Int32} {k5 : Int32 → Int32 → Int32 → Int32 → rx_St → Option (Int32)} (hk5 : ∀ (v1 : Int32) (v2 : Int32) (v3 : Int32) (v4 : Int32) (σ : rx_St), k5 v1 v2 v3 v4 σ = some o → rx_AtP none 210 5 [(0, .ref 87), (1, .int v1), (2, .int v2), (3, .int v3), (4, .int v4)] [] (rx_D P σ) (some (.int o), rx_D P σ)) : ∀ (v1 : Int32) (v2 : Int32) (v3 : Int32) (v4 : Int32) (σ : rx_St), f_m_sumOf_77 k5 v1 v2 v3 v4 σ = some o → rx_AtP none 210 77 [(0, .ref 87), (1, .int v1), (2, .int v2), (3, .int v3), (4, .int v4)] [] (rx_D P σ) (some (.int o), rx_D P σ) := by
  intro v1 v2 v3 v4 σ h
  refine rx_walk [5, 77] 2000 (by decide) rx_e210 ?_
  unfold f_m_sumOf_77 at h
  exact rx_sub (hk5 _ _ _ _ _ h) [1, 2, 3, 4, 0] rfl
set_option maxRecDepth 100000 in
set_option maxHeartbeats 4000000 in
theorem f_m_sumOf_5_ok {P : List Nat} {o : Int32} : ∀ (n : Nat) (v1 : Int32) (v2 : Int32) (v3 : Int32) (v4 : Int32) (σ : rx_St), f_m_sumOf_5 n v1 v2 v3 v4 σ = some o → rx_AtP none 210 5 [(0, .ref 87), (1, .int v1), (2, .int v2), (3, .int v3), (4, .int v4)] [] (rx_D P σ) (some (.int o), rx_D P σ) := by
  intro n
  induction n with
  | zero => intro _ _ _ _ _ h; cases h
  | succ n ih =>
  intro v1 v2 v3 v4 σ h
  refine rx_walk [5, 77] 2000 (by decide) rx_e210 ?_
  rw [f_m_sumOf_5] at h
  refine rr_if h (fun c11 h => ?_) (fun c11 h => ?_)
  · skip
    cases h
    exact And.intro (trivial) rfl
  · skip
    refine rr_g h (fun c20 h => ?_)
    refine rr_if h (fun c21 h => ?_) (fun c21 h => ?_)
    · skip
      refine rr_g h (fun c30 h => ?_)
      refine rr_if h (fun c32 h => ?_) (fun c32 h => ?_)
      · skip
        refine rr_g h (fun c41 h => ?_)
        refine rr_g h (fun c50 h => ?_)
        refine rr_if h (fun c51 h => ?_) (fun c51 h => ?_)
        · skip
          refine rr_g h (fun c66 h => ?_)
          refine rr_g h (fun c73 h => ?_)
          exact rx_sub (f_m_sumOf_77_ok ih _ _ _ _ _ h) [1, 2, 3, 0, 4] rfl
        · skip
          exact rx_sub (f_m_sumOf_77_ok ih _ _ _ _ _ h) [0, 1, 2, 3, 4] rfl
      · skip
        exact rx_sub (f_m_sumOf_77_ok ih _ _ _ _ _ h) [0, 1, 2, 3, 4] rfl
    · skip
      exact rx_sub (f_m_sumOf_77_ok ih _ _ _ _ _ h) [0, 1, 2, 3, 4] rfl
set_option maxRecDepth 100000 in
set_option maxHeartbeats 4000000 in
theorem f_m_sumOf_ok {P : List Nat} {a0 : Int32} {a1 : Int32} {σ : rx_St} : ∀ o, f_m_sumOf a0 a1 σ = some o → rx_OK 210 [.ref 87, .int a0, .int a1] 162 [] P σ (some (.int o), rx_D P σ) := by
  intro o h
  refine rx_OK_of (by decide) (Nat.le_of_ble_eq_true rfl) ?_
  refine rx_walk [5, 77] 2000 (by decide) rx_e210 ?_
  unfold f_m_sumOf at h
  exact rx_sub (f_m_sumOf_5_ok rx_fu _ _ _ _ _ h) [2, 3, 4, 1, 0] rfl
set_option maxRecDepth 100000 in
theorem rx_e211 : rx_Ext none 211 := rx_Ext_plain (by decide +kernel)
set_option maxRecDepth 100000 in
set_option maxHeartbeats 4000000 in
theorem f_m_manyOf_66_ok {P : List Nat} {o : Int32} {k4 : Int32 → Int32 → Int32 → rx_St → Option (Int32)} (hk4 : ∀ (v1 : Int32) (v2 : Int32) (v3 : Int32) (σ : rx_St), k4 v1 v2 v3 σ = some o → rx_AtP none 211 4 [(0, .ref 87), (1, .int v1), (2, .int v2), (3, .int v3)] [] (rx_D P σ) (some (.int o), rx_D P σ)) : ∀ (v1 : Int32) (v2 : Int32) (v3 : Int32) (σ : rx_St), f_m_manyOf_66 k4 v1 v2 v3 σ = some o → rx_AtP none 211 66 [(0, .ref 87), (1, .int v1), (2, .int v2), (3, .int v3)] [] (rx_D P σ) (some (.int o), rx_D P σ) := by
  intro v1 v2 v3 σ h
  refine rx_walk [4, 57, 66] 2000 (by decide) rx_e211 ?_
  unfold f_m_manyOf_66 at h
  exact rx_sub (hk4 _ _ _ _ h) [1, 2, 3, 0] rfl
set_option maxRecDepth 100000 in
set_option maxHeartbeats 4000000 in
theorem f_m_manyOf_57_ok {P : List Nat} {o : Int32} {k4 : Int32 → Int32 → Int32 → rx_St → Option (Int32)} (hk4 : ∀ (v1 : Int32) (v2 : Int32) (v3 : Int32) (σ : rx_St), k4 v1 v2 v3 σ = some o → rx_AtP none 211 4 [(0, .ref 87), (1, .int v1), (2, .int v2), (3, .int v3)] [] (rx_D P σ) (some (.int o), rx_D P σ)) : ∀ (v1 : Int32) (v2 : Int32) (v3 : Int32) (σ : rx_St), f_m_manyOf_57 k4 v1 v2 v3 σ = some o → rx_AtP none 211 57 [(0, .ref 87), (1, .int v1), (2, .int v2), (3, .int v3)] [] (rx_D P σ) (some (.int o), rx_D P σ) := by
  intro v1 v2 v3 σ h
  refine rx_walk [4, 57, 66] 2000 (by decide) rx_e211 ?_
  unfold f_m_manyOf_57 at h
  refine rr_g h (fun c63 h => ?_)
  exact rx_sub (f_m_manyOf_66_ok hk4 _ _ _ _ h) [1, 2, 0, 3] rfl
set_option maxRecDepth 100000 in
set_option maxHeartbeats 4000000 in
theorem f_m_manyOf_4_ok {P : List Nat} {o : Int32} : ∀ (n : Nat) (v1 : Int32) (v2 : Int32) (v3 : Int32) (σ : rx_St), f_m_manyOf_4 n v1 v2 v3 σ = some o → rx_AtP none 211 4 [(0, .ref 87), (1, .int v1), (2, .int v2), (3, .int v3)] [] (rx_D P σ) (some (.int o), rx_D P σ) := by
  intro n
  induction n with
  | zero => intro _ _ _ _ h; cases h
  | succ n ih =>
  intro v1 v2 v3 σ h
  refine rx_walk [4, 57, 66] 2000 (by decide) rx_e211 ?_
  rw [f_m_manyOf_4] at h
  refine rr_if h (fun c9 h => ?_) (fun c9 h => ?_)
  · skip
    cases h
    exact And.intro (trivial) rfl
  · skip
    refine rr_g h (fun c17 h => ?_)
    refine rr_if h (fun c18 h => ?_) (fun c18 h => ?_)
    · skip
      refine rr_if h (fun c23 h => ?_) (fun c23 h => ?_)
      · skip
        refine rr_g h (fun c31 h => ?_)
        refine rr_g h (fun c40 h => ?_)
        refine rr_if h (fun c41 h => ?_) (fun c41 h => ?_)
        · skip
          exact rx_sub (f_m_manyOf_57_ok ih _ _ _ _ h) [0, 1, 2, 3] rfl
        · skip
          exact rx_sub (f_m_manyOf_66_ok ih _ _ _ _ h) [0, 1, 2, 3] rfl
      · skip
        refine rr_g h (fun c52 h => ?_)
        refine rr_if h (fun c54 h => ?_) (fun c54 h => ?_)
        · skip
          exact rx_sub (f_m_manyOf_57_ok ih _ _ _ _ h) [0, 1, 2, 3] rfl
        · skip
          exact rx_sub (f_m_manyOf_66_ok ih _ _ _ _ h) [0, 1, 2, 3] rfl
    · skip
      exact rx_sub (f_m_manyOf_66_ok ih _ _ _ _ h) [0, 1, 2, 3] rfl
set_option maxRecDepth 100000 in
set_option maxHeartbeats 4000000 in
theorem f_m_manyOf_ok {P : List Nat} {a0 : Int32} {σ : rx_St} : ∀ o, f_m_manyOf a0 σ = some o → rx_OK 211 [.ref 87, .int a0] 162 [] P σ (some (.int o), rx_D P σ) := by
  intro o h
  refine rx_OK_of (by decide) (Nat.le_of_ble_eq_true rfl) ?_
  refine rx_walk [4, 57, 66] 2000 (by decide) rx_e211 ?_
  unfold f_m_manyOf at h
  exact rx_sub (f_m_manyOf_4_ok rx_fu _ _ _ _ h) [2, 3, 1, 0] rfl
set_option maxRecDepth 100000 in
theorem rx_e214 : rx_Ext none 214 := rx_Ext_plain (by decide +kernel)
set_option maxRecDepth 100000 in
set_option maxHeartbeats 4000000 in
theorem f_m_nextLot_ok {P : List Nat} {a0 : Int32} {σ : rx_St} : ∀ o, f_m_nextLot a0 σ = some o → rx_OK 214 [.ref 87, .int a0] 162 [] P σ (some (.int o.1), rx_D P o.2) := by
  intro o h
  refine rx_OK_of (by decide) (Nat.le_of_ble_eq_true rfl) ?_
  refine rx_walk [] 2000 (by decide) rx_e214 ?_
  unfold f_m_nextLot at h
  refine rr_callP h (fun y hy => f_m_lotOf_ok _ hy) (fun y1 hy1 h => ?_)
  cases h
  exact And.intro (trivial) rfl
set_option maxRecDepth 100000 in
theorem rx_e213 : rx_Ext none 213 := rx_Ext_plain (by decide +kernel)
set_option maxRecDepth 100000 in
set_option maxHeartbeats 4000000 in
theorem f_m_leafOf_ok {P : List Nat} {a0 : Int32} {σ : rx_St} : ∀ o, f_m_leafOf a0 σ = some o → rx_OK 213 [.ref 87, .int a0] 162 [] P σ (some (.int o.1), rx_D P o.2) := by
  intro o h
  refine rx_OK_of (by decide) (Nat.le_of_ble_eq_true rfl) ?_
  refine rx_walk [] 2000 (by decide) rx_e213 ?_
  unfold f_m_leafOf at h
  refine rr_g h (fun c5 h => ?_)
  refine rr_if h (fun c6_0 h => ?_) (fun c6_0 h => ?_)
  · skip
    refine rr_g h (fun c57 h => ?_)
    cases h
    exact And.intro (trivial) rfl
  · skip
    refine rr_if h (fun c6_1 h => ?_) (fun c6_1 h => ?_)
    · skip
      refine rr_g h (fun c75 h => ?_)
      refine rr_g h (fun c77 h => ?_)
      cases h
      exact And.intro (trivial) rfl
    · skip
      refine rr_if h (fun c6_2 h => ?_) (fun c6_2 h => ?_)
      · skip
        refine rr_g h (fun c88 h => ?_)
        refine rr_g h (fun c89 h => ?_)
        cases h
        exact And.intro (trivial) rfl
      · skip
        refine rr_if h (fun c6_3 h => ?_) (fun c6_3 h => ?_)
        · skip
          cases h
          exact And.intro (trivial) rfl
        · skip
          refine rr_if h (fun c6_4 h => ?_) (fun c6_4 h => ?_)
          · skip
            refine rr_callP h (fun y hy => f_m_manyOf_ok _ hy) (fun y4 hy4 h => ?_)
            cases h
            exact And.intro (trivial) rfl
          · skip
            refine rr_if h (fun c6_5 h => ?_) (fun c6_5 h => ?_)
            · skip
              refine rr_g h (fun c110 h => ?_)
              cases h
              exact And.intro (trivial) rfl
            · skip
              refine rr_if h (fun c6_6 h => ?_) (fun c6_6 h => ?_)
              · skip
                refine rr_g h (fun c118 h => ?_)
                refine rr_callS h (fun y hy => f_m_nextLot_ok _ hy) (fun y3 hy3 h => ?_)
                cases h
                exact And.intro (trivial) rfl
              · skip
                refine rr_if h (fun c6_7 h => ?_) (fun c6_7 h => ?_)
                · skip
                  refine rr_g h (fun c129 h => ?_)
                  refine rr_g h (fun c135 h => ?_)
                  refine rr_callP h (fun y hy => f_m_sumOf_ok _ hy) (fun y2 hy2 h => ?_)
                  cases h
                  exact And.intro (trivial) rfl
                · skip
                  refine rr_g h (fun c146 h => ?_)
                  refine rr_callP h (fun y hy => f_m_manyOf_ok _ hy) (fun y1 hy1 h => ?_)
                  cases h
                  exact And.intro (trivial) rfl
set_option maxRecDepth 100000 in
theorem rx_e212 : rx_Ext none 212 := rx_Ext_plain (by decide +kernel)
set_option maxRecDepth 100000 in
set_option maxHeartbeats 4000000 in
theorem f_m_termOf_155_ok {P : List Nat} {o : Int32 × rx_St} {k10 : Int32 → Int32 → Int32 → rx_St → Option (Int32 × rx_St)} (hk10 : ∀ (v2 : Int32) (v3 : Int32) (v4 : Int32) (σ : rx_St), k10 v2 v3 v4 σ = some o → rx_AtP none 212 10 [(0, .ref 87), (2, .int v2), (3, .int v3), (4, .int v4)] [] (rx_D P σ) (some (.int o.1), rx_D P o.2)) : ∀ (v2 : Int32) (v3 : Int32) (v4 : Int32) (σ : rx_St), f_m_termOf_155 k10 v2 v3 v4 σ = some o → rx_AtP none 212 155 [(0, .ref 87), (2, .int v2), (3, .int v3), (4, .int v4)] [] (rx_D P σ) (some (.int o.1), rx_D P o.2) := by
  intro v2 v3 v4 σ h
  refine rx_walk [10, 88, 154, 155] 2000 (by decide) rx_e212 ?_
  unfold f_m_termOf_155 at h
  exact rx_sub (hk10 _ _ _ _ h) [1, 2, 3, 0] rfl
set_option maxRecDepth 100000 in
set_option maxHeartbeats 4000000 in
theorem f_m_termOf_154_ok {P : List Nat} {o : Int32 × rx_St} {k10 : Int32 → Int32 → Int32 → rx_St → Option (Int32 × rx_St)} (hk10 : ∀ (v2 : Int32) (v3 : Int32) (v4 : Int32) (σ : rx_St), k10 v2 v3 v4 σ = some o → rx_AtP none 212 10 [(0, .ref 87), (2, .int v2), (3, .int v3), (4, .int v4)] [] (rx_D P σ) (some (.int o.1), rx_D P o.2)) : ∀ (v2 : Int32) (v3 : Int32) (v4 : Int32) (s1 : Int32) (s2 : Int32) (σ : rx_St), f_m_termOf_154 k10 v2 v3 v4 s1 s2 σ = some o → rx_AtP none 212 154 [(0, .ref 87), (2, .int v2), (3, .int v3), (4, .int v4)] [.int s2, .int s1, .ref 146] (rx_D P σ) (some (.int o.1), rx_D P o.2) := by
  intro v2 v3 v4 s1 s2 σ h
  refine rx_walk [10, 88, 154, 155] 2000 (by decide) rx_e212 ?_
  unfold f_m_termOf_154 at h
  refine rr_g h (fun c154 h => ?_)
  exact rx_sub (f_m_termOf_155_ok hk10 _ _ _ _ h) [0, 1, 2, 3] rfl
set_option maxRecDepth 100000 in
set_option maxHeartbeats 4000000 in
theorem f_m_termOf_88_ok {P : List Nat} {o : Int32 × rx_St} {k10 : Int32 → Int32 → Int32 → rx_St → Option (Int32 × rx_St)} (hk10 : ∀ (v2 : Int32) (v3 : Int32) (v4 : Int32) (σ : rx_St), k10 v2 v3 v4 σ = some o → rx_AtP none 212 10 [(0, .ref 87), (2, .int v2), (3, .int v3), (4, .int v4)] [] (rx_D P σ) (some (.int o.1), rx_D P o.2)) : ∀ (v2 : Int32) (v3 : Int32) (v4 : Int32) (v5 : Int32) (v6 : Int32) (v7 : Int32) (σ : rx_St), f_m_termOf_88 k10 v2 v3 v4 v5 v6 v7 σ = some o → rx_AtP none 212 88 [(0, .ref 87), (2, .int v2), (3, .int v3), (4, .int v4), (5, .int v5), (6, .int v6), (7, .int v7)] [] (rx_D P σ) (some (.int o.1), rx_D P o.2) := by
  intro v2 v3 v4 v5 v6 v7 σ h
  refine rx_walk [10, 88, 154, 155] 2000 (by decide) rx_e212 ?_
  unfold f_m_termOf_88 at h
  refine rr_if h (fun c99 h => ?_) (fun c99 h => ?_)
  · skip
    exact rx_sub (f_m_termOf_154_ok hk10 _ _ _ _ _ _ h) [0, 1, 2, 3] rfl
  · skip
    refine rr_if h (fun c114 h => ?_) (fun c114 h => ?_)
    · skip
      exact rx_sub (f_m_termOf_154_ok hk10 _ _ _ _ _ _ h) [0, 1, 2, 3] rfl
    · skip
      refine rr_if h (fun c129 h => ?_) (fun c129 h => ?_)
      · skip
        exact rx_sub (f_m_termOf_154_ok hk10 _ _ _ _ _ _ h) [0, 1, 2, 3] rfl
      · skip
        refine rr_if h (fun c142 h => ?_) (fun c142 h => ?_)
        · skip
          exact rx_sub (f_m_termOf_154_ok hk10 _ _ _ _ _ _ h) [0, 1, 2, 3] rfl
        · skip
          refine rr_c h (fun c153 h => ?_)
          exact rx_sub (f_m_termOf_154_ok hk10 _ _ _ _ _ _ h) [0, 1, 2, 3] rfl
set_option maxRecDepth 100000 in
set_option maxHeartbeats 4000000 in
theorem f_m_termOf_10_ok {P : List Nat} {o : Int32 × rx_St} : ∀ (n : Nat) (v2 : Int32) (v3 : Int32) (v4 : Int32) (σ : rx_St), f_m_termOf_10 n v2 v3 v4 σ = some o → rx_AtP none 212 10 [(0, .ref 87), (2, .int v2), (3, .int v3), (4, .int v4)] [] (rx_D P σ) (some (.int o.1), rx_D P o.2) := by
  intro n
  induction n with
  | zero => intro _ _ _ _ h; cases h
  | succ n ih =>
  intro v2 v3 v4 σ h
  refine rx_walk [10, 88, 154, 155] 2000 (by decide) rx_e212 ?_
  rw [f_m_termOf_10] at h
  refine rr_if h (fun c13 h => ?_) (fun c13 h => ?_)
  · skip
    refine rr_if h (fun c165 h => ?_) (fun c165 h => ?_)
    · skip
      refine rr_ck ((show ¬ ((0 : Int32) < 0 ∨ 500 ≤ ((0 : Int32)).toNatClampNeg) by decide)) ?_
      cases h
      exact And.intro (trivial) rfl
    · skip
      cases h
      exact And.intro (trivial) rfl
  · skip
    refine rr_g h (fun c22 h => ?_)
    refine rr_if h (fun c29 h => ?_) (fun c29 h => ?_)
    · skip
      refine rr_g h (fun c60 h => ?_)
      refine rr_g h (fun c68 h => ?_)
      refine rr_if h (fun c75 h => ?_) (fun c75 h => ?_)
      · skip
        refine rr_if h (fun c80 h => ?_) (fun c80 h => ?_)
        · skip
          refine rr_ck (Or.inr rfl) ?_
          exact rx_sub (f_m_termOf_88_ok ih _ _ _ _ _ _ _ h) [4, 5, 2, 6, 3, 1, 0] rfl
        · skip
          exact rx_sub (f_m_termOf_88_ok ih _ _ _ _ _ _ _ h) [4, 5, 2, 6, 3, 1, 0] rfl
      · skip
        exact rx_sub (f_m_termOf_88_ok ih _ _ _ _ _ _ _ h) [4, 5, 2, 6, 3, 1, 0] rfl
    · skip
      refine rr_callS h (fun y hy => f_m_leafOf_ok _ hy) (fun y4 hy4 h => ?_)
      refine rr_g h (fun c43 h => ?_)
      exact rx_sub (f_m_termOf_155_ok ih _ _ _ _ h) [2, 3, 0, 4] rfl
set_option maxRecDepth 100000 in
set_option maxHeartbeats 4000000 in
theorem f_m_termOf_ok {P : List Nat} {a0 : Int32} {a1 : Int32} {σ : rx_St} : ∀ o, f_m_termOf a0 a1 σ = some o → rx_OK 212 [.ref 87, .int a0, .int a1] 162 [] P σ (some (.int o.1), rx_D P o.2) := by
  intro o h
  refine rx_OK_of (by decide) (Nat.le_of_ble_eq_true rfl) ?_
  refine rx_walk [10, 88, 154, 155] 2000 (by decide) rx_e212 ?_
  unfold f_m_termOf at h
  refine rr_ck (Or.inl rfl) ?_
  exact rx_sub (f_m_termOf_10_ok rx_fu _ _ _ _ h) [2, 4, 1, 0] rfl
set_option maxRecDepth 100000 in
theorem rx_e215 : rx_Ext none 215 := rx_Ext_plain (by decide +kernel)
set_option maxRecDepth 100000 in
set_option maxHeartbeats 4000000 in
theorem f_m_isTrue_155_ok {P : List Nat} {o : Int32 × rx_St} : ∀ (v1 : Int32) (s0 : Int32) (σ : rx_St), f_m_isTrue_155 v1 s0 σ = some o → rx_AtP none 215 155 [(0, .ref 87), (1, .int v1)] [.int s0] (rx_D P σ) (some (.int o.1), rx_D P o.2) := by
  intro v1 s0 σ h
  refine rx_walk [51, 56, 139, 154, 155] 2000 (by decide) rx_e215 ?_
  unfold f_m_isTrue_155 at h
  refine rr_g h (fun c160 h => ?_)
  refine rr_if h (fun c161 h => ?_) (fun c161 h => ?_)
  · skip
    cases h
    exact And.intro (Or.inl rfl) rfl
  · skip
    cases h
    exact And.intro (Or.inr rfl) rfl
set_option maxRecDepth 100000 in
set_option maxHeartbeats 4000000 in
theorem f_m_isTrue_154_ok {P : List Nat} {o : Int32 × rx_St} : ∀ (v1 : Int32) (σ : rx_St), f_m_isTrue_154 v1 σ = some o → rx_AtP none 215 154 [(0, .ref 87), (1, .int v1)] [] (rx_D P σ) (some (.int o.1), rx_D P o.2) := by
  intro v1 σ h
  refine rx_walk [51, 56, 139, 154, 155] 2000 (by decide) rx_e215 ?_
  unfold f_m_isTrue_154 at h
  exact rx_sub (f_m_isTrue_155_ok _ _ _ h) [0, 1] rfl
set_option maxRecDepth 100000 in
set_option maxHeartbeats 4000000 in
theorem f_m_isTrue_139_ok {P : List Nat} {o : Int32 × rx_St} : ∀ (v1 : Int32) (v3 : Int32) (s0 : Int32) (σ : rx_St), f_m_isTrue_139 v1 v3 s0 σ = some o → rx_AtP none 215 139 [(0, .ref 87), (1, .int v1), (3, .int v3)] [.int s0] (rx_D P σ) (some (.int o.1), rx_D P o.2) := by
  intro v1 v3 s0 σ h
  refine rx_walk [51, 56, 139, 154, 155] 2000 (by decide) rx_e215 ?_
  unfold f_m_isTrue_139 at h
  refine rr_if h (fun c143 h => ?_) (fun c143 h => ?_)
  · skip
    exact rx_sub (f_m_isTrue_154_ok _ _ h) [1, 2] rfl
  · skip
    refine rr_if h (fun c147 h => ?_) (fun c147 h => ?_)
    · skip
      exact rx_sub (f_m_isTrue_155_ok _ _ _ h) [1, 2] rfl
    · skip
      exact rx_sub (f_m_isTrue_154_ok _ _ h) [1, 2] rfl
set_option maxRecDepth 100000 in
set_option maxHeartbeats 4000000 in
theorem f_m_isTrue_56_ok {P : List Nat} {o : Int32 × rx_St} : ∀ (v1 : Int32) (v2 : Int32) (v4 : Int32) (s0 : Int32) (σ : rx_St), f_m_isTrue_56 v1 v2 v4 s0 σ = some o → rx_AtP none 215 56 [(0, .ref 87), (1, .int v1), (2, .int v2), (4, .int v4)] [.int s0] (rx_D P σ) (some (.int o.1), rx_D P o.2) := by
  intro v1 v2 v4 s0 σ h
  refine rx_walk [51, 56, 139, 154, 155] 2000 (by decide) rx_e215 ?_
  unfold f_m_isTrue_56 at h
  refine rr_g h (fun c62 h => ?_)
  refine rr_if h (fun c63 h => ?_) (fun c63 h => ?_)
  · skip
    refine rr_if h (fun c69 h => ?_) (fun c69 h => ?_)
    · skip
      exact rx_sub (f_m_isTrue_139_ok _ _ _ _ h) [1, 2, 0] rfl
    · skip
      exact rx_sub (f_m_isTrue_139_ok _ _ _ _ h) [1, 2, 0] rfl
  · skip
    refine rr_g h (fun c85 h => ?_)
    refine rr_if h (fun c87 h => ?_) (fun c87 h => ?_)
    · skip
      refine rr_if h (fun c93 h => ?_) (fun c93 h => ?_)
      · skip
        exact rx_sub (f_m_isTrue_139_ok _ _ _ _ h) [1, 2, 0] rfl
      · skip
        exact rx_sub (f_m_isTrue_139_ok _ _ _ _ h) [1, 2, 0] rfl
    · skip
      refine rr_g h (fun c109 h => ?_)
      refine rr_if h (fun c111 h => ?_) (fun c111 h => ?_)
      · skip
        refine rr_if h (fun c117 h => ?_) (fun c117 h => ?_)
        · skip
          exact rx_sub (f_m_isTrue_139_ok _ _ _ _ h) [1, 2, 0] rfl
        · skip
          exact rx_sub (f_m_isTrue_139_ok _ _ _ _ h) [1, 2, 0] rfl
      · skip
        refine rr_if h (fun c131 h => ?_) (fun c131 h => ?_)
        · skip
          exact rx_sub (f_m_isTrue_139_ok _ _ _ _ h) [1, 2, 0] rfl
        · skip
          exact rx_sub (f_m_isTrue_139_ok _ _ _ _ h) [1, 2, 0] rfl
set_option maxRecDepth 100000 in
set_option maxHeartbeats 4000000 in
theorem f_m_isTrue_51_ok {P : List Nat} {o : Int32 × rx_St} : ∀ (v1 : Int32) (v2 : Int32) (v4 : Int32) (σ : rx_St), f_m_isTrue_51 v1 v2 v4 σ = some o → rx_AtP none 215 51 [(0, .ref 87), (1, .int v1), (2, .int v2), (4, .int v4)] [] (rx_D P σ) (some (.int o.1), rx_D P o.2) := by
  intro v1 v2 v4 σ h
  refine rx_walk [51, 56, 139, 154, 155] 2000 (by decide) rx_e215 ?_
  unfold f_m_isTrue_51 at h
  exact rx_sub (f_m_isTrue_56_ok _ _ _ _ _ h) [0, 1, 2, 3] rfl
set_option maxRecDepth 100000 in
set_option maxHeartbeats 4000000 in
theorem f_m_isTrue_ok {P : List Nat} {a0 : Int32} {σ : rx_St} : ∀ o, f_m_isTrue a0 σ = some o → rx_OK 215 [.ref 87, .int a0] 162 [] P σ (some (.int o.1), rx_D P o.2) := by
  intro o h
  refine rx_OK_of (by decide) (Nat.le_of_ble_eq_true rfl) ?_
  refine rx_walk [51, 56, 139, 154, 155] 2000 (by decide) rx_e215 ?_
  unfold f_m_isTrue at h
  refine rr_g h (fun c6 h => ?_)
  refine rr_g h (fun c12 h => ?_)
  refine rr_callS h (fun y hy => f_m_termOf_ok _ hy) (fun y1 hy1 h => ?_)
  refine rr_g h (fun c28 h => ?_)
  refine rr_g h (fun c34 h => ?_)
  refine rr_callS h (fun y hy => f_m_termOf_ok _ hy) (fun y2 hy2 h => ?_)
  refine rr_if h (fun c41 h => ?_) (fun c41 h => ?_)
  · skip
    refine rr_if h (fun c48 h => ?_) (fun c48 h => ?_)
    · skip
      exact rx_sub (f_m_isTrue_56_ok _ _ _ _ _ h) [3, 4, 2, 0] rfl
    · skip
      exact rx_sub (f_m_isTrue_51_ok _ _ _ _ h) [3, 4, 2, 0] rfl
  · skip
    exact rx_sub (f_m_isTrue_51_ok _ _ _ _ h) [3, 4, 2, 0] rfl
set_option maxRecDepth 100000 in
theorem rx_e216 : rx_Ext none 216 := rx_Ext_plain (by decide +kernel)
set_option maxRecDepth 100000 in
set_option maxHeartbeats 4000000 in
theorem f_m_holds_79_ok {P : List Nat} {o : Int32 × rx_St} {k26 : Int32 → Int32 → Int32 → rx_St → Option (Int32 × rx_St)} (hk26 : ∀ (v1 : Int32) (v2 : Int32) (v3 : Int32) (σ : rx_St), k26 v1 v2 v3 σ = some o → rx_AtP none 216 26 [(0, .ref 87), (1, .int v1), (2, .int v2), (3, .int v3)] [] (rx_D P σ) (some (.int o.1), rx_D P o.2)) : ∀ (v1 : Int32) (v3 : Int32) (s0 : Int32) (σ : rx_St), f_m_holds_79 k26 v1 v3 s0 σ = some o → rx_AtP none 216 79 [(0, .ref 87), (1, .int v1), (3, .int v3)] [.int s0] (rx_D P σ) (some (.int o.1), rx_D P o.2) := by
  intro v1 v3 s0 σ h
  refine rx_walk [26, 51, 62, 78, 79] 2000 (by decide) rx_e216 ?_
  unfold f_m_holds_79 at h
  exact rx_sub (hk26 _ _ _ _ h) [2, 3, 1, 0] rfl
set_option maxRecDepth 100000 in
set_option maxHeartbeats 4000000 in
theorem f_m_holds_78_ok {P : List Nat} {o : Int32 × rx_St} {k26 : Int32 → Int32 → Int32 → rx_St → Option (Int32 × rx_St)} (hk26 : ∀ (v1 : Int32) (v2 : Int32) (v3 : Int32) (σ : rx_St), k26 v1 v2 v3 σ = some o → rx_AtP none 216 26 [(0, .ref 87), (1, .int v1), (2, .int v2), (3, .int v3)] [] (rx_D P σ) (some (.int o.1), rx_D P o.2)) : ∀ (v1 : Int32) (v3 : Int32) (σ : rx_St), f_m_holds_78 k26 v1 v3 σ = some o → rx_AtP none 216 78 [(0, .ref 87), (1, .int v1), (3, .int v3)] [] (rx_D P σ) (some (.int o.1), rx_D P o.2) := by
  intro v1 v3 σ h
  refine rx_walk [26, 51, 62, 78, 79] 2000 (by decide) rx_e216 ?_
  unfold f_m_holds_78 at h
  exact rx_sub (f_m_holds_79_ok hk26 _ _ _ _ h) [0, 1, 2] rfl
set_option maxRecDepth 100000 in
set_option maxHeartbeats 4000000 in
theorem f_m_holds_62_ok {P : List Nat} {o : Int32 × rx_St} {k26 : Int32 → Int32 → Int32 → rx_St → Option (Int32 × rx_St)} (hk26 : ∀ (v1 : Int32) (v2 : Int32) (v3 : Int32) (σ : rx_St), k26 v1 v2 v3 σ = some o → rx_AtP none 216 26 [(0, .ref 87), (1, .int v1), (2, .int v2), (3, .int v3)] [] (rx_D P σ) (some (.int o.1), rx_D P o.2)) : ∀ (v1 : Int32) (v2 : Int32) (v3 : Int32) (σ : rx_St), f_m_holds_62 k26 v1 v2 v3 σ = some o → rx_AtP none 216 62 [(0, .ref 87), (1, .int v1), (2, .int v2), (3, .int v3)] [] (rx_D P σ) (some (.int o.1), rx_D P o.2) := by
  intro v1 v2 v3 σ h
  refine rx_walk [26, 51, 62, 78, 79] 2000 (by decide) rx_e216 ?_
  unfold f_m_holds_62 at h
  refine rr_if h (fun c63 h => ?_) (fun c63 h => ?_)
  · skip
    exact rx_sub (f_m_holds_78_ok hk26 _ _ _ h) [0, 1, 3] rfl
  · skip
    refine rr_callS h (fun y hy => f_m_isTrue_ok _ hy) (fun y1 hy1 h => ?_)
    refine rr_if h (fun c71 h => ?_) (fun c71 h => ?_)
    · skip
      exact rx_sub (f_m_holds_78_ok hk26 _ _ _ h) [0, 1, 3] rfl
    · skip
      exact rx_sub (f_m_holds_79_ok hk26 _ _ _ _ h) [0, 1, 3] rfl
set_option maxRecDepth 100000 in
set_option maxHeartbeats 4000000 in
theorem f_m_holds_51_ok {P : List Nat} {o : Int32 × rx_St} {k26 : Int32 → Int32 → Int32 → rx_St → Option (Int32 × rx_St)} (hk26 : ∀ (v1 : Int32) (v2 : Int32) (v3 : Int32) (σ : rx_St), k26 v1 v2 v3 σ = some o → rx_AtP none 216 26 [(0, .ref 87), (1, .int v1), (2, .int v2), (3, .int v3)] [] (rx_D P σ) (some (.int o.1), rx_D P o.2)) : ∀ (v1 : Int32) (v2 : Int32) (v3 : Int32) (σ : rx_St), f_m_holds_51 k26 v1 v2 v3 σ = some o → rx_AtP none 216 51 [(0, .ref 87), (1, .int v1), (2, .int v2), (3, .int v3)] [] (rx_D P σ) (some (.int o.1), rx_D P o.2) := by
  intro v1 v2 v3 σ h
  refine rx_walk [26, 51, 62, 78, 79] 2000 (by decide) rx_e216 ?_
  unfold f_m_holds_51 at h
  refine rr_g h (fun c56 h => ?_)
  refine rr_if h (fun c57 h => ?_) (fun c57 h => ?_)
  · skip
    exact rx_sub (f_m_holds_62_ok hk26 _ _ _ _ h) [0, 1, 2, 3] rfl
  · skip
    exact rx_sub (f_m_holds_62_ok hk26 _ _ _ _ h) [1, 2, 0, 3] rfl
set_option maxRecDepth 100000 in
set_option maxHeartbeats 4000000 in
theorem f_m_holds_26_ok {P : List Nat} {o : Int32 × rx_St} : ∀ (n : Nat) (v1 : Int32) (v2 : Int32) (v3 : Int32) (σ : rx_St), f_m_holds_26 n v1 v2 v3 σ = some o → rx_AtP none 216 26 [(0, .ref 87), (1, .int v1), (2, .int v2), (3, .int v3)] [] (rx_D P σ) (some (.int o.1), rx_D P o.2) := by
  intro n
  induction n with
  | zero => intro _ _ _ _ h; cases h
  | succ n ih =>
  intro v1 v2 v3 σ h
  refine rx_walk [26, 51, 62, 78, 79] 2000 (by decide) rx_e216 ?_
  rw [f_m_holds_26] at h
  refine rr_g h (fun c32 h => ?_)
  refine rr_if h (fun c33 h => ?_) (fun c33 h => ?_)
  · skip
    obtain ⟨c, h⟩ := rr_cE h
    cases h
    exact And.intro c rfl
  · skip
    refine rr_g h (fun c41 h => ?_)
    refine rr_if h (fun c42 h => ?_) (fun c42 h => ?_)
    · skip
      exact rx_sub (f_m_holds_51_ok ih _ _ _ _ h) [0, 1, 2, 3] rfl
    · skip
      refine rr_if h (fun c46 h => ?_) (fun c46 h => ?_)
      · skip
        exact rx_sub (f_m_holds_51_ok ih _ _ _ _ h) [0, 1, 2, 3] rfl
      · skip
        cases h
        exact And.intro (Or.inr rfl) rfl
set_option maxRecDepth 100000 in
set_option maxHeartbeats 4000000 in
theorem f_m_holds_ok {P : List Nat} {a0 : Int32} {σ : rx_St} : ∀ o, f_m_holds a0 σ = some o → rx_OK 216 [.ref 87, .int a0] 162 [] P σ (some (.int o.1), rx_D P o.2) := by
  intro o h
  refine rx_OK_of (by decide) (Nat.le_of_ble_eq_true rfl) ?_
  refine rx_walk [26, 51, 62, 78, 79] 2000 (by decide) rx_e216 ?_
  unfold f_m_holds at h
  refine rr_g h (fun c5 h => ?_)
  refine rr_g h (fun c11 h => ?_)
  refine rr_if h (fun c12 h => ?_) (fun c12 h => ?_)
  · skip
    cases h
    exact And.intro (Or.inr rfl) rfl
  · skip
    refine rr_g h (fun c24 h => ?_)
    exact rx_sub (f_m_holds_26_ok rx_fu _ _ _ _ h) [2, 3, 1, 0] rfl
set_option maxRecDepth 100000 in
theorem rx_e217 : rx_Ext none 217 := rx_Ext_plain (by decide +kernel)
set_option maxRecDepth 100000 in
set_option maxHeartbeats 4000000 in
theorem f_m_isOther_ok {P : List Nat} {a0 : Int32} {a1 : Int32} {σ : rx_St} : ∀ o, f_m_isOther a0 a1 σ = some o → rx_OK 217 [.ref 87, .int a0, .int a1] 162 [] P σ (some (.int o), rx_D P σ) := by
  intro o h
  refine rx_OK_of (by decide) (Nat.le_of_ble_eq_true rfl) ?_
  refine rx_walk [] 2000 (by decide) rx_e217 ?_
  unfold f_m_isOther at h
  refine rr_if h (fun c5 h => ?_) (fun c5 h => ?_)
  · skip
    cases h
    exact And.intro (Or.inl rfl) rfl
  · skip
    refine rr_g h (fun c13 h => ?_)
    refine rr_if h (fun c14 h => ?_) (fun c14 h => ?_)
    · skip
      refine rr_g h (fun c22 h => ?_)
      refine rr_if h (fun c24 h => ?_) (fun c24 h => ?_)
      · skip
        refine rr_g h (fun c32 h => ?_)
        refine rr_g h (fun c41 h => ?_)
        refine rr_if h (fun c42 h => ?_) (fun c42 h => ?_)
        · skip
          cases h
          exact And.intro (Or.inr rfl) rfl
        · skip
          cases h
          exact And.intro (Or.inl rfl) rfl
      · skip
        cases h
        exact And.intro (Or.inl rfl) rfl
    · skip
      cases h
      exact And.intro (Or.inl rfl) rfl
set_option maxRecDepth 100000 in
theorem rx_e218 : rx_Ext none 218 := rx_Ext_plain (by decide +kernel)
set_option maxRecDepth 100000 in
set_option maxHeartbeats 4000000 in
theorem f_m_nearOf_2_ok {P : List Nat} {o : Int32} : ∀ (n : Nat) (v1 : Int32) (v2 : Int32) (σ : rx_St), f_m_nearOf_2 n v1 v2 σ = some o → rx_AtP none 218 2 [(0, .ref 87), (1, .int v1), (2, .int v2)] [] (rx_D P σ) (some (.int o), rx_D P σ) := by
  intro n
  induction n with
  | zero => intro _ _ _ h; cases h
  | succ n ih =>
  intro v1 v2 σ h
  refine rx_walk [2] 2000 (by decide) rx_e218 ?_
  rw [f_m_nearOf_2] at h
  refine rr_if h (fun c7 h => ?_) (fun c7 h => ?_)
  · skip
    cases h
    exact And.intro (trivial) rfl
  · skip
    refine rr_callP h (fun y hy => f_m_isOther_ok _ hy) (fun y1 hy1 h => ?_)
    refine rr_if h (fun c16 h => ?_) (fun c16 h => ?_)
    · skip
      exact rx_sub (ih _ _ _ h) [1, 2, 0] rfl
    · skip
      cases h
      exact And.intro (trivial) rfl
set_option maxRecDepth 100000 in
set_option maxHeartbeats 4000000 in
theorem f_m_nearOf_ok {P : List Nat} {a0 : Int32} {σ : rx_St} : ∀ o, f_m_nearOf a0 σ = some o → rx_OK 218 [.ref 87, .int a0] 162 [] P σ (some (.int o), rx_D P σ) := by
  intro o h
  refine rx_OK_of (by decide) (Nat.le_of_ble_eq_true rfl) ?_
  refine rx_walk [2] 2000 (by decide) rx_e218 ?_
  unfold f_m_nearOf at h
  exact rx_sub (f_m_nearOf_2_ok rx_fu _ _ _ h) [1, 2, 0] rfl
set_option maxRecDepth 100000 in
theorem rx_e219 : rx_Ext none 219 := rx_Ext_plain (by decide +kernel)
set_option maxRecDepth 100000 in
set_option maxHeartbeats 4000000 in
theorem f_m_pickOf_77_ok {P : List Nat} {o : Int32 × rx_St} {k45 : Int32 → Int32 → Int32 → rx_St → Option (Int32 × rx_St)} (hk45 : ∀ (v1 : Int32) (v3 : Int32) (v4 : Int32) (σ : rx_St), k45 v1 v3 v4 σ = some o → rx_AtP none 219 45 [(0, .ref 87), (1, .int v1), (3, .int v3), (4, .int v4)] [] (rx_D P σ) (some (.int o.1), rx_D P o.2)) : ∀ (v1 : Int32) (v3 : Int32) (v4 : Int32) (σ : rx_St), f_m_pickOf_77 k45 v1 v3 v4 σ = some o → rx_AtP none 219 77 [(0, .ref 87), (1, .int v1), (3, .int v3), (4, .int v4)] [] (rx_D P σ) (some (.int o.1), rx_D P o.2) := by
  intro v1 v3 v4 σ h
  refine rx_walk [4, 24, 45, 77] 2000 (by decide) rx_e219 ?_
  unfold f_m_pickOf_77 at h
  exact rx_sub (hk45 _ _ _ _ h) [1, 2, 3, 0] rfl
set_option maxRecDepth 100000 in
set_option maxHeartbeats 4000000 in
theorem f_m_pickOf_45_ok {P : List Nat} {o : Int32 × rx_St} : ∀ (n : Nat) (v1 : Int32) (v3 : Int32) (v4 : Int32) (σ : rx_St), f_m_pickOf_45 n v1 v3 v4 σ = some o → rx_AtP none 219 45 [(0, .ref 87), (1, .int v1), (3, .int v3), (4, .int v4)] [] (rx_D P σ) (some (.int o.1), rx_D P o.2) := by
  intro n
  induction n with
  | zero => intro _ _ _ _ h; cases h
  | succ n ih =>
  intro v1 v3 v4 σ h
  refine rx_walk [4, 24, 45, 77] 2000 (by decide) rx_e219 ?_
  rw [f_m_pickOf_45] at h
  refine rr_if h (fun c51 h => ?_) (fun c51 h => ?_)
  · skip
    cases h
    exact And.intro (trivial) rfl
  · skip
    refine rr_callP h (fun y hy => f_m_isOther_ok _ hy) (fun y1 hy1 h => ?_)
    refine rr_if h (fun c61 h => ?_) (fun c61 h => ?_)
    · skip
      exact rx_sub (f_m_pickOf_77_ok ih _ _ _ _ h) [0, 1, 2, 3] rfl
    · skip
      refine rr_if h (fun c68 h => ?_) (fun c68 h => ?_)
      · skip
        cases h
        exact And.intro (trivial) rfl
      · skip
        exact rx_sub (f_m_pickOf_77_ok ih _ _ _ _ h) [1, 2, 0, 3] rfl
set_option maxRecDepth 100000 in
set_option maxHeartbeats 4000000 in
theorem f_m_pickOf_24_ok {P : List Nat} {o : Int32 × rx_St} {k4 : Int32 → Int32 → Int32 → rx_St → Option (Int32 × rx_St)} (hk4 : ∀ (v1 : Int32) (v2 : Int32) (v3 : Int32) (σ : rx_St), k4 v1 v2 v3 σ = some o → rx_AtP none 219 4 [(0, .ref 87), (1, .int v1), (2, .int v2), (3, .int v3)] [] (rx_D P σ) (some (.int o.1), rx_D P o.2)) : ∀ (v1 : Int32) (v2 : Int32) (v3 : Int32) (σ : rx_St), f_m_pickOf_24 k4 v1 v2 v3 σ = some o → rx_AtP none 219 24 [(0, .ref 87), (1, .int v1), (2, .int v2), (3, .int v3)] [] (rx_D P σ) (some (.int o.1), rx_D P o.2) := by
  intro v1 v2 v3 σ h
  refine rx_walk [4, 24, 45, 77] 2000 (by decide) rx_e219 ?_
  unfold f_m_pickOf_24 at h
  exact rx_sub (hk4 _ _ _ _ h) [1, 2, 3, 0] rfl
set_option maxRecDepth 100000 in
set_option maxHeartbeats 4000000 in
theorem f_m_pickOf_4_ok {P : List Nat} {o : Int32 × rx_St} : ∀ (n : Nat) (v1 : Int32) (v2 : Int32) (v3 : Int32) (σ : rx_St), f_m_pickOf_4 n v1 v2 v3 σ = some o → rx_AtP none 219 4 [(0, .ref 87), (1, .int v1), (2, .int v2), (3, .int v3)] [] (rx_D P σ) (some (.int o.1), rx_D P o.2) := by
  intro n
  induction n with
  | zero => intro _ _ _ _ h; cases h
  | succ n ih =>
  intro v1 v2 v3 σ h
  refine rx_walk [4, 24, 45, 77] 2000 (by decide) rx_e219 ?_
  rw [f_m_pickOf_4] at h
  refine rr_if h (fun c9 h => ?_) (fun c9 h => ?_)
  · skip
    refine rr_if h (fun c31 h => ?_) (fun c31 h => ?_)
    · skip
      cases h
      exact And.intro (trivial) rfl
    · skip
      refine rr_callS h (fun y hy => f_m_nextLot_ok _ hy) (fun y1 hy1 h => ?_)
      exact rx_sub (f_m_pickOf_45_ok rx_fu _ _ _ _ h) [2, 3, 1, 0] rfl
  · skip
    refine rr_callP h (fun y hy => f_m_isOther_ok _ hy) (fun y2 hy2 h => ?_)
    refine rr_if h (fun c18 h => ?_) (fun c18 h => ?_)
    · skip
      exact rx_sub (f_m_pickOf_24_ok ih _ _ _ _ h) [0, 1, 2, 3] rfl
    · skip
      exact rx_sub (f_m_pickOf_24_ok ih _ _ _ _ h) [1, 2, 0, 3] rfl
set_option maxRecDepth 100000 in
set_option maxHeartbeats 4000000 in
theorem f_m_pickOf_ok {P : List Nat} {a0 : Int32} {σ : rx_St} : ∀ o, f_m_pickOf a0 σ = some o → rx_OK 219 [.ref 87, .int a0] 162 [] P σ (some (.int o.1), rx_D P o.2) := by
  intro o h
  refine rx_OK_of (by decide) (Nat.le_of_ble_eq_true rfl) ?_
  refine rx_walk [4, 24, 45, 77] 2000 (by decide) rx_e219 ?_
  unfold f_m_pickOf at h
  exact rx_sub (f_m_pickOf_4_ok rx_fu _ _ _ _ h) [2, 3, 1, 0] rfl
set_option maxRecDepth 100000 in
theorem rx_e220 : rx_Ext none 220 := rx_Ext_plain (by decide +kernel)
set_option maxRecDepth 100000 in
set_option maxHeartbeats 4000000 in
theorem f_m_chooses_263_ok {P : List Nat} {o : rx_St} {k46 : Int32 → Int32 → Int32 → rx_St → Option (rx_St)} (hk46 : ∀ (v1 : Int32) (v2 : Int32) (v3 : Int32) (σ : rx_St), k46 v1 v2 v3 σ = some o → rx_AtP none 220 46 [(0, .ref 87), (1, .int v1), (2, .int v2), (3, .int v3)] [] (rx_D P σ) (none, rx_D P o)) : ∀ (v1 : Int32) (v2 : Int32) (v3 : Int32) (σ : rx_St), f_m_chooses_263 k46 v1 v2 v3 σ = some o → rx_AtP none 220 263 [(0, .ref 87), (1, .int v1), (2, .int v2), (3, .int v3)] [] (rx_D P σ) (none, rx_D P o) := by
  intro v1 v2 v3 σ h
  refine rx_walk [46, 78, 188, 246, 263] 2000 (by decide) rx_e220 ?_
  unfold f_m_chooses_263 at h
  exact rx_sub (hk46 _ _ _ _ h) [1, 2, 3, 0] rfl
set_option maxRecDepth 100000 in
set_option maxHeartbeats 4000000 in
theorem f_m_chooses_246_ok {P : List Nat} {o : rx_St} {k46 : Int32 → Int32 → Int32 → rx_St → Option (rx_St)} {k78 : Int32 → Int32 → Int32 → Int32 → rx_St → Option (rx_St)} (hk46 : ∀ (v1 : Int32) (v2 : Int32) (v3 : Int32) (σ : rx_St), k46 v1 v2 v3 σ = some o → rx_AtP none 220 46 [(0, .ref 87), (1, .int v1), (2, .int v2), (3, .int v3)] [] (rx_D P σ) (none, rx_D P o)) (hk78 : ∀ (v1 : Int32) (v2 : Int32) (v3 : Int32) (v4 : Int32) (σ : rx_St), k78 v1 v2 v3 v4 σ = some o → rx_AtP none 220 78 [(0, .ref 87), (1, .int v1), (2, .int v2), (3, .int v3), (4, .int v4)] [] (rx_D P σ) (none, rx_D P o)) : ∀ (v1 : Int32) (v2 : Int32) (v3 : Int32) (v4 : Int32) (s1 : Int32) (s2 : Int32) (σ : rx_St), f_m_chooses_246 k46 k78 v1 v2 v3 v4 s1 s2 σ = some o → rx_AtP none 220 246 [(0, .ref 87), (1, .int v1), (2, .int v2), (3, .int v3), (4, .int v4)] [.int s2, .int s1, .ref 143] (rx_D P σ) (none, rx_D P o) := by
  intro v1 v2 v3 v4 s1 s2 σ h
  refine rx_walk [46, 78, 188, 246, 263] 2000 (by decide) rx_e220 ?_
  unfold f_m_chooses_246 at h
  refine rr_g h (fun c246 h => ?_)
  refine rr_g h (fun c253 h => ?_)
  refine rr_g h (fun c256 h => ?_)
  exact rx_sub (hk78 _ _ _ _ _ h) [1, 2, 3, 4, 0] rfl
set_option maxRecDepth 100000 in
set_option maxHeartbeats 4000000 in
theorem f_m_chooses_188_ok {P : List Nat} {o : rx_St} {k46 : Int32 → Int32 → Int32 → rx_St → Option (rx_St)} {k78 : Int32 → Int32 → Int32 → Int32 → rx_St → Option (rx_St)} (hk46 : ∀ (v1 : Int32) (v2 : Int32) (v3 : Int32) (σ : rx_St), k46 v1 v2 v3 σ = some o → rx_AtP none 220 46 [(0, .ref 87), (1, .int v1), (2, .int v2), (3, .int v3)] [] (rx_D P σ) (none, rx_D P o)) (hk78 : ∀ (v1 : Int32) (v2 : Int32) (v3 : Int32) (v4 : Int32) (σ : rx_St), k78 v1 v2 v3 v4 σ = some o → rx_AtP none 220 78 [(0, .ref 87), (1, .int v1), (2, .int v2), (3, .int v3), (4, .int v4)] [] (rx_D P σ) (none, rx_D P o)) : ∀ (v1 : Int32) (v2 : Int32) (v3 : Int32) (v4 : Int32) (v5 : Int32) (s1 : Int32) (s2 : Int32) (σ : rx_St), f_m_chooses_188 k46 k78 v1 v2 v3 v4 v5 s1 s2 σ = some o → rx_AtP none 220 188 [(0, .ref 87), (1, .int v1), (2, .int v2), (3, .int v3), (4, .int v4), (5, .int v5)] [.int s2, .int s1, .ref 142] (rx_D P σ) (none, rx_D P o) := by
  intro v1 v2 v3 v4 v5 s1 s2 σ h
  refine rx_walk [46, 78, 188, 246, 263] 2000 (by decide) rx_e220 ?_
  unfold f_m_chooses_188 at h
  refine rr_g h (fun c188 h => ?_)
  refine rr_g h (fun c201 h => ?_)
  refine rr_if h (fun c203 h => ?_) (fun c203 h => ?_)
  · skip
    refine rr_g h (fun c213 h => ?_)
    refine rr_callP h (fun y hy => f_m_nearOf_ok _ hy) (fun y1 hy1 h => ?_)
    exact rx_sub (f_m_chooses_246_ok hk46 hk78 _ _ _ _ _ _ _ h) [0, 1, 2, 3, 4] rfl
  · skip
    refine rr_g h (fun c226 h => ?_)
    refine rr_if h (fun c228 h => ?_) (fun c228 h => ?_)
    · skip
      refine rr_g h (fun c238 h => ?_)
      refine rr_callS h (fun y hy => f_m_pickOf_ok _ hy) (fun y2 hy2 h => ?_)
      exact rx_sub (f_m_chooses_246_ok hk46 hk78 _ _ _ _ _ _ _ h) [0, 1, 2, 3, 4] rfl
    · skip
      exact rx_sub (f_m_chooses_246_ok hk46 hk78 _ _ _ _ _ _ _ h) [0, 1, 2, 3, 4] rfl
set_option maxRecDepth 100000 in
set_option maxHeartbeats 4000000 in
theorem f_m_chooses_78_ok {P : List Nat} {o : rx_St} {k46 : Int32 → Int32 → Int32 → rx_St → Option (rx_St)} (hk46 : ∀ (v1 : Int32) (v2 : Int32) (v3 : Int32) (σ : rx_St), k46 v1 v2 v3 σ = some o → rx_AtP none 220 46 [(0, .ref 87), (1, .int v1), (2, .int v2), (3, .int v3)] [] (rx_D P σ) (none, rx_D P o)) : ∀ (n : Nat) (v1 : Int32) (v2 : Int32) (v3 : Int32) (v4 : Int32) (σ : rx_St), f_m_chooses_78 k46 n v1 v2 v3 v4 σ = some o → rx_AtP none 220 78 [(0, .ref 87), (1, .int v1), (2, .int v2), (3, .int v3), (4, .int v4)] [] (rx_D P σ) (none, rx_D P o) := by
  intro n
  induction n with
  | zero => intro _ _ _ _ _ h; cases h
  | succ n ih =>
  intro v1 v2 v3 v4 σ h
  refine rx_walk [46, 78, 188, 246, 263] 2000 (by decide) rx_e220 ?_
  rw [f_m_chooses_78] at h
  refine rr_g h (fun c89 h => ?_)
  refine rr_if h (fun c91 h => ?_) (fun c91 h => ?_)
  · skip
    exact rx_sub (f_m_chooses_263_ok hk46 _ _ _ _ h) [0, 1, 2, 3] rfl
  · skip
    refine rr_g h (fun c103 h => ?_)
    refine rr_g h (fun c119 h => ?_)
    refine rr_g h (fun c120 h => ?_)
    refine rr_g h (fun c133 h => ?_)
    refine rr_g h (fun c134 h => ?_)
    refine rr_g h (fun c147 h => ?_)
    refine rr_g h (fun c148 h => ?_)
    refine rr_g h (fun c161 h => ?_)
    refine rr_if h (fun c163 h => ?_) (fun c163 h => ?_)
    · skip
      exact rx_sub (f_m_chooses_188_ok hk46 ih _ _ _ _ _ _ _ _ h) [1, 2, 3, 4, 5, 0] rfl
    · skip
      refine rr_g h (fun c177 h => ?_)
      refine rr_g h (fun c184 h => ?_)
      refine rr_callS h (fun y hy => f_m_termOf_ok _ hy) (fun y2 hy2 h => ?_)
      exact rx_sub (f_m_chooses_188_ok hk46 ih _ _ _ _ _ _ _ _ h) [1, 2, 3, 4, 5, 0] rfl
set_option maxRecDepth 100000 in
set_option maxHeartbeats 4000000 in
theorem f_m_chooses_46_ok {P : List Nat} {o : rx_St} : ∀ (n : Nat) (v1 : Int32) (v2 : Int32) (v3 : Int32) (σ : rx_St), f_m_chooses_46 n v1 v2 v3 σ = some o → rx_AtP none 220 46 [(0, .ref 87), (1, .int v1), (2, .int v2), (3, .int v3)] [] (rx_D P σ) (none, rx_D P o) := by
  intro n
  induction n with
  | zero => intro _ _ _ _ h; cases h
  | succ n ih =>
  intro v1 v2 v3 σ h
  refine rx_walk [46, 78, 188, 246, 263] 2000 (by decide) rx_e220 ?_
  rw [f_m_chooses_46] at h
  refine rr_g h (fun c56 h => ?_)
  refine rr_if h (fun c58 h => ?_) (fun c58 h => ?_)
  · skip
    cases h
    exact And.intro (rfl) rfl
  · skip
    refine rr_callS h (fun y hy => f_m_holds_ok _ hy) (fun y1 hy1 h => ?_)
    refine rr_if h (fun c66 h => ?_) (fun c66 h => ?_)
    · skip
      exact rx_sub (f_m_chooses_263_ok ih _ _ _ _ h) [0, 1, 2, 3] rfl
    · skip
      exact rx_sub (f_m_chooses_78_ok ih rx_fu _ _ _ _ _ h) [1, 2, 3, 4, 0] rfl
set_option maxRecDepth 100000 in
set_option maxHeartbeats 4000000 in
theorem f_m_chooses_ok {P : List Nat} {a0 : Int32} {σ : rx_St} : ∀ o, f_m_chooses a0 σ = some o → rx_OK 220 [.ref 87, .int a0] 162 [] P σ (none, rx_D P o) := by
  intro o h
  refine rx_OK_of (by decide) (Nat.le_of_ble_eq_true rfl) ?_
  refine rx_walk [46, 78, 188, 246, 263] 2000 (by decide) rx_e220 ?_
  unfold f_m_chooses at h
  refine rr_g h (fun c16 h => ?_)
  refine rr_g h (fun c22 h => ?_)
  refine rr_if h (fun c23 h => ?_) (fun c23 h => ?_)
  · skip
    refine rr_g h (fun c38 h => ?_)
    exact rx_sub (f_m_chooses_46_ok rx_fu _ _ _ _ h) [2, 3, 1, 0] rfl
  · skip
    cases h
    exact And.intro (rfl) rfl
set_option maxRecDepth 100000 in
theorem rx_e221 : rx_Ext none 221 := rx_Ext_plain (by decide +kernel)
set_option maxRecDepth 100000 in
set_option maxHeartbeats 4000000 in
theorem f_m_orders_93_ok {P : List Nat} {o : rx_St} {k2 : Int32 → rx_St → Option (rx_St)} (hk2 : ∀ (v1 : Int32) (σ : rx_St), k2 v1 σ = some o → rx_AtP none 221 2 [(0, .ref 87), (1, .int v1)] [] (rx_D P σ) (none, rx_D P o)) : ∀ (v1 : Int32) (v2 : Int32) (σ : rx_St), f_m_orders_93 k2 v1 v2 σ = some o → rx_AtP none 221 93 [(0, .ref 87), (1, .int v1), (2, .int v2)] [] (rx_D P σ) (none, rx_D P o) := by
  intro v1 v2 σ h
  refine rx_walk [2, 44, 47, 93] 2000 (by decide) rx_e221 ?_
  unfold f_m_orders_93 at h
  refine rr_g h (fun c99 h => ?_)
  exact rx_sub (hk2 _ _ h) [1, 0] rfl
set_option maxRecDepth 100000 in
set_option maxHeartbeats 4000000 in
theorem f_m_orders_47_ok {P : List Nat} {o : rx_St} {k2 : Int32 → rx_St → Option (rx_St)} (hk2 : ∀ (v1 : Int32) (σ : rx_St), k2 v1 σ = some o → rx_AtP none 221 2 [(0, .ref 87), (1, .int v1)] [] (rx_D P σ) (none, rx_D P o)) : ∀ (n : Nat) (v1 : Int32) (v2 : Int32) (σ : rx_St), f_m_orders_47 k2 n v1 v2 σ = some o → rx_AtP none 221 47 [(0, .ref 87), (1, .int v1), (2, .int v2)] [] (rx_D P σ) (none, rx_D P o) := by
  intro n
  induction n with
  | zero => intro _ _ _ h; cases h
  | succ n ih =>
  intro v1 v2 σ h
  refine rx_walk [2, 44, 47, 93] 2000 (by decide) rx_e221 ?_
  rw [f_m_orders_47] at h
  refine rr_if h (fun c48 h => ?_) (fun c48 h => ?_)
  · skip
    exact rx_sub (f_m_orders_93_ok hk2 _ _ _ h) [0, 1, 2] rfl
  · skip
    refine rr_g h (fun c62 h => ?_)
    refine rr_g h (fun c63 h => ?_)
    refine rr_g h (fun c69 h => ?_)
    refine rr_if h (fun c70 h => ?_) (fun c70 h => ?_)
    · skip
      exact rx_sub (f_m_orders_93_ok hk2 _ _ _ h) [0, 1, 2] rfl
    · skip
      refine rr_g h (fun c85 h => ?_)
      refine rr_g h (fun c86 h => ?_)
      exact rx_sub (ih _ _ _ h) [1, 2, 0] rfl
set_option maxRecDepth 100000 in
set_option maxHeartbeats 4000000 in
theorem f_m_orders_44_ok {P : List Nat} {o : rx_St} {k2 : Int32 → rx_St → Option (rx_St)} (hk2 : ∀ (v1 : Int32) (σ : rx_St), k2 v1 σ = some o → rx_AtP none 221 2 [(0, .ref 87), (1, .int v1)] [] (rx_D P σ) (none, rx_D P o)) : ∀ (v1 : Int32) (s1 : Int32) (s2 : Int32) (σ : rx_St), f_m_orders_44 k2 v1 s1 s2 σ = some o → rx_AtP none 221 44 [(0, .ref 87), (1, .int v1)] [.int s2, .int s1, .ref 145] (rx_D P σ) (none, rx_D P o) := by
  intro v1 s1 s2 σ h
  refine rx_walk [2, 44, 47, 93] 2000 (by decide) rx_e221 ?_
  unfold f_m_orders_44 at h
  refine rr_g h (fun c44 h => ?_)
  exact rx_sub (f_m_orders_47_ok hk2 rx_fu _ _ _ h) [1, 2, 0] rfl
set_option maxRecDepth 100000 in
set_option maxHeartbeats 4000000 in
theorem f_m_orders_2_ok {P : List Nat} {o : rx_St} : ∀ (n : Nat) (v1 : Int32) (σ : rx_St), f_m_orders_2 n v1 σ = some o → rx_AtP none 221 2 [(0, .ref 87), (1, .int v1)] [] (rx_D P σ) (none, rx_D P o) := by
  intro n
  induction n with
  | zero => intro _ _ h; cases h
  | succ n ih =>
  intro v1 σ h
  refine rx_walk [2, 44, 47, 93] 2000 (by decide) rx_e221 ?_
  rw [f_m_orders_2] at h
  refine rr_if h (fun c7 h => ?_) (fun c7 h => ?_)
  · skip
    cases h
    exact And.intro (rfl) rfl
  · skip
    refine rr_if h (fun c19 h => ?_) (fun c19 h => ?_)
    · skip
      exact rx_sub (f_m_orders_44_ok ih _ _ _ _ h) [0, 1] rfl
    · skip
      refine rr_callP h (fun y hy => f_m_lotOf_ok _ hy) (fun y1 hy1 h => ?_)
      exact rx_sub (f_m_orders_44_ok ih _ _ _ _ h) [0, 1] rfl
set_option maxRecDepth 100000 in
set_option maxHeartbeats 4000000 in
theorem f_m_orders_ok {P : List Nat} {σ : rx_St} : ∀ o, f_m_orders σ = some o → rx_OK 221 [.ref 87] 162 [] P σ (none, rx_D P o) := by
  intro o h
  refine rx_OK_of (by decide) (Nat.le_of_ble_eq_true rfl) ?_
  refine rx_walk [2, 44, 47, 93] 2000 (by decide) rx_e221 ?_
  unfold f_m_orders at h
  exact rx_sub (f_m_orders_2_ok rx_fu _ _ h) [1, 0] rfl
set_option maxRecDepth 100000 in
theorem rx_e222 : rx_Ext none 222 := rx_Ext_plain (by decide +kernel)
set_option maxRecDepth 100000 in
set_option maxHeartbeats 4000000 in
theorem f_m_does_154_ok {P : List Nat} {o : rx_St} : ∀ (v1 : Int32) (v2 : Int32) (s0 : Int32) (σ : rx_St), f_m_does_154 v1 v2 s0 σ = some o → rx_AtP none 222 154 [(0, .ref 87), (1, .int v1), (2, .int v2)] [.int s0] (rx_D P σ) (none, rx_D P o) := by
  intro v1 v2 s0 σ h
  refine rx_walk [117, 154] 2000 (by decide) rx_e222 ?_
  unfold f_m_does_154 at h
  refine rr_if h (fun c159 h => ?_) (fun c159 h => ?_)
  · skip
    cases h
    exact And.intro (rfl) rfl
  · skip
    refine rr_g h (fun c167 h => ?_)
    refine rr_if h (fun c169 h => ?_) (fun c169 h => ?_)
    · skip
      cases h
      exact And.intro (rfl) rfl
    · skip
      refine rr_g h (fun c181 h => ?_)
      refine rr_g h (fun c182 h => ?_)
      refine rr_if h (fun c183 h => ?_) (fun c183 h => ?_)
      · skip
        refine rr_g h (fun c200 h => ?_)
        refine rr_g h (fun c203 h => ?_)
        refine rr_g h (fun c207 h => ?_)
        refine rr_g h (fun c219 h => ?_)
        refine rr_g h (fun c226 h => ?_)
        refine rr_g h (fun c229 h => ?_)
        refine rr_g h (fun c233 h => ?_)
        cases h
        exact And.intro (rfl) rfl
      · skip
        cases h
        exact And.intro (rfl) rfl
set_option maxRecDepth 100000 in
set_option maxHeartbeats 4000000 in
theorem f_m_does_117_ok {P : List Nat} {o : rx_St} : ∀ (v1 : Int32) (v2 : Int32) (σ : rx_St), f_m_does_117 v1 v2 σ = some o → rx_AtP none 222 117 [(0, .ref 87), (1, .int v1), (2, .int v2)] [] (rx_D P σ) (none, rx_D P o) := by
  intro v1 v2 σ h
  refine rx_walk [117, 154] 2000 (by decide) rx_e222 ?_
  unfold f_m_does_117 at h
  refine rr_g h (fun c130 h => ?_)
  refine rr_g h (fun c132 h => ?_)
  refine rr_g h (fun c139 h => ?_)
  refine rr_if h (fun c141 h => ?_) (fun c141 h => ?_)
  · skip
    exact rx_sub (f_m_does_154_ok _ _ _ _ h) [1, 2, 3] rfl
  · skip
    refine rr_g h (fun c149 h => ?_)
    exact rx_sub (f_m_does_154_ok _ _ _ _ h) [1, 2, 3] rfl
set_option maxRecDepth 100000 in
set_option maxHeartbeats 4000000 in
theorem f_m_does_ok {P : List Nat} {a0 : Int32} {a1 : Int32} {σ : rx_St} : ∀ o, f_m_does a0 a1 σ = some o → rx_OK 222 [.ref 87, .int a0, .int a1] 162 [] P σ (none, rx_D P o) := by
  intro o h
  refine rx_OK_of (by decide) (Nat.le_of_ble_eq_true rfl) ?_
  refine rx_walk [117, 154] 2000 (by decide) rx_e222 ?_
  unfold f_m_does at h
  refine rr_g h (fun c5 h => ?_)
  refine rr_if h (fun c6_0 h => ?_) (fun c6_0 h => ?_)
  · skip
    refine rr_g h (fun c53 h => ?_)
    refine rr_g h (fun c56 h => ?_)
    refine rr_g h (fun c62 h => ?_)
    refine rr_g h (fun c64 h => ?_)
    cases h
    exact And.intro (rfl) rfl
  · skip
    refine rr_if h (fun c6_1 h => ?_) (fun c6_1 h => ?_)
    · skip
      refine rr_g h (fun c71 h => ?_)
      refine rr_g h (fun c78 h => ?_)
      refine rr_ck ((by decide)) ?_
      refine rr_if h (fun c94 h => ?_) (fun c94 h => ?_)
      · skip
        refine rr_g h (fun c107 h => ?_)
        cases h
        exact And.intro (rfl) rfl
      · skip
        refine rr_g h (fun c107 h => ?_)
        cases h
        exact And.intro (rfl) rfl
    · skip
      refine rr_if h (fun c6_2 h => ?_) (fun c6_2 h => ?_)
      · skip
        exact rx_sub (f_m_does_117_ok _ _ _ h) [0, 1, 2] rfl
      · skip
        refine rr_if h (fun c6_3 h => ?_) (fun c6_3 h => ?_)
        · skip
          exact rx_sub (f_m_does_117_ok _ _ _ h) [0, 1, 2] rfl
        · skip
          refine rr_if h (fun c6_4 h => ?_) (fun c6_4 h => ?_)
          · skip
            refine rr_g h (fun c115 h => ?_)
            cases h
            exact And.intro (rfl) rfl
          · skip
            exact rx_sub (f_m_does_117_ok _ _ _ h) [0, 1, 2] rfl
set_option maxRecDepth 100000 in
theorem rx_e223 : rx_Ext none 223 := rx_Ext_plain (by decide +kernel)
set_option maxRecDepth 100000 in
set_option maxHeartbeats 4000000 in
theorem f_m_tick_148_ok {P : List Nat} {o : rx_St} {k90 : Int32 → rx_St → Option (rx_St)} (hk90 : ∀ (v2 : Int32) (σ : rx_St), k90 v2 σ = some o → rx_AtP none 223 90 [(0, .ref 87), (2, .int v2)] [] (rx_D P σ) (none, rx_D P o)) : ∀ (v2 : Int32) (s1 : Int32) (s2 : Int32) (σ : rx_St), f_m_tick_148 k90 v2 s1 s2 σ = some o → rx_AtP none 223 148 [(0, .ref 87), (2, .int v2)] [.int s2, .int s1, .ref 135] (rx_D P σ) (none, rx_D P o) := by
  intro v2 s1 s2 σ h
  refine rx_walk [2, 27, 48, 82, 90, 148] 2000 (by decide) rx_e223 ?_
  unfold f_m_tick_148 at h
  refine rr_g h (fun c148 h => ?_)
  exact rx_sub (hk90 _ _ h) [1, 0] rfl
set_option maxRecDepth 100000 in
set_option maxHeartbeats 4000000 in
theorem f_m_tick_90_ok {P : List Nat} {o : rx_St} : ∀ (n : Nat) (v2 : Int32) (σ : rx_St), f_m_tick_90 n v2 σ = some o → rx_AtP none 223 90 [(0, .ref 87), (2, .int v2)] [] (rx_D P σ) (none, rx_D P o) := by
  intro n
  induction n with
  | zero => intro _ _ h; cases h
  | succ n ih =>
  intro v2 σ h
  refine rx_walk [2, 27, 48, 82, 90, 148] 2000 (by decide) rx_e223 ?_
  rw [f_m_tick_90] at h
  refine rr_if h (fun c98 h => ?_) (fun c98 h => ?_)
  · skip
    cases h
    exact And.intro (rfl) rfl
  · skip
    refine rr_g h (fun c111 h => ?_)
    refine rr_if h (fun c115 h => ?_) (fun c115 h => ?_)
    · skip
      refine rr_g h (fun c129 h => ?_)
      refine rr_if h (fun c133 h => ?_) (fun c133 h => ?_)
      · skip
        refine rr_g h (fun c147 h => ?_)
        exact rx_sub (f_m_tick_148_ok ih _ _ _ _ h) [0, 1] rfl
      · skip
        exact rx_sub (f_m_tick_148_ok ih _ _ _ _ h) [0, 1] rfl
    · skip
      exact rx_sub (f_m_tick_148_ok ih _ _ _ _ h) [0, 1] rfl
set_option maxRecDepth 100000 in
set_option maxHeartbeats 4000000 in
theorem f_m_tick_82_ok {P : List Nat} {o : rx_St} {k27 : Int32 → Int32 → rx_St → Option (rx_St)} (hk27 : ∀ (v1 : Int32) (v2 : Int32) (σ : rx_St), k27 v1 v2 σ = some o → rx_AtP none 223 27 [(0, .ref 87), (1, .int v1), (2, .int v2)] [] (rx_D P σ) (none, rx_D P o)) : ∀ (v1 : Int32) (v2 : Int32) (σ : rx_St), f_m_tick_82 k27 v1 v2 σ = some o → rx_AtP none 223 82 [(0, .ref 87), (1, .int v1), (2, .int v2)] [] (rx_D P σ) (none, rx_D P o) := by
  intro v1 v2 σ h
  refine rx_walk [2, 27, 48, 82, 90, 148] 2000 (by decide) rx_e223 ?_
  unfold f_m_tick_82 at h
  exact rx_sub (hk27 _ _ _ h) [1, 2, 0] rfl
set_option maxRecDepth 100000 in
set_option maxHeartbeats 4000000 in
theorem f_m_tick_48_ok {P : List Nat} {o : rx_St} {k27 : Int32 → Int32 → rx_St → Option (rx_St)} (hk27 : ∀ (v1 : Int32) (v2 : Int32) (σ : rx_St), k27 v1 v2 σ = some o → rx_AtP none 223 27 [(0, .ref 87), (1, .int v1), (2, .int v2)] [] (rx_D P σ) (none, rx_D P o)) : ∀ (n : Nat) (v1 : Int32) (v2 : Int32) (v3 : Int32) (v4 : Int32) (σ : rx_St), f_m_tick_48 k27 n v1 v2 v3 v4 σ = some o → rx_AtP none 223 48 [(0, .ref 87), (1, .int v1), (2, .int v2), (3, .int v3), (4, .int v4)] [] (rx_D P σ) (none, rx_D P o) := by
  intro n
  induction n with
  | zero => intro _ _ _ _ _ h; cases h
  | succ n ih =>
  intro v1 v2 v3 v4 σ h
  refine rx_walk [2, 27, 48, 82, 90, 148] 2000 (by decide) rx_e223 ?_
  rw [f_m_tick_48] at h
  refine rr_g h (fun c59 h => ?_)
  refine rr_if h (fun c61 h => ?_) (fun c61 h => ?_)
  · skip
    exact rx_sub (f_m_tick_82_ok hk27 _ _ _ h) [0, 1, 2] rfl
  · skip
    refine rr_if h (fun c66 h => ?_) (fun c66 h => ?_)
    · skip
      exact rx_sub (f_m_tick_82_ok hk27 _ _ _ h) [0, 1, 2] rfl
    · skip
      refine rr_callV h (fun y hy => f_m_does_ok _ hy) (fun y1 hy1 h => ?_)
      exact rx_sub (ih _ _ _ _ _ h) [1, 2, 3, 4, 0] rfl
set_option maxRecDepth 100000 in
set_option maxHeartbeats 4000000 in
theorem f_m_tick_27_ok {P : List Nat} {o : rx_St} : ∀ (n : Nat) (v1 : Int32) (v2 : Int32) (σ : rx_St), f_m_tick_27 n v1 v2 σ = some o → rx_AtP none 223 27 [(0, .ref 87), (1, .int v1), (2, .int v2)] [] (rx_D P σ) (none, rx_D P o) := by
  intro n
  induction n with
  | zero => intro _ _ _ h; cases h
  | succ n ih =>
  intro v1 v2 σ h
  refine rx_walk [2, 27, 48, 82, 90, 148] 2000 (by decide) rx_e223 ?_
  rw [f_m_tick_27] at h
  refine rr_if h (fun c32 h => ?_) (fun c32 h => ?_)
  · skip
    exact rx_sub (f_m_tick_90_ok rx_fu _ _ h) [1, 0] rfl
  · skip
    refine rr_g h (fun c40 h => ?_)
    exact rx_sub (f_m_tick_48_ok ih rx_fu _ _ _ _ _ h) [2, 3, 4, 1, 0] rfl
set_option maxRecDepth 100000 in
set_option maxHeartbeats 4000000 in
theorem f_m_tick_2_ok {P : List Nat} {o : rx_St} : ∀ (n : Nat) (v1 : Int32) (v2 : Int32) (σ : rx_St), f_m_tick_2 n v1 v2 σ = some o → rx_AtP none 223 2 [(0, .ref 87), (1, .int v1), (2, .int v2)] [] (rx_D P σ) (none, rx_D P o) := by
  intro n
  induction n with
  | zero => intro _ _ _ h; cases h
  | succ n ih =>
  intro v1 v2 σ h
  refine rx_walk [2, 27, 48, 82, 90, 148] 2000 (by decide) rx_e223 ?_
  rw [f_m_tick_2] at h
  refine rr_if h (fun c7 h => ?_) (fun c7 h => ?_)
  · skip
    refine rr_callV h (fun y hy => f_m_orders_ok _ hy) (fun y1 hy1 h => ?_)
    exact rx_sub (f_m_tick_27_ok rx_fu _ _ _ h) [1, 2, 0] rfl
  · skip
    refine rr_callV h (fun y hy => f_m_chooses_ok _ hy) (fun y2 hy2 h => ?_)
    exact rx_sub (ih _ _ _ h) [1, 2, 0] rfl
set_option maxRecDepth 100000 in
set_option maxHeartbeats 4000000 in
theorem f_m_tick_ok {P : List Nat} {a0 : Int32} {σ : rx_St} : ∀ o, f_m_tick a0 σ = some o → rx_OK 223 [.ref 87, .int a0] 162 [] P σ (none, rx_D P o) := by
  intro o h
  refine rx_OK_of (by decide) (Nat.le_of_ble_eq_true rfl) ?_
  refine rx_walk [2, 27, 48, 82, 90, 148] 2000 (by decide) rx_e223 ?_
  unfold f_m_tick at h
  exact rx_sub (f_m_tick_2_ok rx_fu _ _ _ h) [1, 2, 0] rfl
set_option maxRecDepth 100000 in
theorem rx_e224 : rx_Ext none 224 := rx_Ext_plain (by decide +kernel)
set_option maxRecDepth 100000 in
set_option maxHeartbeats 4000000 in
theorem f_m_begins_38_ok {P : List Nat} {o : rx_St} : ∀ (n : Nat) (v2 : Int32) (σ : rx_St), f_m_begins_38 n v2 σ = some o → rx_AtP none 224 38 [(0, .ref 87), (2, .int v2)] [] (rx_D P σ) (none, rx_D P o) := by
  intro n
  induction n with
  | zero => intro _ _ h; cases h
  | succ n ih =>
  intro v2 σ h
  refine rx_walk [7, 38] 2000 (by decide) rx_e224 ?_
  rw [f_m_begins_38] at h
  refine rr_if h (fun c43 h => ?_) (fun c43 h => ?_)
  · skip
    cases h
    exact And.intro (rfl) rfl
  · skip
    refine rr_g h (fun c56 h => ?_)
    refine rr_g h (fun c57 h => ?_)
    refine rr_g h (fun c64 h => ?_)
    exact rx_sub (ih _ _ h) [1, 0] rfl
set_option maxRecDepth 100000 in
set_option maxHeartbeats 4000000 in
theorem f_m_begins_7_ok {P : List Nat} {o : rx_St} : ∀ (n : Nat) (v2 : Int32) (σ : rx_St), f_m_begins_7 n v2 σ = some o → rx_AtP none 224 7 [(0, .ref 87), (2, .int v2)] [] (rx_D P σ) (none, rx_D P o) := by
  intro n
  induction n with
  | zero => intro _ _ h; cases h
  | succ n ih =>
  intro v2 σ h
  refine rx_walk [7, 38] 2000 (by decide) rx_e224 ?_
  rw [f_m_begins_7] at h
  refine rr_if h (fun c15 h => ?_) (fun c15 h => ?_)
  · skip
    exact rx_sub (f_m_begins_38_ok rx_fu _ _ h) [1, 0] rfl
  · skip
    refine rr_g h (fun c28 h => ?_)
    refine rr_g h (fun c29 h => ?_)
    exact rx_sub (ih _ _ h) [1, 0] rfl
set_option maxRecDepth 100000 in
set_option maxHeartbeats 4000000 in
theorem f_m_begins_ok {P : List Nat} {a0 : Int32} {σ : rx_St} : ∀ o, f_m_begins a0 σ = some o → rx_OK 224 [.ref 87, .int a0] 162 [] P σ (none, rx_D P o) := by
  intro o h
  refine rx_OK_of (by decide) (Nat.le_of_ble_eq_true rfl) ?_
  refine rx_walk [7, 38] 2000 (by decide) rx_e224 ?_
  unfold f_m_begins at h
  exact rx_sub (f_m_begins_7_ok rx_fu _ _ h) [1, 0] rfl
set_option maxRecDepth 100000 in
theorem rx_e225 : rx_Ext none 225 := rx_Ext_plain (by decide +kernel)
set_option maxRecDepth 100000 in
set_option maxHeartbeats 4000000 in
theorem f_m_goes_10_ok {P : List Nat} {o : rx_St} : ∀ (n : Nat) (v2 : Int32) (σ : rx_St), f_m_goes_10 n v2 σ = some o → rx_AtP none 225 10 [(0, .ref 87), (2, .int v2)] [] (rx_D P σ) (none, rx_D P o) := by
  intro n
  induction n with
  | zero => intro _ _ h; cases h
  | succ n ih =>
  intro v2 σ h
  refine rx_walk [10] 2000 (by decide) rx_e225 ?_
  rw [f_m_goes_10] at h
  refine rr_if h (fun c15 h => ?_) (fun c15 h => ?_)
  · skip
    cases h
    exact And.intro (rfl) rfl
  · skip
    refine rr_callV h (fun y hy => f_m_tick_ok _ hy) (fun y1 hy1 h => ?_)
    exact rx_sub (ih _ _ h) [0, 1] rfl
set_option maxRecDepth 100000 in
set_option maxHeartbeats 4000000 in
theorem f_m_goes_ok {P : List Nat} {a0 : Int32} {a1 : Int32} {σ : rx_St} : ∀ o, f_m_goes a0 a1 σ = some o → rx_OK 225 [.ref 87, .int a0, .int a1] 162 [] P σ (none, rx_D P o) := by
  intro o h
  refine rx_OK_of (by decide) (Nat.le_of_ble_eq_true rfl) ?_
  refine rx_walk [10] 2000 (by decide) rx_e225 ?_
  unfold f_m_goes at h
  refine rr_callV h (fun y hy => f_m_begins_ok _ hy) (fun y1 hy1 h => ?_)
  exact rx_sub (f_m_goes_10_ok rx_fu _ _ h) [0, 2] rfl
set_option maxRecDepth 100000 in
theorem rx_e226 : rx_Ext none 226 := rx_Ext_plain (by decide +kernel)
set_option maxRecDepth 100000 in
set_option maxHeartbeats 4000000 in
theorem f_m_isTicks_ok {P : List Nat} {σ : rx_St} {a0 : Int32} : ∀ o, f_m_isTicks a0 = o → rx_OK 226 [.int a0] 162 [] P σ (some (.int o), rx_D P σ) := by
  intro o h
  refine rx_OK_of (by decide) (Nat.le_of_ble_eq_true rfl) ?_
  refine rx_walk [] 2000 (by decide) rx_e226 ?_
  unfold f_m_isTicks at h
  refine rr_if h (fun c1 h => ?_) (fun c1 h => ?_)
  · skip
    cases h
    exact And.intro (Or.inl rfl) rfl
  · skip
    refine rr_if h (fun c7 h => ?_) (fun c7 h => ?_)
    · skip
      cases h
      exact And.intro (Or.inl rfl) rfl
    · skip
      cases h
      exact And.intro (Or.inr rfl) rfl
set_option maxRecDepth 100000 in
theorem rx_e227 : rx_Ext none 227 := rx_Ext_plain (by decide +kernel)
set_option maxRecDepth 100000 in
set_option maxHeartbeats 4000000 in
theorem f_m_state_ok {P : List Nat} {a0 : Int32} {a1 : Int32} {a2 : Int32} {a3 : Int32} {σ : rx_St} : ∀ o, f_m_state a0 a1 a2 a3 σ = some o → rx_OK 227 [.ref 87, .int a0, .int a1, .int a2, .int a3] 162 [] P σ (some (.int o.1), rx_D P o.2) := by
  intro o h
  refine rx_OK_of (by decide) (Nat.le_of_ble_eq_true rfl) ?_
  refine rx_walk [] 2000 (by decide) rx_e227 ?_
  unfold f_m_state at h
  refine rr_callT (f_m_isTicks_ok _ rfl) ?_
  refine rr_if h (fun c9 h => ?_) (fun c9 h => ?_)
  · skip
    cases h
    exact And.intro (trivial) rfl
  · skip
    refine rr_callP h (fun y hy => f_m_isVar_ok _ hy) (fun y1 hy1 h => ?_)
    refine rr_if h (fun c19 h => ?_) (fun c19 h => ?_)
    · skip
      cases h
      exact And.intro (trivial) rfl
    · skip
      refine rr_callV h (fun y hy => f_m_takesNumbers_ok _ hy) (fun y2 hy2 h => ?_)
      refine rr_callV h (fun y hy => f_m_goes_ok _ hy) (fun y3 hy3 h => ?_)
      refine rr_g h (fun c47 h => ?_)
      cases h
      exact And.intro (trivial) rfl
set_option maxRecDepth 100000 in
theorem rx_e228 : rx_Ext none 228 := rx_Ext_plain (by decide +kernel)
set_option maxRecDepth 100000 in
set_option maxHeartbeats 4000000 in
theorem f_m_at2_ok {P : List Nat} {a0 : Int32} {a1 : Int32} {a2 : Int32} {σ : rx_St} : ∀ o, f_m_at2 a0 a1 a2 σ = some o → rx_OK 228 [.ref 87, .int a0, .int a1, .int a2] 162 [] P σ (some (.int o.1), rx_D P o.2) := by
  intro o h
  refine rx_OK_of (by decide) (Nat.le_of_ble_eq_true rfl) ?_
  refine rx_walk [] 2000 (by decide) rx_e228 ?_
  unfold f_m_at2 at h
  refine rr_callT (f_m_isTicks_ok _ rfl) ?_
  refine rr_if h (fun c9 h => ?_) (fun c9 h => ?_)
  · skip
    cases h
    exact And.intro (trivial) rfl
  · skip
    refine rr_callT (f_m_isOne_ok _ rfl) ?_
    refine rr_if h (fun c17 h => ?_) (fun c17 h => ?_)
    · skip
      cases h
      exact And.intro (trivial) rfl
    · skip
      refine rr_callV h (fun y hy => f_m_takesNumbers_ok _ hy) (fun y1 hy1 h => ?_)
      refine rr_callV h (fun y hy => f_m_goes_ok _ hy) (fun y2 hy2 h => ?_)
      refine rr_g h (fun c37 h => ?_)
      refine rr_if h (fun c38 h => ?_) (fun c38 h => ?_)
      · skip
        refine rr_g h (fun c51 h => ?_)
        cases h
        exact And.intro (trivial) rfl
      · skip
        cases h
        exact And.intro (trivial) rfl
set_option maxRecDepth 100000 in
theorem rx_e229 : rx_Ext none 229 := rx_Ext_plain (by decide +kernel)
set_option maxRecDepth 100000 in
set_option maxHeartbeats 4000000 in
theorem f_m_isFigure_ok {P : List Nat} {a0 : Int32} {a1 : Int32} {a2 : Int32} {σ : rx_St} : ∀ o, f_m_isFigure a0 a1 a2 σ = some o → rx_OK 229 [.ref 87, .int a0, .int a1, .int a2] 162 [] P σ (some (.int o), rx_D P σ) := by
  intro o h
  refine rx_OK_of (by decide) (Nat.le_of_ble_eq_true rfl) ?_
  refine rx_walk [] 2000 (by decide) rx_e229 ?_
  unfold f_m_isFigure at h
  refine rr_callT (f_m_isTicks_ok _ rfl) ?_
  refine rr_if h (fun c4 h => ?_) (fun c4 h => ?_)
  · skip
    cases h
    exact And.intro (Or.inl rfl) rfl
  · skip
    refine rr_if h (fun c8 h => ?_) (fun c8 h => ?_)
    · skip
      cases h
      exact And.intro (Or.inl rfl) rfl
    · skip
      refine rr_g h (fun c20 h => ?_)
      refine rr_if h (fun c21 h => ?_) (fun c21 h => ?_)
      · skip
        cases h
        exact And.intro (Or.inl rfl) rfl
      · skip
        refine rr_if h (fun c25 h => ?_) (fun c25 h => ?_)
        · skip
          cases h
          exact And.intro (Or.inl rfl) rfl
        · skip
          refine rr_g h (fun c41 h => ?_)
          refine rr_if h (fun c42 h => ?_) (fun c42 h => ?_)
          · skip
            cases h
            exact And.intro (Or.inl rfl) rfl
          · skip
            cases h
            exact And.intro (Or.inr rfl) rfl
set_option maxRecDepth 100000 in
theorem rx_e230 : rx_Ext none 230 := rx_Ext_plain (by decide +kernel)
set_option maxRecDepth 100000 in
set_option maxHeartbeats 4000000 in
theorem f_m_figureOf_58_ok {P : List Nat} {o : Int32 × rx_St} {k12 : Int32 → Int32 → Int32 → Int32 → rx_St → Option (Int32 × rx_St)} (hk12 : ∀ (v3 : Int32) (v4 : Int32) (v5 : Int32) (v6 : Int32) (σ : rx_St), k12 v3 v4 v5 v6 σ = some o → rx_AtP none 230 12 [(0, .ref 87), (3, .int v3), (4, .int v4), (5, .int v5), (6, .int v6)] [] (rx_D P σ) (some (.int o.1), rx_D P o.2)) : ∀ (v3 : Int32) (v4 : Int32) (v5 : Int32) (v6 : Int32) (σ : rx_St), f_m_figureOf_58 k12 v3 v4 v5 v6 σ = some o → rx_AtP none 230 58 [(0, .ref 87), (3, .int v3), (4, .int v4), (5, .int v5), (6, .int v6)] [] (rx_D P σ) (some (.int o.1), rx_D P o.2) := by
  intro v3 v4 v5 v6 σ h
  refine rx_walk [12, 58] 2000 (by decide) rx_e230 ?_
  unfold f_m_figureOf_58 at h
  exact rx_sub (hk12 _ _ _ _ _ h) [1, 2, 3, 4, 0] rfl
set_option maxRecDepth 100000 in
set_option maxHeartbeats 4000000 in
theorem f_m_figureOf_12_ok {P : List Nat} {o : Int32 × rx_St} : ∀ (n : Nat) (v3 : Int32) (v4 : Int32) (v5 : Int32) (v6 : Int32) (σ : rx_St), f_m_figureOf_12 n v3 v4 v5 v6 σ = some o → rx_AtP none 230 12 [(0, .ref 87), (3, .int v3), (4, .int v4), (5, .int v5), (6, .int v6)] [] (rx_D P σ) (some (.int o.1), rx_D P o.2) := by
  intro n
  induction n with
  | zero => intro _ _ _ _ _ h; cases h
  | succ n ih =>
  intro v3 v4 v5 v6 σ h
  refine rx_walk [12, 58] 2000 (by decide) rx_e230 ?_
  rw [f_m_figureOf_12] at h
  refine rr_if h (fun c18 h => ?_) (fun c18 h => ?_)
  · skip
    cases h
    exact And.intro (trivial) rfl
  · skip
    refine rr_g h (fun c27 h => ?_)
    refine rr_if h (fun c29 h => ?_) (fun c29 h => ?_)
    · skip
      refine rr_g h (fun c46 h => ?_)
      refine rr_g h (fun c53 h => ?_)
      exact rx_sub (f_m_figureOf_58_ok ih _ _ _ _ _ h) [1, 2, 3, 0, 4] rfl
    · skip
      exact rx_sub (f_m_figureOf_58_ok ih _ _ _ _ _ h) [0, 1, 2, 3, 4] rfl
set_option maxRecDepth 100000 in
set_option maxHeartbeats 4000000 in
theorem f_m_figureOf_ok {P : List Nat} {a0 : Int32} {a1 : Int32} {a2 : Int32} {a3 : Int32} {σ : rx_St} : ∀ o, f_m_figureOf a0 a1 a2 a3 σ = some o → rx_OK 230 [.ref 87, .int a0, .int a1, .int a2, .int a3] 162 [] P σ (some (.int o.1), rx_D P o.2) := by
  intro o h
  refine rx_OK_of (by decide) (Nat.le_of_ble_eq_true rfl) ?_
  refine rx_walk [12, 58] 2000 (by decide) rx_e230 ?_
  unfold f_m_figureOf at h
  refine rr_callV h (fun y hy => f_m_goes_ok _ hy) (fun y1 hy1 h => ?_)
  exact rx_sub (f_m_figureOf_12_ok rx_fu _ _ _ _ _ h) [2, 5, 6, 1, 0] rfl
set_option maxRecDepth 100000 in
theorem rx_e231 : rx_Ext none 231 := rx_Ext_plain (by decide +kernel)
set_option maxRecDepth 100000 in
set_option maxHeartbeats 4000000 in
theorem f_m_figure_ok {P : List Nat} {a0 : Int32} {a1 : Int32} {a2 : Int32} {a3 : Int32} {σ : rx_St} : ∀ o, f_m_figure a0 a1 a2 a3 σ = some o → rx_OK 231 [.ref 87, .int a0, .int a1, .int a2, .int a3] 162 [] P σ (some (.int o.1), rx_D P o.2) := by
  intro o h
  refine rx_OK_of (by decide) (Nat.le_of_ble_eq_true rfl) ?_
  refine rx_walk [] 2000 (by decide) rx_e231 ?_
  unfold f_m_figure at h
  refine rr_callP h (fun y hy => f_m_isFigure_ok _ hy) (fun y1 hy1 h => ?_)
  refine rr_if h (fun c13 h => ?_) (fun c13 h => ?_)
  · skip
    cases h
    exact And.intro (trivial) rfl
  · skip
    refine rr_callV h (fun y hy => f_m_takesNumbers_ok _ hy) (fun y2 hy2 h => ?_)
    refine rr_callS h (fun y hy => f_m_figureOf_ok _ hy) (fun y3 hy3 h => ?_)
    cases h
    exact And.intro (trivial) rfl
set_option maxRecDepth 100000 in
theorem rx_e232 : rx_Ext none 232 := rx_Ext_plain (by decide +kernel)
set_option maxRecDepth 100000 in
set_option maxHeartbeats 4000000 in
theorem f_m_wishes_ok {P : List Nat} {a0 : Int32} {a1 : Int32} {a2 : Int32} {σ : rx_St} : ∀ o, f_m_wishes a0 a1 a2 σ = some o → rx_OK 232 [.ref 87, .int a0, .int a1, .int a2] 162 [] P σ (some (.int o.1), rx_D P o.2) := by
  intro o h
  refine rx_OK_of (by decide) (Nat.le_of_ble_eq_true rfl) ?_
  refine rx_walk [] 2000 (by decide) rx_e232 ?_
  unfold f_m_wishes at h
  refine rr_callT (f_m_in_ok _ rfl) ?_
  refine rr_if h (fun c12 h => ?_) (fun c12 h => ?_)
  · skip
    cases h
    exact And.intro (trivial) rfl
  · skip
    refine rr_callT (f_m_isOne_ok _ rfl) ?_
    refine rr_if h (fun c20 h => ?_) (fun c20 h => ?_)
    · skip
      cases h
      exact And.intro (trivial) rfl
    · skip
      refine rr_callV h (fun y hy => f_m_takesNumbers_ok _ hy) (fun y1 hy1 h => ?_)
      refine rr_callV h (fun y hy => f_m_goes_ok _ hy) (fun y2 hy2 h => ?_)
      refine rr_callV h (fun y hy => f_m_chooses_ok _ hy) (fun y3 hy3 h => ?_)
      refine rr_g h (fun c45 h => ?_)
      cases h
      exact And.intro (trivial) rfl
set_option maxRecDepth 100000 in
theorem rx_e233 : rx_Ext none 233 := rx_Ext_plain (by decide +kernel)
set_option maxRecDepth 100000 in
set_option maxHeartbeats 4000000 in
theorem f_m_cellOf_ok {P : List Nat} {a0 : Int32} {a1 : Int32} {σ : rx_St} : ∀ o, f_m_cellOf a0 a1 σ = some o → rx_OK 233 [.ref 87, .int a0, .int a1] 162 [] P σ (some (.int o), rx_D P σ) := by
  intro o h
  refine rx_OK_of (by decide) (Nat.le_of_ble_eq_true rfl) ?_
  refine rx_walk [] 2000 (by decide) rx_e233 ?_
  unfold f_m_cellOf at h
  refine rr_if h (fun c3 h => ?_) (fun c3 h => ?_)
  · skip
    refine rr_if h (fun c49 h => ?_) (fun c49 h => ?_)
    · skip
      refine rr_g h (fun c57 h => ?_)
      cases h
      exact And.intro (trivial) rfl
    · skip
      refine rr_g h (fun c66 h => ?_)
      refine rr_if h (fun c67 h => ?_) (fun c67 h => ?_)
      · skip
        cases h
        exact And.intro (trivial) rfl
      · skip
        cases h
        exact And.intro (trivial) rfl
  · skip
    refine rr_g h (fun c22 h => ?_)
    refine rr_g h (fun c24 h => ?_)
    refine rr_if h (fun c25 h => ?_) (fun c25 h => ?_)
    · skip
      cases h
      exact And.intro (trivial) rfl
    · skip
      refine rr_g h (fun c38 h => ?_)
      cases h
      exact And.intro (trivial) rfl
set_option maxRecDepth 100000 in
theorem rx_e234 : rx_Ext none 234 := rx_Ext_plain (by decide +kernel)
set_option maxRecDepth 100000 in
set_option maxHeartbeats 4000000 in
theorem f_m_changes_272_ok {P : List Nat} {o : Int32 × rx_St} {k143 : Int32 → Int32 → Int32 → Int32 → rx_St → Option (Int32 × rx_St)} {k172 : Int32 → Int32 → Int32 → Int32 → Int32 → rx_St → Option (Int32 × rx_St)} (hk143 : ∀ (v2 : Int32) (v3 : Int32) (v4 : Int32) (v5 : Int32) (σ : rx_St), k143 v2 v3 v4 v5 σ = some o → rx_AtP none 234 143 [(0, .ref 87), (2, .int v2), (3, .int v3), (4, .int v4), (5, .int v5)] [] (rx_D P σ) (some (.int o.1), rx_D P o.2)) (hk172 : ∀ (v2 : Int32) (v3 : Int32) (v4 : Int32) (v5 : Int32) (v6 : Int32) (σ : rx_St), k172 v2 v3 v4 v5 v6 σ = some o → rx_AtP none 234 172 [(0, .ref 87), (2, .int v2), (3, .int v3), (4, .int v4), (5, .int v5), (6, .int v6)] [] (rx_D P σ) (some (.int o.1), rx_D P o.2)) : ∀ (v2 : Int32) (v3 : Int32) (v4 : Int32) (v5 : Int32) (v6 : Int32) (σ : rx_St), f_m_changes_272 k143 k172 v2 v3 v4 v5 v6 σ = some o → rx_AtP none 234 272 [(0, .ref 87), (2, .int v2), (3, .int v3), (4, .int v4), (5, .int v5), (6, .int v6)] [] (rx_D P σ) (some (.int o.1), rx_D P o.2) := by
  intro v2 v3 v4 v5 v6 σ h
  refine rx_walk [14, 30, 42, 110, 143, 166, 172, 184, 246, 252, 272] 2000 (by decide) rx_e234 ?_
  unfold f_m_changes_272 at h
  exact rx_sub (hk172 _ _ _ _ _ _ h) [1, 2, 3, 4, 5, 0] rfl
set_option maxRecDepth 100000 in
set_option maxHeartbeats 4000000 in
theorem f_m_changes_252_ok {P : List Nat} {o : Int32 × rx_St} {k143 : Int32 → Int32 → Int32 → Int32 → rx_St → Option (Int32 × rx_St)} {k172 : Int32 → Int32 → Int32 → Int32 → Int32 → rx_St → Option (Int32 × rx_St)} (hk143 : ∀ (v2 : Int32) (v3 : Int32) (v4 : Int32) (v5 : Int32) (σ : rx_St), k143 v2 v3 v4 v5 σ = some o → rx_AtP none 234 143 [(0, .ref 87), (2, .int v2), (3, .int v3), (4, .int v4), (5, .int v5)] [] (rx_D P σ) (some (.int o.1), rx_D P o.2)) (hk172 : ∀ (v2 : Int32) (v3 : Int32) (v4 : Int32) (v5 : Int32) (v6 : Int32) (σ : rx_St), k172 v2 v3 v4 v5 v6 σ = some o → rx_AtP none 234 172 [(0, .ref 87), (2, .int v2), (3, .int v3), (4, .int v4), (5, .int v5), (6, .int v6)] [] (rx_D P σ) (some (.int o.1), rx_D P o.2)) : ∀ (v2 : Int32) (v3 : Int32) (v4 : Int32) (v5 : Int32) (v6 : Int32) (σ : rx_St), f_m_changes_252 k143 k172 v2 v3 v4 v5 v6 σ = some o → rx_AtP none 234 252 [(0, .ref 87), (2, .int v2), (3, .int v3), (4, .int v4), (5, .int v5), (6, .int v6)] [] (rx_D P σ) (some (.int o.1), rx_D P o.2) := by
  intro v2 v3 v4 v5 v6 σ h
  refine rx_walk [14, 30, 42, 110, 143, 166, 172, 184, 246, 252, 272] 2000 (by decide) rx_e234 ?_
  unfold f_m_changes_252 at h
  refine rr_g h (fun c258 h => ?_)
  refine rr_if h (fun c260 h => ?_) (fun c260 h => ?_)
  · skip
    exact rx_sub (f_m_changes_272_ok hk143 hk172 _ _ _ _ _ _ h) [0, 1, 2, 3, 4, 5] rfl
  · skip
    exact rx_sub (f_m_changes_272_ok hk143 hk172 _ _ _ _ _ _ h) [1, 2, 3, 4, 0, 5] rfl
set_option maxRecDepth 100000 in
set_option maxHeartbeats 4000000 in
theorem f_m_changes_246_ok {P : List Nat} {o : Int32 × rx_St} {k143 : Int32 → Int32 → Int32 → Int32 → rx_St → Option (Int32 × rx_St)} {k172 : Int32 → Int32 → Int32 → Int32 → Int32 → rx_St → Option (Int32 × rx_St)} {k184 : Int32 → Int32 → Int32 → Int32 → Int32 → Int32 → rx_St → Option (Int32 × rx_St)} (hk143 : ∀ (v2 : Int32) (v3 : Int32) (v4 : Int32) (v5 : Int32) (σ : rx_St), k143 v2 v3 v4 v5 σ = some o → rx_AtP none 234 143 [(0, .ref 87), (2, .int v2), (3, .int v3), (4, .int v4), (5, .int v5)] [] (rx_D P σ) (some (.int o.1), rx_D P o.2)) (hk172 : ∀ (v2 : Int32) (v3 : Int32) (v4 : Int32) (v5 : Int32) (v6 : Int32) (σ : rx_St), k172 v2 v3 v4 v5 v6 σ = some o → rx_AtP none 234 172 [(0, .ref 87), (2, .int v2), (3, .int v3), (4, .int v4), (5, .int v5), (6, .int v6)] [] (rx_D P σ) (some (.int o.1), rx_D P o.2)) (hk184 : ∀ (v2 : Int32) (v3 : Int32) (v4 : Int32) (v5 : Int32) (v6 : Int32) (v7 : Int32) (σ : rx_St), k184 v2 v3 v4 v5 v6 v7 σ = some o → rx_AtP none 234 184 [(0, .ref 87), (2, .int v2), (3, .int v3), (4, .int v4), (5, .int v5), (6, .int v6), (7, .int v7)] [] (rx_D P σ) (some (.int o.1), rx_D P o.2)) : ∀ (v2 : Int32) (v3 : Int32) (v4 : Int32) (v5 : Int32) (v6 : Int32) (v7 : Int32) (σ : rx_St), f_m_changes_246 k143 k172 k184 v2 v3 v4 v5 v6 v7 σ = some o → rx_AtP none 234 246 [(0, .ref 87), (2, .int v2), (3, .int v3), (4, .int v4), (5, .int v5), (6, .int v6), (7, .int v7)] [] (rx_D P σ) (some (.int o.1), rx_D P o.2) := by
  intro v2 v3 v4 v5 v6 v7 σ h
  refine rx_walk [14, 30, 42, 110, 143, 166, 172, 184, 246, 252, 272] 2000 (by decide) rx_e234 ?_
  unfold f_m_changes_246 at h
  exact rx_sub (hk184 _ _ _ _ _ _ _ h) [1, 2, 3, 4, 5, 6, 0] rfl
set_option maxRecDepth 100000 in
set_option maxHeartbeats 4000000 in
theorem f_m_changes_184_ok {P : List Nat} {o : Int32 × rx_St} {k143 : Int32 → Int32 → Int32 → Int32 → rx_St → Option (Int32 × rx_St)} {k172 : Int32 → Int32 → Int32 → Int32 → Int32 → rx_St → Option (Int32 × rx_St)} (hk143 : ∀ (v2 : Int32) (v3 : Int32) (v4 : Int32) (v5 : Int32) (σ : rx_St), k143 v2 v3 v4 v5 σ = some o → rx_AtP none 234 143 [(0, .ref 87), (2, .int v2), (3, .int v3), (4, .int v4), (5, .int v5)] [] (rx_D P σ) (some (.int o.1), rx_D P o.2)) (hk172 : ∀ (v2 : Int32) (v3 : Int32) (v4 : Int32) (v5 : Int32) (v6 : Int32) (σ : rx_St), k172 v2 v3 v4 v5 v6 σ = some o → rx_AtP none 234 172 [(0, .ref 87), (2, .int v2), (3, .int v3), (4, .int v4), (5, .int v5), (6, .int v6)] [] (rx_D P σ) (some (.int o.1), rx_D P o.2)) : ∀ (n : Nat) (v2 : Int32) (v3 : Int32) (v4 : Int32) (v5 : Int32) (v6 : Int32) (v7 : Int32) (σ : rx_St), f_m_changes_184 k143 k172 n v2 v3 v4 v5 v6 v7 σ = some o → rx_AtP none 234 184 [(0, .ref 87), (2, .int v2), (3, .int v3), (4, .int v4), (5, .int v5), (6, .int v6), (7, .int v7)] [] (rx_D P σ) (some (.int o.1), rx_D P o.2) := by
  intro n
  induction n with
  | zero => intro _ _ _ _ _ _ _ h; cases h
  | succ n ih =>
  intro v2 v3 v4 v5 v6 v7 σ h
  refine rx_walk [14, 30, 42, 110, 143, 166, 172, 184, 246, 252, 272] 2000 (by decide) rx_e234 ?_
  rw [f_m_changes_184] at h
  refine rr_if h (fun c188 h => ?_) (fun c188 h => ?_)
  · skip
    exact rx_sub (f_m_changes_252_ok hk143 hk172 _ _ _ _ _ _ h) [0, 1, 2, 3, 4, 5] rfl
  · skip
    refine rr_g h (fun c197 h => ?_)
    refine rr_if h (fun c199 h => ?_) (fun c199 h => ?_)
    · skip
      refine rr_g h (fun c223 h => ?_)
      refine rr_callP h (fun y hy => f_m_cellOf_ok _ hy) (fun y1 hy1 h => ?_)
      refine rr_if h (fun c232 h => ?_) (fun c232 h => ?_)
      · skip
        exact rx_sub (f_m_changes_246_ok hk143 hk172 ih _ _ _ _ _ _ _ h) [0, 1, 2, 3, 4, 5, 6] rfl
      · skip
        refine rr_g h (fun c245 h => ?_)
        exact rx_sub (f_m_changes_246_ok hk143 hk172 ih _ _ _ _ _ _ _ h) [0, 1, 2, 3, 4, 5, 6] rfl
    · skip
      exact rx_sub (f_m_changes_252_ok hk143 hk172 _ _ _ _ _ _ h) [0, 1, 2, 3, 4, 5] rfl
set_option maxRecDepth 100000 in
set_option maxHeartbeats 4000000 in
theorem f_m_changes_172_ok {P : List Nat} {o : Int32 × rx_St} {k143 : Int32 → Int32 → Int32 → Int32 → rx_St → Option (Int32 × rx_St)} (hk143 : ∀ (v2 : Int32) (v3 : Int32) (v4 : Int32) (v5 : Int32) (σ : rx_St), k143 v2 v3 v4 v5 σ = some o → rx_AtP none 234 143 [(0, .ref 87), (2, .int v2), (3, .int v3), (4, .int v4), (5, .int v5)] [] (rx_D P σ) (some (.int o.1), rx_D P o.2)) : ∀ (n : Nat) (v2 : Int32) (v3 : Int32) (v4 : Int32) (v5 : Int32) (v6 : Int32) (σ : rx_St), f_m_changes_172 k143 n v2 v3 v4 v5 v6 σ = some o → rx_AtP none 234 172 [(0, .ref 87), (2, .int v2), (3, .int v3), (4, .int v4), (5, .int v5), (6, .int v6)] [] (rx_D P σ) (some (.int o.1), rx_D P o.2) := by
  intro n
  induction n with
  | zero => intro _ _ _ _ _ _ h; cases h
  | succ n ih =>
  intro v2 v3 v4 v5 v6 σ h
  refine rx_walk [14, 30, 42, 110, 143, 166, 172, 184, 246, 252, 272] 2000 (by decide) rx_e234 ?_
  rw [f_m_changes_172] at h
  refine rr_if h (fun c178 h => ?_) (fun c178 h => ?_)
  · skip
    exact rx_sub (hk143 _ _ _ _ _ h) [0, 1, 2, 3, 4] rfl
  · skip
    exact rx_sub (f_m_changes_184_ok hk143 ih rx_fu _ _ _ _ _ _ _ h) [1, 2, 3, 4, 5, 6, 0] rfl
set_option maxRecDepth 100000 in
set_option maxHeartbeats 4000000 in
theorem f_m_changes_166_ok {P : List Nat} {o : Int32 × rx_St} {k143 : Int32 → Int32 → Int32 → Int32 → rx_St → Option (Int32 × rx_St)} (hk143 : ∀ (v2 : Int32) (v3 : Int32) (v4 : Int32) (v5 : Int32) (σ : rx_St), k143 v2 v3 v4 v5 σ = some o → rx_AtP none 234 143 [(0, .ref 87), (2, .int v2), (3, .int v3), (4, .int v4), (5, .int v5)] [] (rx_D P σ) (some (.int o.1), rx_D P o.2)) : ∀ (v2 : Int32) (v3 : Int32) (v4 : Int32) (v5 : Int32) (s1 : Int32) (σ : rx_St), f_m_changes_166 k143 v2 v3 v4 v5 s1 σ = some o → rx_AtP none 234 166 [(0, .ref 87), (2, .int v2), (3, .int v3), (4, .int v4), (5, .int v5)] [.int s1, .ref 87] (rx_D P σ) (some (.int o.1), rx_D P o.2) := by
  intro v2 v3 v4 v5 s1 σ h
  refine rx_walk [14, 30, 42, 110, 143, 166, 172, 184, 246, 252, 272] 2000 (by decide) rx_e234 ?_
  unfold f_m_changes_166 at h
  refine rr_callV h (fun y hy => f_m_tick_ok _ hy) (fun y1 hy1 h => ?_)
  exact rx_sub (f_m_changes_172_ok hk143 rx_fu _ _ _ _ _ _ h) [1, 2, 3, 4, 5, 0] rfl
set_option maxRecDepth 100000 in
set_option maxHeartbeats 4000000 in
theorem f_m_changes_143_ok {P : List Nat} {o : Int32 × rx_St} : ∀ (n : Nat) (v2 : Int32) (v3 : Int32) (v4 : Int32) (v5 : Int32) (σ : rx_St), f_m_changes_143 n v2 v3 v4 v5 σ = some o → rx_AtP none 234 143 [(0, .ref 87), (2, .int v2), (3, .int v3), (4, .int v4), (5, .int v5)] [] (rx_D P σ) (some (.int o.1), rx_D P o.2) := by
  intro n
  induction n with
  | zero => intro _ _ _ _ _ h; cases h
  | succ n ih =>
  intro v2 v3 v4 v5 σ h
  refine rx_walk [14, 30, 42, 110, 143, 166, 172, 184, 246, 252, 272] 2000 (by decide) rx_e234 ?_
  rw [f_m_changes_143] at h
  refine rr_if h (fun c148 h => ?_) (fun c148 h => ?_)
  · skip
    cases h
    exact And.intro (trivial) rfl
  · skip
    refine rr_if h (fun c158 h => ?_) (fun c158 h => ?_)
    · skip
      exact rx_sub (f_m_changes_166_ok ih _ _ _ _ _ _ h) [0, 1, 2, 3, 4] rfl
    · skip
      exact rx_sub (f_m_changes_166_ok ih _ _ _ _ _ _ h) [0, 1, 2, 3, 4] rfl
set_option maxRecDepth 100000 in
set_option maxHeartbeats 4000000 in
theorem f_m_changes_110_ok {P : List Nat} {o : Int32 × rx_St} : ∀ (n : Nat) (v1 : Int32) (v2 : Int32) (v3 : Int32) (v4 : Int32) (v5 : Int32) (v6 : Int32) (σ : rx_St), f_m_changes_110 n v1 v2 v3 v4 v5 v6 σ = some o → rx_AtP none 234 110 [(0, .ref 87), (1, .int v1), (2, .int v2), (3, .int v3), (4, .int v4), (5, .int v5), (6, .int v6)] [] (rx_D P σ) (some (.int o.1), rx_D P o.2) := by
  intro n
  induction n with
  | zero => intro _ _ _ _ _ _ _ h; cases h
  | succ n ih =>
  intro v1 v2 v3 v4 v5 v6 σ h
  refine rx_walk [14, 30, 42, 110, 143, 166, 172, 184, 246, 252, 272] 2000 (by decide) rx_e234 ?_
  rw [f_m_changes_110] at h
  refine rr_if h (fun c116 h => ?_) (fun c116 h => ?_)
  · skip
    refine rr_callV h (fun y hy => f_m_begins_ok _ hy) (fun y1 hy1 h => ?_)
    exact rx_sub (f_m_changes_143_ok rx_fu _ _ _ _ _ h) [0, 2, 3, 4, 5] rfl
  · skip
    refine rr_g h (fun c126 h => ?_)
    exact rx_sub (ih _ _ _ _ _ _ _ h) [1, 2, 3, 4, 5, 6, 0] rfl
set_option maxRecDepth 100000 in
set_option maxHeartbeats 4000000 in
theorem f_m_changes_42_ok {P : List Nat} {o : Int32 × rx_St} {k14 : Int32 → Int32 → Int32 → Int32 → rx_St → Option (Int32 × rx_St)} {k30 : Int32 → Int32 → Int32 → Int32 → Int32 → rx_St → Option (Int32 × rx_St)} (hk14 : ∀ (v1 : Int32) (v2 : Int32) (v3 : Int32) (v4 : Int32) (σ : rx_St), k14 v1 v2 v3 v4 σ = some o → rx_AtP none 234 14 [(0, .ref 87), (1, .int v1), (2, .int v2), (3, .int v3), (4, .int v4)] [] (rx_D P σ) (some (.int o.1), rx_D P o.2)) (hk30 : ∀ (v1 : Int32) (v2 : Int32) (v3 : Int32) (v4 : Int32) (v5 : Int32) (σ : rx_St), k30 v1 v2 v3 v4 v5 σ = some o → rx_AtP none 234 30 [(0, .ref 87), (1, .int v1), (2, .int v2), (3, .int v3), (4, .int v4), (5, .int v5)] [] (rx_D P σ) (some (.int o.1), rx_D P o.2)) : ∀ (n : Nat) (v1 : Int32) (v2 : Int32) (v3 : Int32) (v4 : Int32) (v5 : Int32) (v6 : Int32) (σ : rx_St), f_m_changes_42 k14 k30 n v1 v2 v3 v4 v5 v6 σ = some o → rx_AtP none 234 42 [(0, .ref 87), (1, .int v1), (2, .int v2), (3, .int v3), (4, .int v4), (5, .int v5), (6, .int v6)] [] (rx_D P σ) (some (.int o.1), rx_D P o.2) := by
  intro n
  induction n with
  | zero => intro _ _ _ _ _ _ _ h; cases h
  | succ n ih =>
  intro v1 v2 v3 v4 v5 v6 σ h
  refine rx_walk [14, 30, 42, 110, 143, 166, 172, 184, 246, 252, 272] 2000 (by decide) rx_e234 ?_
  rw [f_m_changes_42] at h
  refine rr_if h (fun c46 h => ?_) (fun c46 h => ?_)
  · skip
    exact rx_sub (hk30 _ _ _ _ _ _ h) [1, 2, 3, 4, 5, 0] rfl
  · skip
    refine rr_callP h (fun y hy => f_m_cellOf_ok _ hy) (fun y1 hy1 h => ?_)
    refine rr_g h (fun c78 h => ?_)
    exact rx_sub (ih _ _ _ _ _ _ _ h) [1, 2, 3, 4, 5, 6, 0] rfl
set_option maxRecDepth 100000 in
set_option maxHeartbeats 4000000 in
theorem f_m_changes_30_ok {P : List Nat} {o : Int32 × rx_St} {k14 : Int32 → Int32 → Int32 → Int32 → rx_St → Option (Int32 × rx_St)} (hk14 : ∀ (v1 : Int32) (v2 : Int32) (v3 : Int32) (v4 : Int32) (σ : rx_St), k14 v1 v2 v3 v4 σ = some o → rx_AtP none 234 14 [(0, .ref 87), (1, .int v1), (2, .int v2), (3, .int v3), (4, .int v4)] [] (rx_D P σ) (some (.int o.1), rx_D P o.2)) : ∀ (n : Nat) (v1 : Int32) (v2 : Int32) (v3 : Int32) (v4 : Int32) (v5 : Int32) (σ : rx_St), f_m_changes_30 k14 n v1 v2 v3 v4 v5 σ = some o → rx_AtP none 234 30 [(0, .ref 87), (1, .int v1), (2, .int v2), (3, .int v3), (4, .int v4), (5, .int v5)] [] (rx_D P σ) (some (.int o.1), rx_D P o.2) := by
  intro n
  induction n with
  | zero => intro _ _ _ _ _ _ h; cases h
  | succ n ih =>
  intro v1 v2 v3 v4 v5 σ h
  refine rx_walk [14, 30, 42, 110, 143, 166, 172, 184, 246, 252, 272] 2000 (by decide) rx_e234 ?_
  rw [f_m_changes_30] at h
  refine rr_if h (fun c36 h => ?_) (fun c36 h => ?_)
  · skip
    exact rx_sub (hk14 _ _ _ _ _ h) [0, 1, 2, 3, 4] rfl
  · skip
    exact rx_sub (f_m_changes_42_ok hk14 ih rx_fu _ _ _ _ _ _ _ h) [1, 2, 3, 4, 5, 6, 0] rfl
set_option maxRecDepth 100000 in
set_option maxHeartbeats 4000000 in
theorem f_m_changes_14_ok {P : List Nat} {o : Int32 × rx_St} : ∀ (n : Nat) (v1 : Int32) (v2 : Int32) (v3 : Int32) (v4 : Int32) (σ : rx_St), f_m_changes_14 n v1 v2 v3 v4 σ = some o → rx_AtP none 234 14 [(0, .ref 87), (1, .int v1), (2, .int v2), (3, .int v3), (4, .int v4)] [] (rx_D P σ) (some (.int o.1), rx_D P o.2) := by
  intro n
  induction n with
  | zero => intro _ _ _ _ _ h; cases h
  | succ n ih =>
  intro v1 v2 v3 v4 σ h
  refine rx_walk [14, 30, 42, 110, 143, 166, 172, 184, 246, 252, 272] 2000 (by decide) rx_e234 ?_
  rw [f_m_changes_14] at h
  refine rr_if h (fun c19 h => ?_) (fun c19 h => ?_)
  · skip
    exact rx_sub (f_m_changes_110_ok rx_fu _ _ _ _ _ _ _ h) [2, 3, 4, 5, 6, 1, 0] rfl
  · skip
    refine rr_callV h (fun y hy => f_m_tick_ok _ hy) (fun y1 hy1 h => ?_)
    exact rx_sub (f_m_changes_30_ok ih rx_fu _ _ _ _ _ _ h) [1, 2, 3, 4, 5, 0] rfl
set_option maxRecDepth 100000 in
set_option maxHeartbeats 4000000 in
theorem f_m_changes_ok {P : List Nat} {a0 : Int32} {a1 : Int32} {a2 : Int32} {a3 : Int32} {σ : rx_St} : ∀ o, f_m_changes a0 a1 a2 a3 σ = some o → rx_OK 234 [.ref 87, .int a0, .int a1, .int a2, .int a3] 162 [] P σ (some (.int o.1), rx_D P o.2) := by
  intro o h
  refine rx_OK_of (by decide) (Nat.le_of_ble_eq_true rfl) ?_
  refine rx_walk [14, 30, 42, 110, 143, 166, 172, 184, 246, 252, 272] 2000 (by decide) rx_e234 ?_
  unfold f_m_changes at h
  refine rr_callV h (fun y hy => f_m_takesNumbers_ok _ hy) (fun y1 hy1 h => ?_)
  refine rr_callV h (fun y hy => f_m_begins_ok _ hy) (fun y2 hy2 h => ?_)
  exact rx_sub (f_m_changes_14_ok rx_fu _ _ _ _ _ h) [0, 1, 2, 3, 4] rfl
