def f_tap_valueOf (a0 : Int32) (σ : rx_St) : Option (Int64) :=
  if a0 < (0 : Int32) then
    some (0 : Int64)
    else
    if (502 : Int32) ≤ a0 then
    some (0 : Int64)
    else
    (rx_g a0 502 (
    some (σ.2 5 a0.toNatClampNeg)))
set_option maxRecDepth 100000 in
theorem rx_e89 : rx_Ext none 89 := rx_Ext_plain (by decide +kernel)
set_option maxRecDepth 100000 in
set_option maxHeartbeats 4000000 in
theorem f_tap_valueOf_ok {P : List Nat} {a0 : Int32} {σ : rx_St} : ∀ o, f_tap_valueOf a0 σ = some o → rx_OK 89 [.ref 1, .int a0] 162 [] P σ (some (.long o), rx_D P σ) := by
  intro o h
  refine rx_OK_of (by decide) (Nat.le_of_ble_eq_true rfl) ?_
  refine rx_walk [] 2000 (by decide) rx_e89 ?_
  unfold f_tap_valueOf at h
  refine rr_if h (fun c1 h => ?_) (fun c1 h => ?_)
  · skip
    cases h
    exact And.intro (rfl) rfl
  · skip
    refine rr_if h (fun c10 h => ?_) (fun c10 h => ?_)
    · skip
      cases h
      exact And.intro (rfl) rfl
    · skip
      refine rr_g h (fun c18 h => ?_)
      cases h
      exact And.intro (rfl) rfl
def f_wor_hasKind (w : Nat) (a0 : Int32) (σ : rx_St) : Int32 :=
  if a0 < (0 : Int32) then
    (0 : Int32)
    else
    if (σ.1 (7 + 14 * w) 3) ≤ a0 then
    (0 : Int32)
    else
    (1 : Int32)
set_option maxRecDepth 100000 in
theorem rx_e115 : rx_Ext none 115 := rx_Ext_plain (by decide +kernel)
set_option maxRecDepth 100000 in
set_option maxHeartbeats 4000000 in
theorem f_wor_hasKind_ok_w1 {P : List Nat} {a0 : Int32} {σ : rx_St} : ∀ o, f_wor_hasKind 1 a0 σ = o → rx_OK 115 [.ref 21, .int a0] 162 [] P σ (some (.int o), rx_D P σ) := by
  intro o h
  refine rx_OK_of (by decide) (Nat.le_of_ble_eq_true rfl) ?_
  refine rx_walk [] 2000 (by decide) rx_e115 ?_
  unfold f_wor_hasKind at h
  refine rr_if h (fun c1 h => ?_) (fun c1 h => ?_)
  · skip
    cases h
    exact And.intro (Or.inl rfl) rfl
  · skip
    refine rr_if h (fun c9 h => ?_) (fun c9 h => ?_)
    · skip
      cases h
      exact And.intro (Or.inl rfl) rfl
    · skip
      cases h
      exact And.intro (Or.inr rfl) rfl
set_option maxRecDepth 100000 in
set_option maxHeartbeats 4000000 in
theorem f_wor_hasKind_ok_w0 {P : List Nat} {a0 : Int32} {σ : rx_St} : ∀ o, f_wor_hasKind 0 a0 σ = o → rx_OK 115 [.ref 7, .int a0] 162 [] P σ (some (.int o), rx_D P σ) := by
  intro o h
  refine rx_OK_of (by decide) (Nat.le_of_ble_eq_true rfl) ?_
  refine rx_walk [] 2000 (by decide) rx_e115 ?_
  unfold f_wor_hasKind at h
  refine rr_if h (fun c1 h => ?_) (fun c1 h => ?_)
  · skip
    cases h
    exact And.intro (Or.inl rfl) rfl
  · skip
    refine rr_if h (fun c9 h => ?_) (fun c9 h => ?_)
    · skip
      cases h
      exact And.intro (Or.inl rfl) rfl
    · skip
      cases h
      exact And.intro (Or.inr rfl) rfl
def f_chk_varNamed_16 (w : Nat) : Nat → Int32 → Int64 → Int32 → rx_St → Option (Int32)
  | 0, _, _, _, _ => none
  | n + 1, v1, v2, v4, σ =>
    rx_g v1 5 (
    if (σ.1 (11 + 14 * w) v1.toNatClampNeg) ≤ v4 then
    some (-1 : Int32)
    else
    (rx_g ((v1 * (6 : Int32)) + v4) 30 (
    (f_tap_valueOf (σ.1 (14 + 14 * w) ((v1 * (6 : Int32)) + v4).toNatClampNeg) σ).bind fun y1 =>
    if (lg_cmp y1 v2) = (0 : Int32) then
    some v4
    else
    f_chk_varNamed_16 w n v1 v2 (v4 + (1 : Int32)) σ)))
def f_chk_varNamed (w : Nat) (a0 : Int32) (a1 : Int64) (σ : rx_St) : Option (Int32) :=
  if (f_wor_hasKind w a0 σ) = (0 : Int32) then
    some (-1 : Int32)
    else
    f_chk_varNamed_16 w rx_fu a0 a1 (0 : Int32) σ
set_option maxRecDepth 100000 in
theorem rx_e13 : rx_Ext none 13 := rx_Ext_plain (by decide +kernel)
set_option maxRecDepth 100000 in
set_option maxHeartbeats 4000000 in
theorem f_chk_varNamed_16_ok_w0 {p0 p1 p2 p4 : Nat} {o : Int32} : ∀ (n : Nat) (v1 : Int32) (v2 : Int64) (v4 : Int32) (σ : rx_St), f_chk_varNamed_16 0 n v1 v2 v4 σ = some o → rx_AtP none 13 16 [(0, .ref 37), (1, .int v1), (2, .long v2), (4, .int v4)] [] (rx_D [p0, p1, p2, 7, p4] σ) (some (.int o), rx_D [p0, p1, p2, 7, p4] σ) := by
  intro n
  induction n with
  | zero => intro _ _ _ _ h; cases h
  | succ n ih =>
  intro v1 v2 v4 σ h
  refine rx_walk [16] 2000 (by decide) rx_e13 ?_
  rw [f_chk_varNamed_16] at h
  refine rr_g h (fun c26 h => ?_)
  refine rr_if h (fun c27 h => ?_) (fun c27 h => ?_)
  · skip
    cases h
    exact And.intro (trivial) rfl
  · skip
    refine rr_g h (fun c48 h => ?_)
    refine rr_callPL h (fun y hy => f_tap_valueOf_ok _ hy) (fun y1 hy1 h => ?_)
    refine rr_if h (fun c54 h => ?_) (fun c54 h => ?_)
    · skip
      cases h
      exact And.intro (trivial) rfl
    · skip
      exact rx_sub (ih _ _ _ _ h) [1, 2, 3, 0] rfl
set_option maxRecDepth 100000 in
set_option maxHeartbeats 4000000 in
theorem f_chk_varNamed_ok_w0 {p0 p1 p2 p4 : Nat} {a0 : Int32} {a1 : Int64} {σ : rx_St} : ∀ o, f_chk_varNamed 0 a0 a1 σ = some o → rx_OK 13 [.ref 37, .int a0, .long a1] 162 [] [p0, p1, p2, 7, p4] σ (some (.int o), rx_D [p0, p1, p2, 7, p4] σ) := by
  intro o h
  refine rx_OK_of (by decide) (Nat.le_of_ble_eq_true rfl) ?_
  refine rx_walk [16] 2000 (by decide) rx_e13 ?_
  unfold f_chk_varNamed at h
  refine rr_callT (f_wor_hasKind_ok_w0 _ rfl) ?_
  refine rr_if h (fun c8 h => ?_) (fun c8 h => ?_)
  · skip
    cases h
    exact And.intro (trivial) rfl
  · skip
    exact rx_sub (f_chk_varNamed_16_ok_w0 rx_fu _ _ _ _ h) [1, 2, 3, 0] rfl
set_option maxRecDepth 100000 in
set_option maxHeartbeats 4000000 in
theorem f_chk_varNamed_16_ok_w1 {p0 p1 p2 p4 : Nat} {o : Int32} : ∀ (n : Nat) (v1 : Int32) (v2 : Int64) (v4 : Int32) (σ : rx_St), f_chk_varNamed_16 1 n v1 v2 v4 σ = some o → rx_AtP none 13 16 [(0, .ref 37), (1, .int v1), (2, .long v2), (4, .int v4)] [] (rx_D [p0, p1, p2, 21, p4] σ) (some (.int o), rx_D [p0, p1, p2, 21, p4] σ) := by
  intro n
  induction n with
  | zero => intro _ _ _ _ h; cases h
  | succ n ih =>
  intro v1 v2 v4 σ h
  refine rx_walk [16] 2000 (by decide) rx_e13 ?_
  rw [f_chk_varNamed_16] at h
  refine rr_g h (fun c26 h => ?_)
  refine rr_if h (fun c27 h => ?_) (fun c27 h => ?_)
  · skip
    cases h
    exact And.intro (trivial) rfl
  · skip
    refine rr_g h (fun c48 h => ?_)
    refine rr_callPL h (fun y hy => f_tap_valueOf_ok _ hy) (fun y1 hy1 h => ?_)
    refine rr_if h (fun c54 h => ?_) (fun c54 h => ?_)
    · skip
      cases h
      exact And.intro (trivial) rfl
    · skip
      exact rx_sub (ih _ _ _ _ h) [1, 2, 3, 0] rfl
set_option maxRecDepth 100000 in
set_option maxHeartbeats 4000000 in
theorem f_chk_varNamed_ok_w1 {p0 p1 p2 p4 : Nat} {a0 : Int32} {a1 : Int64} {σ : rx_St} : ∀ o, f_chk_varNamed 1 a0 a1 σ = some o → rx_OK 13 [.ref 37, .int a0, .long a1] 162 [] [p0, p1, p2, 21, p4] σ (some (.int o), rx_D [p0, p1, p2, 21, p4] σ) := by
  intro o h
  refine rx_OK_of (by decide) (Nat.le_of_ble_eq_true rfl) ?_
  refine rx_walk [16] 2000 (by decide) rx_e13 ?_
  unfold f_chk_varNamed at h
  refine rr_callT (f_wor_hasKind_ok_w1 _ rfl) ?_
  refine rr_if h (fun c8 h => ?_) (fun c8 h => ?_)
  · skip
    cases h
    exact And.intro (trivial) rfl
  · skip
    exact rx_sub (f_chk_varNamed_16_ok_w1 rx_fu _ _ _ _ h) [1, 2, 3, 0] rfl
def f_wor_hasVar (w : Nat) (a0 : Int32) (a1 : Int32) (σ : rx_St) : Option (Int32) :=
  if (f_wor_hasKind w a0 σ) = (0 : Int32) then
    some (0 : Int32)
    else
    if a1 < (0 : Int32) then
    some (0 : Int32)
    else
    (rx_g a0 5 (
    if (σ.1 (11 + 14 * w) a0.toNatClampNeg) ≤ a1 then
    some (0 : Int32)
    else
    some (1 : Int32)))
set_option maxRecDepth 100000 in
theorem rx_e116 : rx_Ext none 116 := rx_Ext_plain (by decide +kernel)
set_option maxRecDepth 100000 in
set_option maxHeartbeats 4000000 in
theorem f_wor_hasVar_ok_w1 {P : List Nat} {a0 : Int32} {a1 : Int32} {σ : rx_St} : ∀ o, f_wor_hasVar 1 a0 a1 σ = some o → rx_OK 116 [.ref 21, .int a0, .int a1] 162 [] P σ (some (.int o), rx_D P σ) := by
  intro o h
  refine rx_OK_of (by decide) (Nat.le_of_ble_eq_true rfl) ?_
  refine rx_walk [] 2000 (by decide) rx_e116 ?_
  unfold f_wor_hasVar at h
  refine rr_callT (f_wor_hasKind_ok_w1 _ rfl) ?_
  refine rr_if h (fun c5 h => ?_) (fun c5 h => ?_)
  · skip
    cases h
    exact And.intro (Or.inl rfl) rfl
  · skip
    refine rr_if h (fun c9 h => ?_) (fun c9 h => ?_)
    · skip
      cases h
      exact And.intro (Or.inl rfl) rfl
    · skip
      refine rr_g h (fun c18 h => ?_)
      refine rr_if h (fun c19 h => ?_) (fun c19 h => ?_)
      · skip
        cases h
        exact And.intro (Or.inl rfl) rfl
      · skip
        cases h
        exact And.intro (Or.inr rfl) rfl
set_option maxRecDepth 100000 in
set_option maxHeartbeats 4000000 in
theorem f_wor_hasVar_ok_w0 {P : List Nat} {a0 : Int32} {a1 : Int32} {σ : rx_St} : ∀ o, f_wor_hasVar 0 a0 a1 σ = some o → rx_OK 116 [.ref 7, .int a0, .int a1] 162 [] P σ (some (.int o), rx_D P σ) := by
  intro o h
  refine rx_OK_of (by decide) (Nat.le_of_ble_eq_true rfl) ?_
  refine rx_walk [] 2000 (by decide) rx_e116 ?_
  unfold f_wor_hasVar at h
  refine rr_callT (f_wor_hasKind_ok_w0 _ rfl) ?_
  refine rr_if h (fun c5 h => ?_) (fun c5 h => ?_)
  · skip
    cases h
    exact And.intro (Or.inl rfl) rfl
  · skip
    refine rr_if h (fun c9 h => ?_) (fun c9 h => ?_)
    · skip
      cases h
      exact And.intro (Or.inl rfl) rfl
    · skip
      refine rr_g h (fun c18 h => ?_)
      refine rr_if h (fun c19 h => ?_) (fun c19 h => ?_)
      · skip
        cases h
        exact And.intro (Or.inl rfl) rfl
      · skip
        cases h
        exact And.intro (Or.inr rfl) rfl
def f_c_isTime (a0 : Int32) : Int32 :=
  if a0 < (0 : Int32) then
    (0 : Int32)
    else
    if (40 : Int32) < a0 then
    (0 : Int32)
    else
    (1 : Int32)
set_option maxRecDepth 100000 in
theorem rx_e153 : rx_Ext none 153 := rx_Ext_plain (by decide +kernel)
set_option maxRecDepth 100000 in
set_option maxHeartbeats 4000000 in
theorem f_c_isTime_ok {P : List Nat} {σ : rx_St} {a0 : Int32} : ∀ o, f_c_isTime a0 = o → rx_OK 153 [.int a0] 162 [] P σ (some (.int o), rx_D P σ) := by
  intro o h
  refine rx_OK_of (by decide) (Nat.le_of_ble_eq_true rfl) ?_
  refine rx_walk [] 2000 (by decide) rx_e153 ?_
  unfold f_c_isTime at h
  refine rr_if h (fun c1 h => ?_) (fun c1 h => ?_)
  · skip
    cases h
    exact And.intro (Or.inl rfl) rfl
  · skip
    refine rr_if h (fun c7 h => ?_) (fun c7 h => ?_)
    · skip
      cases h
      exact And.intro (Or.inl rfl) rfl
    · skip
      cases h
      exact And.intro (Or.inr rfl) rfl
def f_c_isSeeds (a0 : Int32) : Int32 :=
  if a0 < (1 : Int32) then
    (0 : Int32)
    else
    if (3 : Int32) < a0 then
    (0 : Int32)
    else
    (1 : Int32)
set_option maxRecDepth 100000 in
theorem rx_e155 : rx_Ext none 155 := rx_Ext_plain (by decide +kernel)
set_option maxRecDepth 100000 in
set_option maxHeartbeats 4000000 in
theorem f_c_isSeeds_ok {P : List Nat} {σ : rx_St} {a0 : Int32} : ∀ o, f_c_isSeeds a0 = o → rx_OK 155 [.int a0] 162 [] P σ (some (.int o), rx_D P σ) := by
  intro o h
  refine rx_OK_of (by decide) (Nat.le_of_ble_eq_true rfl) ?_
  refine rx_walk [] 2000 (by decide) rx_e155 ?_
  unfold f_c_isSeeds at h
  refine rr_if h (fun c2 h => ?_) (fun c2 h => ?_)
  · skip
    cases h
    exact And.intro (Or.inl rfl) rfl
  · skip
    refine rr_if h (fun c7 h => ?_) (fun c7 h => ?_)
    · skip
      cases h
      exact And.intro (Or.inl rfl) rfl
    · skip
      cases h
      exact And.intro (Or.inr rfl) rfl
def f_m_more (a0 : Int64) (a1 : Int32) : Int64 :=
  if a1 = (0 : Int32) then
    a0
    else
    (((27 : Int64) * a0) + (((a1 - (97 : Int32)) + (1 : Int32)).toInt64))
set_option maxRecDepth 100000 in
theorem rx_e169 : rx_Ext none 169 := rx_Ext_plain (by decide +kernel)
set_option maxRecDepth 100000 in
set_option maxHeartbeats 4000000 in
theorem f_m_more_ok {P : List Nat} {σ : rx_St} {a0 : Int64} {a1 : Int32} : ∀ o, f_m_more a0 a1 = o → rx_OK 169 [.long a0, .int a1] 162 [] P σ (some (.long o), rx_D P σ) := by
  intro o h
  refine rx_OK_of (by decide) (Nat.le_of_ble_eq_true rfl) ?_
  refine rx_walk [] 2000 (by decide) rx_e169 ?_
  unfold f_m_more at h
  refine rr_if h (fun c1 h => ?_) (fun c1 h => ?_)
  · skip
    cases h
    exact And.intro (rfl) rfl
  · skip
    cases h
    exact And.intro (rfl) rfl
def f_m_word (a0 : Int32) (a1 : Int32) (a2 : Int32) (a3 : Int32) (a4 : Int32) (a5 : Int32) (a6 : Int32) : Int64 :=
  (f_m_more (f_m_more (f_m_more (f_m_more (f_m_more (f_m_more (f_m_more (0 : Int64) a0) a1) a2) a3) a4) a5) a6)
set_option maxRecDepth 100000 in
theorem rx_e170 : rx_Ext none 170 := rx_Ext_plain (by decide +kernel)
set_option maxRecDepth 100000 in
set_option maxHeartbeats 4000000 in
theorem f_m_word_ok {P : List Nat} {σ : rx_St} {a0 : Int32} {a1 : Int32} {a2 : Int32} {a3 : Int32} {a4 : Int32} {a5 : Int32} {a6 : Int32} : ∀ o, f_m_word a0 a1 a2 a3 a4 a5 a6 = o → rx_OK 170 [.int a0, .int a1, .int a2, .int a3, .int a4, .int a5, .int a6] 162 [] P σ (some (.long o), rx_D P σ) := by
  intro o h
  refine rx_OK_of (by decide) (Nat.le_of_ble_eq_true rfl) ?_
  refine rx_walk [] 2000 (by decide) rx_e170 ?_
  unfold f_m_word at h
  refine rr_callT (f_m_more_ok _ rfl) ?_
  refine rr_callT (f_m_more_ok _ rfl) ?_
  refine rr_callT (f_m_more_ok _ rfl) ?_
  refine rr_callT (f_m_more_ok _ rfl) ?_
  refine rr_callT (f_m_more_ok _ rfl) ?_
  refine rr_callT (f_m_more_ok _ rfl) ?_
  refine rr_callT (f_m_more_ok _ rfl) ?_
  cases h
  exact And.intro (rfl) rfl
def f_m_varOf_3 : Nat → Int32 → Int64 → Int32 → rx_St → Option (Int32)
  | 0, _, _, _, _ => none
  | n + 1, v1, v2, v4, σ =>
    rx_g v1 10 (
    if (σ.1 100 v1.toNatClampNeg) ≤ v4 then
    some (-1 : Int32)
    else
    (rx_g (((6 : Int32) * v1) + v4) 60 (
    if (lg_cmp (σ.2 101 (((6 : Int32) * v1) + v4).toNatClampNeg) v2) = (0 : Int32) then
    some v4
    else
    f_m_varOf_3 n v1 v2 (v4 + (1 : Int32)) σ)))
def f_m_varOf (a0 : Int32) (a1 : Int64) (σ : rx_St) : Option (Int32) :=
  f_m_varOf_3 rx_fu a0 a1 (0 : Int32) σ
set_option maxRecDepth 100000 in
theorem rx_e184 : rx_Ext none 184 := rx_Ext_plain (by decide +kernel)
set_option maxRecDepth 100000 in
set_option maxHeartbeats 4000000 in
theorem f_m_varOf_3_ok {P : List Nat} {o : Int32} : ∀ (n : Nat) (v1 : Int32) (v2 : Int64) (v4 : Int32) (σ : rx_St), f_m_varOf_3 n v1 v2 v4 σ = some o → rx_AtP none 184 3 [(0, .ref 87), (1, .int v1), (2, .long v2), (4, .int v4)] [] (rx_D P σ) (some (.int o), rx_D P σ) := by
  intro n
  induction n with
  | zero => intro _ _ _ _ h; cases h
  | succ n ih =>
  intro v1 v2 v4 σ h
  refine rx_walk [3] 2000 (by decide) rx_e184 ?_
  rw [f_m_varOf_3] at h
  refine rr_g h (fun c10 h => ?_)
  refine rr_if h (fun c11 h => ?_) (fun c11 h => ?_)
  · skip
    cases h
    exact And.intro (trivial) rfl
  · skip
    refine rr_g h (fun c25 h => ?_)
    refine rr_if h (fun c28 h => ?_) (fun c28 h => ?_)
    · skip
      cases h
      exact And.intro (trivial) rfl
    · skip
      exact rx_sub (ih _ _ _ _ h) [1, 2, 3, 0] rfl
set_option maxRecDepth 100000 in
set_option maxHeartbeats 4000000 in
theorem f_m_varOf_ok {P : List Nat} {a0 : Int32} {a1 : Int64} {σ : rx_St} : ∀ o, f_m_varOf a0 a1 σ = some o → rx_OK 184 [.ref 87, .int a0, .long a1] 162 [] P σ (some (.int o), rx_D P σ) := by
  intro o h
  refine rx_OK_of (by decide) (Nat.le_of_ble_eq_true rfl) ?_
  refine rx_walk [3] 2000 (by decide) rx_e184 ?_
  unfold f_m_varOf at h
  exact rx_sub (f_m_varOf_3_ok rx_fu _ _ _ _ h) [1, 2, 3, 0] rfl
