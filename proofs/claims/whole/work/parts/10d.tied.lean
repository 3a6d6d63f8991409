set_option maxRecDepth 100000 in
theorem rx_e48 : rx_Ext none 48 := rx_Ext_plain (by decide +kernel)
set_option maxRecDepth 100000 in
set_option maxHeartbeats 4000000 in
theorem f_gri_countMore_79_ok_w1 {p0 p1 p2 p3 : Nat} {o : Int32 × rx_St} {k6 : Int32 → Int32 → Int32 → Int32 → Int32 → Int32 → Int32 → rx_St → Option (Int32 × rx_St)} (hk6 : ∀ (v1 : Int32) (v2 : Int32) (v3 : Int32) (v4 : Int32) (v5 : Int32) (v6 : Int32) (v7 : Int32) (σ : rx_St), k6 v1 v2 v3 v4 v5 v6 v7 σ = some o → rx_AtP none 48 6 [(0, .ref 76), (1, .int v1), (2, .int v2), (3, .int v3), (4, .int v4), (5, .int v5), (6, .int v6), (7, .int v7)] [] (rx_D [p0, p1, p2, p3, 21] σ) (some (.int o.1), rx_D [p0, p1, p2, p3, 21] o.2)) : ∀ (v1 : Int32) (v2 : Int32) (v3 : Int32) (v4 : Int32) (v5 : Int32) (v6 : Int32) (v7 : Int32) (σ : rx_St), f_gri_countMore_79 1 k6 v1 v2 v3 v4 v5 v6 v7 σ = some o → rx_AtP none 48 79 [(0, .ref 76), (1, .int v1), (2, .int v2), (3, .int v3), (4, .int v4), (5, .int v5), (6, .int v6), (7, .int v7)] [] (rx_D [p0, p1, p2, p3, 21] σ) (some (.int o.1), rx_D [p0, p1, p2, p3, 21] o.2) := by
  intro v1 v2 v3 v4 v5 v6 v7 σ h
  refine rx_walk [6, 18, 73, 79] 2000 (by decide) rx_e48 ?_
  unfold f_gri_countMore_79 at h
  exact rx_sub (hk6 _ _ _ _ _ _ _ _ h) [1, 2, 3, 4, 5, 6, 7, 0] rfl
set_option maxRecDepth 100000 in
set_option maxHeartbeats 4000000 in
theorem f_gri_countMore_73_ok_w1 {p0 p1 p2 p3 : Nat} {o : Int32 × rx_St} {k6 : Int32 → Int32 → Int32 → Int32 → Int32 → Int32 → Int32 → rx_St → Option (Int32 × rx_St)} {k18 : Int32 → Int32 → Int32 → Int32 → Int32 → Int32 → Int32 → Int32 → rx_St → Option (Int32 × rx_St)} (hk6 : ∀ (v1 : Int32) (v2 : Int32) (v3 : Int32) (v4 : Int32) (v5 : Int32) (v6 : Int32) (v7 : Int32) (σ : rx_St), k6 v1 v2 v3 v4 v5 v6 v7 σ = some o → rx_AtP none 48 6 [(0, .ref 76), (1, .int v1), (2, .int v2), (3, .int v3), (4, .int v4), (5, .int v5), (6, .int v6), (7, .int v7)] [] (rx_D [p0, p1, p2, p3, 21] σ) (some (.int o.1), rx_D [p0, p1, p2, p3, 21] o.2)) (hk18 : ∀ (v1 : Int32) (v2 : Int32) (v3 : Int32) (v4 : Int32) (v5 : Int32) (v6 : Int32) (v7 : Int32) (v8 : Int32) (σ : rx_St), k18 v1 v2 v3 v4 v5 v6 v7 v8 σ = some o → rx_AtP none 48 18 [(0, .ref 76), (1, .int v1), (2, .int v2), (3, .int v3), (4, .int v4), (5, .int v5), (6, .int v6), (7, .int v7), (8, .int v8)] [] (rx_D [p0, p1, p2, p3, 21] σ) (some (.int o.1), rx_D [p0, p1, p2, p3, 21] o.2)) : ∀ (v1 : Int32) (v2 : Int32) (v3 : Int32) (v4 : Int32) (v5 : Int32) (v6 : Int32) (v7 : Int32) (v8 : Int32) (σ : rx_St), f_gri_countMore_73 1 k6 k18 v1 v2 v3 v4 v5 v6 v7 v8 σ = some o → rx_AtP none 48 73 [(0, .ref 76), (1, .int v1), (2, .int v2), (3, .int v3), (4, .int v4), (5, .int v5), (6, .int v6), (7, .int v7), (8, .int v8)] [] (rx_D [p0, p1, p2, p3, 21] σ) (some (.int o.1), rx_D [p0, p1, p2, p3, 21] o.2) := by
  intro v1 v2 v3 v4 v5 v6 v7 v8 σ h
  refine rx_walk [6, 18, 73, 79] 2000 (by decide) rx_e48 ?_
  unfold f_gri_countMore_73 at h
  exact rx_sub (hk18 _ _ _ _ _ _ _ _ _ h) [1, 2, 3, 4, 5, 6, 7, 8, 0] rfl
set_option maxRecDepth 100000 in
set_option maxHeartbeats 4000000 in
theorem f_gri_countMore_18_ok_w1 {p0 p1 p2 p3 : Nat} {o : Int32 × rx_St} {k6 : Int32 → Int32 → Int32 → Int32 → Int32 → Int32 → Int32 → rx_St → Option (Int32 × rx_St)} (hk6 : ∀ (v1 : Int32) (v2 : Int32) (v3 : Int32) (v4 : Int32) (v5 : Int32) (v6 : Int32) (v7 : Int32) (σ : rx_St), k6 v1 v2 v3 v4 v5 v6 v7 σ = some o → rx_AtP none 48 6 [(0, .ref 76), (1, .int v1), (2, .int v2), (3, .int v3), (4, .int v4), (5, .int v5), (6, .int v6), (7, .int v7)] [] (rx_D [p0, p1, p2, p3, 21] σ) (some (.int o.1), rx_D [p0, p1, p2, p3, 21] o.2)) : ∀ (n : Nat) (v1 : Int32) (v2 : Int32) (v3 : Int32) (v4 : Int32) (v5 : Int32) (v6 : Int32) (v7 : Int32) (v8 : Int32) (σ : rx_St), f_gri_countMore_18 1 k6 n v1 v2 v3 v4 v5 v6 v7 v8 σ = some o → rx_AtP none 48 18 [(0, .ref 76), (1, .int v1), (2, .int v2), (3, .int v3), (4, .int v4), (5, .int v5), (6, .int v6), (7, .int v7), (8, .int v8)] [] (rx_D [p0, p1, p2, p3, 21] σ) (some (.int o.1), rx_D [p0, p1, p2, p3, 21] o.2) := by
  intro n
  induction n with
  | zero => intro _ _ _ _ _ _ _ _ _ h; cases h
  | succ n ih =>
  intro v1 v2 v3 v4 v5 v6 v7 v8 σ h
  refine rx_walk [6, 18, 73, 79] 2000 (by decide) rx_e48 ?_
  rw [f_gri_countMore_18] at h
  refine rr_if h (fun c21 h => ?_) (fun c21 h => ?_)
  · skip
    exact rx_sub (f_gri_countMore_79_ok_w1 hk6 _ _ _ _ _ _ _ _ h) [0, 1, 2, 3, 4, 5, 6, 7] rfl
  · skip
    refine rr_g h (fun c30 h => ?_)
    refine rr_if h (fun c32 h => ?_) (fun c32 h => ?_)
    · skip
      exact rx_sub (f_gri_countMore_79_ok_w1 hk6 _ _ _ _ _ _ _ _ h) [0, 1, 2, 3, 4, 5, 6, 7] rfl
    · skip
      refine rr_callS h (fun y hy => f_gri_figureAt_ok_w1 _ hy) (fun y1 hy1 h => ?_)
      refine rr_callS h (fun y hy => f_gri_figureAt_ok_w1 _ hy) (fun y2 hy2 h => ?_)
      refine rr_if h (fun c67 h => ?_) (fun c67 h => ?_)
      · skip
        exact rx_sub (f_gri_countMore_73_ok_w1 hk6 ih _ _ _ _ _ _ _ _ _ h) [1, 2, 3, 4, 5, 6, 7, 8, 9] rfl
      · skip
        exact rx_sub (f_gri_countMore_73_ok_w1 hk6 ih _ _ _ _ _ _ _ _ _ h) [2, 3, 4, 5, 6, 7, 0, 8, 9] rfl
set_option maxRecDepth 100000 in
set_option maxHeartbeats 4000000 in
theorem f_gri_countMore_6_ok_w1 {p0 p1 p2 p3 : Nat} {o : Int32 × rx_St} : ∀ (n : Nat) (v1 : Int32) (v2 : Int32) (v3 : Int32) (v4 : Int32) (v5 : Int32) (v6 : Int32) (v7 : Int32) (σ : rx_St), f_gri_countMore_6 1 n v1 v2 v3 v4 v5 v6 v7 σ = some o → rx_AtP none 48 6 [(0, .ref 76), (1, .int v1), (2, .int v2), (3, .int v3), (4, .int v4), (5, .int v5), (6, .int v6), (7, .int v7)] [] (rx_D [p0, p1, p2, p3, 21] σ) (some (.int o.1), rx_D [p0, p1, p2, p3, 21] o.2) := by
  intro n
  induction n with
  | zero => intro _ _ _ _ _ _ _ _ h; cases h
  | succ n ih =>
  intro v1 v2 v3 v4 v5 v6 v7 σ h
  refine rx_walk [6, 18, 73, 79] 2000 (by decide) rx_e48 ?_
  rw [f_gri_countMore_6] at h
  refine rr_if h (fun c12 h => ?_) (fun c12 h => ?_)
  · skip
    cases h
    exact And.intro (trivial) rfl
  · skip
    exact rx_sub (f_gri_countMore_18_ok_w1 ih rx_fu _ _ _ _ _ _ _ _ _ h) [1, 2, 3, 4, 5, 6, 7, 8, 0] rfl
set_option maxRecDepth 100000 in
set_option maxHeartbeats 4000000 in
theorem f_gri_countMore_ok_w1 {p0 p1 p2 p3 : Nat} {a0 : Int32} {a1 : Int32} {a2 : Int32} {a3 : Int32} {a4 : Int32} {σ : rx_St} : ∀ o, f_gri_countMore 1 a0 a1 a2 a3 a4 σ = some o → rx_OK 48 [.ref 76, .int a0, .int a1, .int a2, .int a3, .int a4] 162 [] [p0, p1, p2, p3, 21] σ (some (.int o.1), rx_D [p0, p1, p2, p3, 21] o.2) := by
  intro o h
  refine rx_OK_of (by decide) (Nat.le_of_ble_eq_true rfl) ?_
  refine rx_walk [6, 18, 73, 79] 2000 (by decide) rx_e48 ?_
  unfold f_gri_countMore at h
  exact rx_sub (f_gri_countMore_6_ok_w1 rx_fu _ _ _ _ _ _ _ _ h) [2, 3, 4, 5, 6, 7, 1, 0] rfl
set_option maxRecDepth 100000 in
set_option maxHeartbeats 4000000 in
theorem f_gri_countMore_79_ok_w0 {p0 p1 p2 p3 : Nat} {o : Int32 × rx_St} {k6 : Int32 → Int32 → Int32 → Int32 → Int32 → Int32 → Int32 → rx_St → Option (Int32 × rx_St)} (hk6 : ∀ (v1 : Int32) (v2 : Int32) (v3 : Int32) (v4 : Int32) (v5 : Int32) (v6 : Int32) (v7 : Int32) (σ : rx_St), k6 v1 v2 v3 v4 v5 v6 v7 σ = some o → rx_AtP none 48 6 [(0, .ref 76), (1, .int v1), (2, .int v2), (3, .int v3), (4, .int v4), (5, .int v5), (6, .int v6), (7, .int v7)] [] (rx_D [p0, p1, p2, p3, 7] σ) (some (.int o.1), rx_D [p0, p1, p2, p3, 7] o.2)) : ∀ (v1 : Int32) (v2 : Int32) (v3 : Int32) (v4 : Int32) (v5 : Int32) (v6 : Int32) (v7 : Int32) (σ : rx_St), f_gri_countMore_79 0 k6 v1 v2 v3 v4 v5 v6 v7 σ = some o → rx_AtP none 48 79 [(0, .ref 76), (1, .int v1), (2, .int v2), (3, .int v3), (4, .int v4), (5, .int v5), (6, .int v6), (7, .int v7)] [] (rx_D [p0, p1, p2, p3, 7] σ) (some (.int o.1), rx_D [p0, p1, p2, p3, 7] o.2) := by
  intro v1 v2 v3 v4 v5 v6 v7 σ h
  refine rx_walk [6, 18, 73, 79] 2000 (by decide) rx_e48 ?_
  unfold f_gri_countMore_79 at h
  exact rx_sub (hk6 _ _ _ _ _ _ _ _ h) [1, 2, 3, 4, 5, 6, 7, 0] rfl
set_option maxRecDepth 100000 in
set_option maxHeartbeats 4000000 in
theorem f_gri_countMore_73_ok_w0 {p0 p1 p2 p3 : Nat} {o : Int32 × rx_St} {k6 : Int32 → Int32 → Int32 → Int32 → Int32 → Int32 → Int32 → rx_St → Option (Int32 × rx_St)} {k18 : Int32 → Int32 → Int32 → Int32 → Int32 → Int32 → Int32 → Int32 → rx_St → Option (Int32 × rx_St)} (hk6 : ∀ (v1 : Int32) (v2 : Int32) (v3 : Int32) (v4 : Int32) (v5 : Int32) (v6 : Int32) (v7 : Int32) (σ : rx_St), k6 v1 v2 v3 v4 v5 v6 v7 σ = some o → rx_AtP none 48 6 [(0, .ref 76), (1, .int v1), (2, .int v2), (3, .int v3), (4, .int v4), (5, .int v5), (6, .int v6), (7, .int v7)] [] (rx_D [p0, p1, p2, p3, 7] σ) (some (.int o.1), rx_D [p0, p1, p2, p3, 7] o.2)) (hk18 : ∀ (v1 : Int32) (v2 : Int32) (v3 : Int32) (v4 : Int32) (v5 : Int32) (v6 : Int32) (v7 : Int32) (v8 : Int32) (σ : rx_St), k18 v1 v2 v3 v4 v5 v6 v7 v8 σ = some o → rx_AtP none 48 18 [(0, .ref 76), (1, .int v1), (2, .int v2), (3, .int v3), (4, .int v4), (5, .int v5), (6, .int v6), (7, .int v7), (8, .int v8)] [] (rx_D [p0, p1, p2, p3, 7] σ) (some (.int o.1), rx_D [p0, p1, p2, p3, 7] o.2)) : ∀ (v1 : Int32) (v2 : Int32) (v3 : Int32) (v4 : Int32) (v5 : Int32) (v6 : Int32) (v7 : Int32) (v8 : Int32) (σ : rx_St), f_gri_countMore_73 0 k6 k18 v1 v2 v3 v4 v5 v6 v7 v8 σ = some o → rx_AtP none 48 73 [(0, .ref 76), (1, .int v1), (2, .int v2), (3, .int v3), (4, .int v4), (5, .int v5), (6, .int v6), (7, .int v7), (8, .int v8)] [] (rx_D [p0, p1, p2, p3, 7] σ) (some (.int o.1), rx_D [p0, p1, p2, p3, 7] o.2) := by
  intro v1 v2 v3 v4 v5 v6 v7 v8 σ h
  refine rx_walk [6, 18, 73, 79] 2000 (by decide) rx_e48 ?_
  unfold f_gri_countMore_73 at h
  exact rx_sub (hk18 _ _ _ _ _ _ _ _ _ h) [1, 2, 3, 4, 5, 6, 7, 8, 0] rfl
set_option maxRecDepth 100000 in
set_option maxHeartbeats 4000000 in
theorem f_gri_countMore_18_ok_w0 {p0 p1 p2 p3 : Nat} {o : Int32 × rx_St} {k6 : Int32 → Int32 → Int32 → Int32 → Int32 → Int32 → Int32 → rx_St → Option (Int32 × rx_St)} (hk6 : ∀ (v1 : Int32) (v2 : Int32) (v3 : Int32) (v4 : Int32) (v5 : Int32) (v6 : Int32) (v7 : Int32) (σ : rx_St), k6 v1 v2 v3 v4 v5 v6 v7 σ = some o → rx_AtP none 48 6 [(0, .ref 76), (1, .int v1), (2, .int v2), (3, .int v3), (4, .int v4), (5, .int v5), (6, .int v6), (7, .int v7)] [] (rx_D [p0, p1, p2, p3, 7] σ) (some (.int o.1), rx_D [p0, p1, p2, p3, 7] o.2)) : ∀ (n : Nat) (v1 : Int32) (v2 : Int32) (v3 : Int32) (v4 : Int32) (v5 : Int32) (v6 : Int32) (v7 : Int32) (v8 : Int32) (σ : rx_St), f_gri_countMore_18 0 k6 n v1 v2 v3 v4 v5 v6 v7 v8 σ = some o → rx_AtP none 48 18 [(0, .ref 76), (1, .int v1), (2, .int v2), (3, .int v3), (4, .int v4), (5, .int v5), (6, .int v6), (7, .int v7), (8, .int v8)] [] (rx_D [p0, p1, p2, p3, 7] σ) (some (.int o.1), rx_D [p0, p1, p2, p3, 7] o.2) := by
  intro n
  induction n with
  | zero => intro _ _ _ _ _ _ _ _ _ h; cases h
  | succ n ih =>
  intro v1 v2 v3 v4 v5 v6 v7 v8 σ h
  refine rx_walk [6, 18, 73, 79] 2000 (by decide) rx_e48 ?_
  rw [f_gri_countMore_18] at h
  refine rr_if h (fun c21 h => ?_) (fun c21 h => ?_)
  · skip
    exact rx_sub (f_gri_countMore_79_ok_w0 hk6 _ _ _ _ _ _ _ _ h) [0, 1, 2, 3, 4, 5, 6, 7] rfl
  · skip
    refine rr_g h (fun c30 h => ?_)
    refine rr_if h (fun c32 h => ?_) (fun c32 h => ?_)
    · skip
      exact rx_sub (f_gri_countMore_79_ok_w0 hk6 _ _ _ _ _ _ _ _ h) [0, 1, 2, 3, 4, 5, 6, 7] rfl
    · skip
      refine rr_callS h (fun y hy => f_gri_figureAt_ok_w0 _ hy) (fun y1 hy1 h => ?_)
      refine rr_callS h (fun y hy => f_gri_figureAt_ok_w0 _ hy) (fun y2 hy2 h => ?_)
      refine rr_if h (fun c67 h => ?_) (fun c67 h => ?_)
      · skip
        exact rx_sub (f_gri_countMore_73_ok_w0 hk6 ih _ _ _ _ _ _ _ _ _ h) [1, 2, 3, 4, 5, 6, 7, 8, 9] rfl
      · skip
        exact rx_sub (f_gri_countMore_73_ok_w0 hk6 ih _ _ _ _ _ _ _ _ _ h) [2, 3, 4, 5, 6, 7, 0, 8, 9] rfl
set_option maxRecDepth 100000 in
set_option maxHeartbeats 4000000 in
theorem f_gri_countMore_6_ok_w0 {p0 p1 p2 p3 : Nat} {o : Int32 × rx_St} : ∀ (n : Nat) (v1 : Int32) (v2 : Int32) (v3 : Int32) (v4 : Int32) (v5 : Int32) (v6 : Int32) (v7 : Int32) (σ : rx_St), f_gri_countMore_6 0 n v1 v2 v3 v4 v5 v6 v7 σ = some o → rx_AtP none 48 6 [(0, .ref 76), (1, .int v1), (2, .int v2), (3, .int v3), (4, .int v4), (5, .int v5), (6, .int v6), (7, .int v7)] [] (rx_D [p0, p1, p2, p3, 7] σ) (some (.int o.1), rx_D [p0, p1, p2, p3, 7] o.2) := by
  intro n
  induction n with
  | zero => intro _ _ _ _ _ _ _ _ h; cases h
  | succ n ih =>
  intro v1 v2 v3 v4 v5 v6 v7 σ h
  refine rx_walk [6, 18, 73, 79] 2000 (by decide) rx_e48 ?_
  rw [f_gri_countMore_6] at h
  refine rr_if h (fun c12 h => ?_) (fun c12 h => ?_)
  · skip
    cases h
    exact And.intro (trivial) rfl
  · skip
    exact rx_sub (f_gri_countMore_18_ok_w0 ih rx_fu _ _ _ _ _ _ _ _ _ h) [1, 2, 3, 4, 5, 6, 7, 8, 0] rfl
set_option maxRecDepth 100000 in
set_option maxHeartbeats 4000000 in
theorem f_gri_countMore_ok_w0 {p0 p1 p2 p3 : Nat} {a0 : Int32} {a1 : Int32} {a2 : Int32} {a3 : Int32} {a4 : Int32} {σ : rx_St} : ∀ o, f_gri_countMore 0 a0 a1 a2 a3 a4 σ = some o → rx_OK 48 [.ref 76, .int a0, .int a1, .int a2, .int a3, .int a4] 162 [] [p0, p1, p2, p3, 7] σ (some (.int o.1), rx_D [p0, p1, p2, p3, 7] o.2) := by
  intro o h
  refine rx_OK_of (by decide) (Nat.le_of_ble_eq_true rfl) ?_
  refine rx_walk [6, 18, 73, 79] 2000 (by decide) rx_e48 ?_
  unfold f_gri_countMore at h
  exact rx_sub (f_gri_countMore_6_ok_w0 rx_fu _ _ _ _ _ _ _ _ h) [2, 3, 4, 5, 6, 7, 1, 0] rfl
set_option maxRecDepth 100000 in
theorem rx_e49 : rx_Ext none 49 := rx_Ext_plain (by decide +kernel)
set_option maxRecDepth 100000 in
set_option maxHeartbeats 4000000 in
theorem f_pla_rows_ok {P : List Nat} {σ : rx_St} {a0 : Int32} : ∀ o, f_pla_rows a0 = o → rx_OK 49 [.int a0] 162 [] P σ (some (.int o), rx_D P σ) := by
  intro o h
  refine rx_OK_of (by decide) (Nat.le_of_ble_eq_true rfl) ?_
  refine rx_walk [] 2000 (by decide) rx_e49 ?_
  unfold f_pla_rows at h
  cases h
  exact And.intro (trivial) rfl
set_option maxRecDepth 100000 in
theorem rx_e50 : rx_Ext none 50 := rx_Ext_plain (by decide +kernel)
set_option maxRecDepth 100000 in
set_option maxHeartbeats 4000000 in
theorem f_pla_hasEffects_ok {P : List Nat} {σ : rx_St} {a0 : Int32} {a1 : Int32} : ∀ o, f_pla_hasEffects a0 a1 = o → rx_OK 50 [.int a0, .int a1] 162 [] P σ (some (.int o), rx_D P σ) := by
  intro o h
  refine rx_OK_of (by decide) (Nat.le_of_ble_eq_true rfl) ?_
  refine rx_walk [] 2000 (by decide) rx_e50 ?_
  unfold f_pla_hasEffects at h
  refine rr_if h (fun c2 h => ?_) (fun c2 h => ?_)
  · skip
    cases h
    exact And.intro (Or.inl rfl) rfl
  · skip
    refine rr_if h (fun c7 h => ?_) (fun c7 h => ?_)
    · skip
      cases h
      exact And.intro (Or.inl rfl) rfl
    · skip
      refine rr_if h (fun c11 h => ?_) (fun c11 h => ?_)
      · skip
        cases h
        exact And.intro (Or.inl rfl) rfl
      · skip
        refine rr_callT (f_pla_rows_ok _ rfl) ?_
        refine rr_if h (fun c21 h => ?_) (fun c21 h => ?_)
        · skip
          cases h
          exact And.intro (Or.inl rfl) rfl
        · skip
          refine rr_if h (fun c27 h => ?_) (fun c27 h => ?_)
          · skip
            cases h
            exact And.intro (Or.inr rfl) rfl
          · skip
            cases h
            exact And.intro (Or.inl rfl) rfl
set_option maxRecDepth 100000 in
theorem rx_e51 : rx_Ext none 51 := rx_Ext_plain (by decide +kernel)
set_option maxRecDepth 100000 in
set_option maxHeartbeats 4000000 in
theorem f_pla_hasPlan_ok {P : List Nat} {σ : rx_St} {a0 : Int32} {a1 : Int32} : ∀ o, f_pla_hasPlan a0 a1 = o → rx_OK 51 [.int a0, .int a1] 162 [] P σ (some (.int o), rx_D P σ) := by
  intro o h
  refine rx_OK_of (by decide) (Nat.le_of_ble_eq_true rfl) ?_
  refine rx_walk [] 2000 (by decide) rx_e51 ?_
  unfold f_pla_hasPlan at h
  refine rr_if h (fun c2 h => ?_) (fun c2 h => ?_)
  · skip
    cases h
    exact And.intro (Or.inl rfl) rfl
  · skip
    refine rr_if h (fun c7 h => ?_) (fun c7 h => ?_)
    · skip
      cases h
      exact And.intro (Or.inl rfl) rfl
    · skip
      refine rr_if h (fun c12 h => ?_) (fun c12 h => ?_)
      · skip
        cases h
        exact And.intro (Or.inl rfl) rfl
      · skip
        refine rr_callT (f_pla_rows_ok _ rfl) ?_
        refine rr_if h (fun c22 h => ?_) (fun c22 h => ?_)
        · skip
          cases h
          exact And.intro (Or.inl rfl) rfl
        · skip
          cases h
          exact And.intro (Or.inr rfl) rfl
set_option maxRecDepth 100000 in
theorem rx_e54 : rx_Ext none 54 := rx_Ext_plain (by decide +kernel)
set_option maxRecDepth 100000 in
set_option maxHeartbeats 4000000 in
theorem f_pla_effectAt_ok {P : List Nat} {σ : rx_St} {a0 : Int32} {a1 : Int32} : ∀ o, f_pla_effectAt a0 a1 = o → rx_OK 54 [.int a0, .int a1] 162 [] P σ (some (.int o), rx_D P σ) := by
  intro o h
  refine rx_OK_of (by decide) (Nat.le_of_ble_eq_true rfl) ?_
  refine rx_walk [] 2000 (by decide) rx_e54 ?_
  unfold f_pla_effectAt at h
  refine rr_callT (f_j_bitCount_ok _ rfl) ?_
  refine rr_if h (fun c10 h => ?_) (fun c10 h => ?_)
  · skip
    cases h
    exact And.intro (trivial) rfl
  · skip
    cases h
    exact And.intro (trivial) rfl
set_option maxRecDepth 100000 in
theorem rx_e53 : rx_Ext none 53 := rx_Ext_plain (by decide +kernel)
set_option maxRecDepth 100000 in
set_option maxHeartbeats 4000000 in
theorem f_pla_sumOfProducts_42_ok {P : List Nat} {σ : rx_St} {o : Int32} {k6 : Int32 → Int32 → Int32 → Int32 → Int32 → Int32 → Option (Int32)} (hk6 : ∀ (v0 : Int32) (v1 : Int32) (v2 : Int32) (v3 : Int32) (v4 : Int32) (v5 : Int32), k6 v0 v1 v2 v3 v4 v5 = some o → rx_AtP none 53 6 [(0, .int v0), (1, .int v1), (2, .int v2), (3, .int v3), (4, .int v4), (5, .int v5)] [] (rx_D P σ) (some (.int o), rx_D P σ)) : ∀ (v0 : Int32) (v1 : Int32) (v2 : Int32) (v3 : Int32) (v4 : Int32) (v5 : Int32), f_pla_sumOfProducts_42 k6 v0 v1 v2 v3 v4 v5 = some o → rx_AtP none 53 42 [(0, .int v0), (1, .int v1), (2, .int v2), (3, .int v3), (4, .int v4), (5, .int v5)] [] (rx_D P σ) (some (.int o), rx_D P σ) := by
  intro v0 v1 v2 v3 v4 v5 h
  refine rx_walk [6, 42] 2000 (by decide) rx_e53 ?_
  unfold f_pla_sumOfProducts_42 at h
  exact rx_sub (hk6 _ _ _ _ _ _ h) [1, 2, 3, 4, 5, 0] rfl
set_option maxRecDepth 100000 in
set_option maxHeartbeats 4000000 in
theorem f_pla_sumOfProducts_6_ok {P : List Nat} {σ : rx_St} {o : Int32} : ∀ (n : Nat) (v0 : Int32) (v1 : Int32) (v2 : Int32) (v3 : Int32) (v4 : Int32) (v5 : Int32), f_pla_sumOfProducts_6 n v0 v1 v2 v3 v4 v5 = some o → rx_AtP none 53 6 [(0, .int v0), (1, .int v1), (2, .int v2), (3, .int v3), (4, .int v4), (5, .int v5)] [] (rx_D P σ) (some (.int o), rx_D P σ) := by
  intro n
  induction n with
  | zero => intro _ _ _ _ _ _ h; cases h
  | succ n ih =>
  intro v0 v1 v2 v3 v4 v5 h
  refine rx_walk [6, 42] 2000 (by decide) rx_e53 ?_
  rw [f_pla_sumOfProducts_6] at h
  refine rr_callT (f_pla_rows_ok _ rfl) ?_
  refine rr_if h (fun c12 h => ?_) (fun c12 h => ?_)
  · skip
    cases h
    exact And.intro (trivial) rfl
  · skip
    refine rr_if h (fun c21 h => ?_) (fun c21 h => ?_)
    · skip
      exact rx_sub (f_pla_sumOfProducts_42_ok ih _ _ _ _ _ _ h) [0, 1, 2, 3, 4, 5] rfl
    · skip
      refine rr_callT (f_pla_effectAt_ok _ rfl) ?_
      refine rr_callT (f_pla_effectAt_ok _ rfl) ?_
      exact rx_sub (f_pla_sumOfProducts_42_ok ih _ _ _ _ _ _ h) [1, 2, 3, 4, 0, 5] rfl
set_option maxRecDepth 100000 in
set_option maxHeartbeats 4000000 in
theorem f_pla_sumOfProducts_ok {P : List Nat} {σ : rx_St} {a0 : Int32} {a1 : Int32} {a2 : Int32} {a3 : Int32} : ∀ o, f_pla_sumOfProducts a0 a1 a2 a3 = some o → rx_OK 53 [.int a0, .int a1, .int a2, .int a3] 162 [] P σ (some (.int o), rx_D P σ) := by
  intro o h
  refine rx_OK_of (by decide) (Nat.le_of_ble_eq_true rfl) ?_
  refine rx_walk [6, 42] 2000 (by decide) rx_e53 ?_
  unfold f_pla_sumOfProducts at h
  exact rx_sub (f_pla_sumOfProducts_6_ok rx_fu _ _ _ _ _ _ h) [2, 3, 4, 5, 1, 0] rfl
set_option maxRecDepth 100000 in
theorem rx_e52 : rx_Ext none 52 := rx_Ext_plain (by decide +kernel)
set_option maxRecDepth 100000 in
set_option maxHeartbeats 4000000 in
theorem f_pla_isTelling_70_ok {P : List Nat} {σ : rx_St} {o : Int32} {k7 : Int32 → Int32 → Int32 → Int32 → Option (Int32)} {k19 : Int32 → Int32 → Int32 → Int32 → Int32 → Option (Int32)} (hk7 : ∀ (v0 : Int32) (v1 : Int32) (v3 : Int32) (v4 : Int32), k7 v0 v1 v3 v4 = some o → rx_AtP none 52 7 [(0, .int v0), (1, .int v1), (3, .int v3), (4, .int v4)] [] (rx_D P σ) (some (.int o), rx_D P σ)) (hk19 : ∀ (v0 : Int32) (v1 : Int32) (v3 : Int32) (v4 : Int32) (v5 : Int32), k19 v0 v1 v3 v4 v5 = some o → rx_AtP none 52 19 [(0, .int v0), (1, .int v1), (3, .int v3), (4, .int v4), (5, .int v5)] [] (rx_D P σ) (some (.int o), rx_D P σ)) : ∀ (v0 : Int32) (v1 : Int32) (v3 : Int32) (v4 : Int32) (v5 : Int32), f_pla_isTelling_70 k7 k19 v0 v1 v3 v4 v5 = some o → rx_AtP none 52 70 [(0, .int v0), (1, .int v1), (3, .int v3), (4, .int v4), (5, .int v5)] [] (rx_D P σ) (some (.int o), rx_D P σ) := by
  intro v0 v1 v3 v4 v5 h
  refine rx_walk [7, 19, 48, 49, 70] 2000 (by decide) rx_e52 ?_
  unfold f_pla_isTelling_70 at h
  exact rx_sub (hk19 _ _ _ _ _ h) [1, 2, 3, 4, 0] rfl
set_option maxRecDepth 100000 in
set_option maxHeartbeats 4000000 in
theorem f_pla_isTelling_49_ok {P : List Nat} {σ : rx_St} {o : Int32} {k7 : Int32 → Int32 → Int32 → Int32 → Option (Int32)} {k19 : Int32 → Int32 → Int32 → Int32 → Int32 → Option (Int32)} (hk7 : ∀ (v0 : Int32) (v1 : Int32) (v3 : Int32) (v4 : Int32), k7 v0 v1 v3 v4 = some o → rx_AtP none 52 7 [(0, .int v0), (1, .int v1), (3, .int v3), (4, .int v4)] [] (rx_D P σ) (some (.int o), rx_D P σ)) (hk19 : ∀ (v0 : Int32) (v1 : Int32) (v3 : Int32) (v4 : Int32) (v5 : Int32), k19 v0 v1 v3 v4 v5 = some o → rx_AtP none 52 19 [(0, .int v0), (1, .int v1), (3, .int v3), (4, .int v4), (5, .int v5)] [] (rx_D P σ) (some (.int o), rx_D P σ)) : ∀ (v0 : Int32) (v1 : Int32) (v3 : Int32) (v4 : Int32) (v5 : Int32) (s0 : Int32), f_pla_isTelling_49 k7 k19 v0 v1 v3 v4 v5 s0 = some o → rx_AtP none 52 49 [(0, .int v0), (1, .int v1), (3, .int v3), (4, .int v4), (5, .int v5)] [.int s0] (rx_D P σ) (some (.int o), rx_D P σ) := by
  intro v0 v1 v3 v4 v5 s0 h
  refine rx_walk [7, 19, 48, 49, 70] 2000 (by decide) rx_e52 ?_
  unfold f_pla_isTelling_49 at h
  refine rr_if h (fun c53 h => ?_) (fun c53 h => ?_)
  · skip
    exact rx_sub (f_pla_isTelling_70_ok hk7 hk19 _ _ _ _ _ h) [1, 2, 3, 4, 5] rfl
  · skip
    refine rr_callP h (fun y hy => f_pla_sumOfProducts_ok _ hy) (fun y1 hy1 h => ?_)
    refine rr_if h (fun c65 h => ?_) (fun c65 h => ?_)
    · skip
      exact rx_sub (f_pla_isTelling_70_ok hk7 hk19 _ _ _ _ _ h) [1, 2, 3, 4, 5] rfl
    · skip
      cases h
      exact And.intro (Or.inl rfl) rfl
set_option maxRecDepth 100000 in
set_option maxHeartbeats 4000000 in
theorem f_pla_isTelling_48_ok {P : List Nat} {σ : rx_St} {o : Int32} {k7 : Int32 → Int32 → Int32 → Int32 → Option (Int32)} {k19 : Int32 → Int32 → Int32 → Int32 → Int32 → Option (Int32)} (hk7 : ∀ (v0 : Int32) (v1 : Int32) (v3 : Int32) (v4 : Int32), k7 v0 v1 v3 v4 = some o → rx_AtP none 52 7 [(0, .int v0), (1, .int v1), (3, .int v3), (4, .int v4)] [] (rx_D P σ) (some (.int o), rx_D P σ)) (hk19 : ∀ (v0 : Int32) (v1 : Int32) (v3 : Int32) (v4 : Int32) (v5 : Int32), k19 v0 v1 v3 v4 v5 = some o → rx_AtP none 52 19 [(0, .int v0), (1, .int v1), (3, .int v3), (4, .int v4), (5, .int v5)] [] (rx_D P σ) (some (.int o), rx_D P σ)) : ∀ (v0 : Int32) (v1 : Int32) (v3 : Int32) (v4 : Int32) (v5 : Int32), f_pla_isTelling_48 k7 k19 v0 v1 v3 v4 v5 = some o → rx_AtP none 52 48 [(0, .int v0), (1, .int v1), (3, .int v3), (4, .int v4), (5, .int v5)] [] (rx_D P σ) (some (.int o), rx_D P σ) := by
  intro v0 v1 v3 v4 v5 h
  refine rx_walk [7, 19, 48, 49, 70] 2000 (by decide) rx_e52 ?_
  unfold f_pla_isTelling_48 at h
  exact rx_sub (f_pla_isTelling_49_ok hk7 hk19 _ _ _ _ _ _ h) [0, 1, 2, 3, 4] rfl
set_option maxRecDepth 100000 in
set_option maxHeartbeats 4000000 in
theorem f_pla_isTelling_19_ok {P : List Nat} {σ : rx_St} {o : Int32} {k7 : Int32 → Int32 → Int32 → Int32 → Option (Int32)} (hk7 : ∀ (v0 : Int32) (v1 : Int32) (v3 : Int32) (v4 : Int32), k7 v0 v1 v3 v4 = some o → rx_AtP none 52 7 [(0, .int v0), (1, .int v1), (3, .int v3), (4, .int v4)] [] (rx_D P σ) (some (.int o), rx_D P σ)) : ∀ (n : Nat) (v0 : Int32) (v1 : Int32) (v3 : Int32) (v4 : Int32) (v5 : Int32), f_pla_isTelling_19 k7 n v0 v1 v3 v4 v5 = some o → rx_AtP none 52 19 [(0, .int v0), (1, .int v1), (3, .int v3), (4, .int v4), (5, .int v5)] [] (rx_D P σ) (some (.int o), rx_D P σ) := by
  intro n
  induction n with
  | zero => intro _ _ _ _ _ h; cases h
  | succ n ih =>
  intro v0 v1 v3 v4 v5 h
  refine rx_walk [7, 19, 48, 49, 70] 2000 (by decide) rx_e52 ?_
  rw [f_pla_isTelling_19] at h
  refine rr_if h (fun c23 h => ?_) (fun c23 h => ?_)
  · skip
    exact rx_sub (hk7 _ _ _ _ h) [1, 2, 3, 0] rfl
  · skip
    refine rr_if h (fun c32 h => ?_) (fun c32 h => ?_)
    · skip
      exact rx_sub (f_pla_isTelling_48_ok hk7 ih _ _ _ _ _ h) [0, 1, 2, 3, 4] rfl
    · skip
      refine rr_if h (fun c41 h => ?_) (fun c41 h => ?_)
      · skip
        exact rx_sub (f_pla_isTelling_48_ok hk7 ih _ _ _ _ _ h) [0, 1, 2, 3, 4] rfl
      · skip
        exact rx_sub (f_pla_isTelling_49_ok hk7 ih _ _ _ _ _ _ h) [0, 1, 2, 3, 4] rfl
set_option maxRecDepth 100000 in
set_option maxHeartbeats 4000000 in
theorem f_pla_isTelling_7_ok {P : List Nat} {σ : rx_St} {o : Int32} : ∀ (n : Nat) (v0 : Int32) (v1 : Int32) (v3 : Int32) (v4 : Int32), f_pla_isTelling_7 n v0 v1 v3 v4 = some o → rx_AtP none 52 7 [(0, .int v0), (1, .int v1), (3, .int v3), (4, .int v4)] [] (rx_D P σ) (some (.int o), rx_D P σ) := by
  intro n
  induction n with
  | zero => intro _ _ _ _ h; cases h
  | succ n ih =>
  intro v0 v1 v3 v4 h
  refine rx_walk [7, 19, 48, 49, 70] 2000 (by decide) rx_e52 ?_
  rw [f_pla_isTelling_7] at h
  refine rr_callT (f_pla_rows_ok _ rfl) ?_
  refine rr_if h (fun c13 h => ?_) (fun c13 h => ?_)
  · skip
    cases h
    exact And.intro (Or.inr rfl) rfl
  · skip
    exact rx_sub (f_pla_isTelling_19_ok ih rx_fu _ _ _ _ _ h) [1, 2, 3, 4, 0] rfl
set_option maxRecDepth 100000 in
set_option maxHeartbeats 4000000 in
theorem f_pla_isTelling_ok {P : List Nat} {σ : rx_St} {a0 : Int32} {a1 : Int32} {a2 : Int32} : ∀ o, f_pla_isTelling a0 a1 a2 = some o → rx_OK 52 [.int a0, .int a1, .int a2] 162 [] P σ (some (.int o), rx_D P σ) := by
  intro o h
  refine rx_OK_of (by decide) (Nat.le_of_ble_eq_true rfl) ?_
  refine rx_walk [7, 19, 48, 49, 70] 2000 (by decide) rx_e52 ?_
  unfold f_pla_isTelling at h
  exact rx_sub (f_pla_isTelling_7_ok rx_fu _ _ _ _ h) [2, 3, 1, 0] rfl
set_option maxRecDepth 100000 in
theorem rx_e55 : rx_Ext none 55 := rx_Ext_plain (by decide +kernel)
set_option maxRecDepth 100000 in
set_option maxHeartbeats 4000000 in
theorem f_pla_fewestRows_53_ok {P : List Nat} {σ : rx_St} {o : Int32} {k5 : Int32 → Int32 → Int32 → Int32 → Option (Int32)} (hk5 : ∀ (v0 : Int32) (v1 : Int32) (v2 : Int32) (v3 : Int32), k5 v0 v1 v2 v3 = some o → rx_AtP none 55 5 [(0, .int v0), (1, .int v1), (2, .int v2), (3, .int v3)] [] (rx_D P σ) (some (.int o), rx_D P σ)) : ∀ (v0 : Int32) (v1 : Int32) (v2 : Int32) (v3 : Int32), f_pla_fewestRows_53 k5 v0 v1 v2 v3 = some o → rx_AtP none 55 53 [(0, .int v0), (1, .int v1), (2, .int v2), (3, .int v3)] [] (rx_D P σ) (some (.int o), rx_D P σ) := by
  intro v0 v1 v2 v3 h
  refine rx_walk [5, 30, 35, 53] 2000 (by decide) rx_e55 ?_
  unfold f_pla_fewestRows_53 at h
  exact rx_sub (hk5 _ _ _ _ h) [1, 2, 3, 0] rfl
set_option maxRecDepth 100000 in
set_option maxHeartbeats 4000000 in
theorem f_pla_fewestRows_35_ok {P : List Nat} {σ : rx_St} {o : Int32} {k5 : Int32 → Int32 → Int32 → Int32 → Option (Int32)} (hk5 : ∀ (v0 : Int32) (v1 : Int32) (v2 : Int32) (v3 : Int32), k5 v0 v1 v2 v3 = some o → rx_AtP none 55 5 [(0, .int v0), (1, .int v1), (2, .int v2), (3, .int v3)] [] (rx_D P σ) (some (.int o), rx_D P σ)) : ∀ (v0 : Int32) (v1 : Int32) (v2 : Int32) (v3 : Int32) (s0 : Int32), f_pla_fewestRows_35 k5 v0 v1 v2 v3 s0 = some o → rx_AtP none 55 35 [(0, .int v0), (1, .int v1), (2, .int v2), (3, .int v3)] [.int s0] (rx_D P σ) (some (.int o), rx_D P σ) := by
  intro v0 v1 v2 v3 s0 h
  refine rx_walk [5, 30, 35, 53] 2000 (by decide) rx_e55 ?_
  unfold f_pla_fewestRows_35 at h
  refine rr_if h (fun c39 h => ?_) (fun c39 h => ?_)
  · skip
    exact rx_sub (f_pla_fewestRows_53_ok hk5 _ _ _ _ h) [1, 2, 3, 4] rfl
  · skip
    refine rr_callP h (fun y hy => f_pla_isTelling_ok _ hy) (fun y1 hy1 h => ?_)
    refine rr_if h (fun c48 h => ?_) (fun c48 h => ?_)
    · skip
      exact rx_sub (f_pla_fewestRows_53_ok hk5 _ _ _ _ h) [1, 2, 3, 4] rfl
    · skip
      exact rx_sub (f_pla_fewestRows_53_ok hk5 _ _ _ _ h) [2, 3, 0, 4] rfl
set_option maxRecDepth 100000 in
set_option maxHeartbeats 4000000 in
theorem f_pla_fewestRows_30_ok {P : List Nat} {σ : rx_St} {o : Int32} {k5 : Int32 → Int32 → Int32 → Int32 → Option (Int32)} (hk5 : ∀ (v0 : Int32) (v1 : Int32) (v2 : Int32) (v3 : Int32), k5 v0 v1 v2 v3 = some o → rx_AtP none 55 5 [(0, .int v0), (1, .int v1), (2, .int v2), (3, .int v3)] [] (rx_D P σ) (some (.int o), rx_D P σ)) : ∀ (v0 : Int32) (v1 : Int32) (v2 : Int32) (v3 : Int32), f_pla_fewestRows_30 k5 v0 v1 v2 v3 = some o → rx_AtP none 55 30 [(0, .int v0), (1, .int v1), (2, .int v2), (3, .int v3)] [] (rx_D P σ) (some (.int o), rx_D P σ) := by
  intro v0 v1 v2 v3 h
  refine rx_walk [5, 30, 35, 53] 2000 (by decide) rx_e55 ?_
  unfold f_pla_fewestRows_30 at h
  exact rx_sub (f_pla_fewestRows_35_ok hk5 _ _ _ _ _ h) [0, 1, 2, 3] rfl
set_option maxRecDepth 100000 in
set_option maxHeartbeats 4000000 in
theorem f_pla_fewestRows_5_ok {P : List Nat} {σ : rx_St} {o : Int32} : ∀ (n : Nat) (v0 : Int32) (v1 : Int32) (v2 : Int32) (v3 : Int32), f_pla_fewestRows_5 n v0 v1 v2 v3 = some o → rx_AtP none 55 5 [(0, .int v0), (1, .int v1), (2, .int v2), (3, .int v3)] [] (rx_D P σ) (some (.int o), rx_D P σ) := by
  intro n
  induction n with
  | zero => intro _ _ _ _ h; cases h
  | succ n ih =>
  intro v0 v1 v2 v3 h
  refine rx_walk [5, 30, 35, 53] 2000 (by decide) rx_e55 ?_
  rw [f_pla_fewestRows_5] at h
  refine rr_callT (f_pla_rows_ok _ rfl) ?_
  refine rr_if h (fun c12 h => ?_) (fun c12 h => ?_)
  · skip
    cases h
    exact And.intro (trivial) rfl
  · skip
    refine rr_if h (fun c16 h => ?_) (fun c16 h => ?_)
    · skip
      exact rx_sub (f_pla_fewestRows_30_ok ih _ _ _ _ h) [0, 1, 2, 3] rfl
    · skip
      refine rr_callT (f_j_bitCount_ok _ rfl) ?_
      refine rr_callT (f_j_bitCount_ok _ rfl) ?_
      refine rr_if h (fun c27 h => ?_) (fun c27 h => ?_)
      · skip
        exact rx_sub (f_pla_fewestRows_35_ok ih _ _ _ _ _ h) [0, 1, 2, 3] rfl
      · skip
        exact rx_sub (f_pla_fewestRows_30_ok ih _ _ _ _ h) [0, 1, 2, 3] rfl
set_option maxRecDepth 100000 in
set_option maxHeartbeats 4000000 in
theorem f_pla_fewestRows_ok {P : List Nat} {σ : rx_St} {a0 : Int32} {a1 : Int32} : ∀ o, f_pla_fewestRows a0 a1 = some o → rx_OK 55 [.int a0, .int a1] 162 [] P σ (some (.int o), rx_D P σ) := by
  intro o h
  refine rx_OK_of (by decide) (Nat.le_of_ble_eq_true rfl) ?_
  refine rx_walk [5, 30, 35, 53] 2000 (by decide) rx_e55 ?_
  unfold f_pla_fewestRows at h
  exact rx_sub (f_pla_fewestRows_5_ok rx_fu _ _ _ _ h) [2, 3, 1, 0] rfl
set_option maxRecDepth 100000 in
theorem rx_e113 : rx_Ext none 113 := rx_Ext_plain (by decide +kernel)
set_option maxRecDepth 100000 in
set_option maxHeartbeats 4000000 in
theorem f_wor_empty_ok_w0 {P : List Nat} {σ : rx_St} : ∀ o, f_wor_empty 0 σ = some o → rx_OK 113 [.ref 7] 162 [] P σ (none, rx_D P o) := by
  intro o h
  refine rx_OK_of (by decide) (Nat.le_of_ble_eq_true rfl) ?_
  refine rx_walk [] 2000 (by decide) rx_e113 ?_
  unfold f_wor_empty at h
  refine rr_ck (Or.inl rfl) ?_
  cases h
  exact And.intro (rfl) rfl
set_option maxRecDepth 100000 in
set_option maxHeartbeats 4000000 in
theorem f_wor_empty_ok_w1 {P : List Nat} {σ : rx_St} : ∀ o, f_wor_empty 1 σ = some o → rx_OK 113 [.ref 21] 162 [] P σ (none, rx_D P o) := by
  intro o h
  refine rx_OK_of (by decide) (Nat.le_of_ble_eq_true rfl) ?_
  refine rx_walk [] 2000 (by decide) rx_e113 ?_
  unfold f_wor_empty at h
  refine rr_ck (Or.inl rfl) ?_
  cases h
  exact And.intro (rfl) rfl
set_option maxRecDepth 100000 in
theorem rx_e59 : rx_Ext none 59 := rx_Ext_plain (by decide +kernel)
set_option maxRecDepth 100000 in
set_option maxHeartbeats 4000000 in
theorem f_rea_next_ok {P : List Nat} {σ : rx_St} : ∀ o, f_rea_next σ = some o → rx_OK 59 [.ref 35] 162 [] P σ (some (.int o), rx_D P σ) := by
  intro o h
  refine rx_OK_of (by decide) (Nat.le_of_ble_eq_true rfl) ?_
  refine rx_walk [] 2000 (by decide) rx_e59 ?_
  unfold f_rea_next at h
  refine rr_if h (fun c4 h => ?_) (fun c4 h => ?_)
  · skip
    refine rr_if h (fun c19 h => ?_) (fun c19 h => ?_)
    · skip
      cases h
      exact And.intro (trivial) rfl
    · skip
      refine rr_g h (fun c33 h => ?_)
      cases h
      exact And.intro (trivial) rfl
  · skip
    cases h
    exact And.intro (trivial) rfl
set_option maxRecDepth 100000 in
theorem rx_e61 : rx_Ext none 61 := rx_Ext_plain (by decide +kernel)
set_option maxRecDepth 100000 in
set_option maxHeartbeats 4000000 in
theorem f_rea_needRoom_ok {P : List Nat} {a0 : Int32} {a1 : Int32} {σ : rx_St} : ∀ o, f_rea_needRoom a0 a1 σ = some o → rx_OK 61 [.ref 35, .int a0, .int a1] 162 [] P σ (none, rx_D P o) := by
  intro o h
  refine rx_OK_of (by decide) (Nat.le_of_ble_eq_true rfl) ?_
  refine rx_walk [] 2000 (by decide) rx_e61 ?_
  unfold f_rea_needRoom at h
  refine rr_if h (fun c4 h => ?_) (fun c4 h => ?_)
  · skip
    refine rr_if h (fun c9 h => ?_) (fun c9 h => ?_)
    · skip
      cases h
      exact And.intro (rfl) rfl
    · skip
      cases h
      exact And.intro (rfl) rfl
  · skip
    cases h
    exact And.intro (rfl) rfl
set_option maxRecDepth 100000 in
theorem rx_e60 : rx_Ext none 60 := rx_Ext_plain (by decide +kernel)
set_option maxRecDepth 100000 in
set_option maxHeartbeats 4000000 in
theorem f_rea_take_ok {P : List Nat} {a0 : Int32} {σ : rx_St} : ∀ o, f_rea_take a0 σ = some o → rx_OK 60 [.ref 35, .int a0] 162 [] P σ (some (.int o.1), rx_D P o.2) := by
  intro o h
  refine rx_OK_of (by decide) (Nat.le_of_ble_eq_true rfl) ?_
  refine rx_walk [] 2000 (by decide) rx_e60 ?_
  unfold f_rea_take at h
  refine rr_if h (fun c9 h => ?_) (fun c9 h => ?_)
  · skip
    refine rr_callP h (fun y hy => f_rea_next_ok _ hy) (fun y1 hy1 h => ?_)
    refine rr_if h (fun c17 h => ?_) (fun c17 h => ?_)
    · skip
      refine rr_if h (fun c35 h => ?_) (fun c35 h => ?_)
      · skip
        cases h
        exact And.intro (trivial) rfl
      · skip
        cases h
        exact And.intro (trivial) rfl
    · skip
      cases h
      exact And.intro (trivial) rfl
  · skip
    cases h
    exact And.intro (trivial) rfl
set_option maxRecDepth 100000 in
theorem rx_e117 : rx_Ext none 117 := rx_Ext_plain (by decide +kernel)
set_option maxRecDepth 100000 in
set_option maxHeartbeats 4000000 in
theorem f_wor_addSetting_ok_w0 {P : List Nat} {a0 : Int32} {a1 : Int32} {σ : rx_St} : ∀ o, f_wor_addSetting 0 a0 a1 σ = some o → rx_OK 117 [.ref 7, .int a0, .int a1] 162 [] P σ (none, rx_D P o) := by
  intro o h
  refine rx_OK_of (by decide) (Nat.le_of_ble_eq_true rfl) ?_
  refine rx_walk [] 2000 (by decide) rx_e117 ?_
  unfold f_wor_addSetting at h
  refine rr_if h (fun c6 h => ?_) (fun c6 h => ?_)
  · skip
    cases h
    exact And.intro (rfl) rfl
  · skip
    refine rr_g h (fun c18 h => ?_)
    refine rr_g h (fun c28 h => ?_)
    cases h
    exact And.intro (rfl) rfl
set_option maxRecDepth 100000 in
set_option maxHeartbeats 4000000 in
theorem f_wor_addSetting_ok_w1 {P : List Nat} {a0 : Int32} {a1 : Int32} {σ : rx_St} : ∀ o, f_wor_addSetting 1 a0 a1 σ = some o → rx_OK 117 [.ref 21, .int a0, .int a1] 162 [] P σ (none, rx_D P o) := by
  intro o h
  refine rx_OK_of (by decide) (Nat.le_of_ble_eq_true rfl) ?_
  refine rx_walk [] 2000 (by decide) rx_e117 ?_
  unfold f_wor_addSetting at h
  refine rr_if h (fun c6 h => ?_) (fun c6 h => ?_)
  · skip
    cases h
    exact And.intro (rfl) rfl
  · skip
    refine rr_g h (fun c18 h => ?_)
    refine rr_g h (fun c28 h => ?_)
    cases h
    exact And.intro (rfl) rfl
set_option maxRecDepth 100000 in
theorem rx_e62 : rx_Ext none 62 := rx_Ext_plain (by decide +kernel)
set_option maxRecDepth 100000 in
set_option maxHeartbeats 4000000 in
theorem f_rea_parseSetting_ok_w0 {p0 p1 p3 p4 : Nat} {σ : rx_St} : ∀ o, f_rea_parseSetting 0 σ = some o → rx_OK 62 [.ref 35] 162 [] [p0, p1, 7, p3, p4] σ (none, rx_D [p0, p1, 7, p3, p4] o) := by
  intro o h
  refine rx_OK_of (by decide) (Nat.le_of_ble_eq_true rfl) ?_
  refine rx_walk [] 2000 (by decide) rx_e62 ?_
  unfold f_rea_parseSetting at h
  refine rr_callV h (fun y hy => f_rea_needRoom_ok _ hy) (fun y1 hy1 h => ?_)
  refine rr_callS h (fun y hy => f_rea_take_ok _ hy) (fun y2 hy2 h => ?_)
  refine rr_callS h (fun y hy => f_rea_take_ok _ hy) (fun y3 hy3 h => ?_)
  refine rr_callS h (fun y hy => f_rea_take_ok _ hy) (fun y4 hy4 h => ?_)
  refine rr_callS h (fun y hy => f_rea_take_ok _ hy) (fun y5 hy5 h => ?_)
  refine rr_callS h (fun y hy => f_rea_take_ok _ hy) (fun y6 hy6 h => ?_)
  refine rr_if h (fun c51 h => ?_) (fun c51 h => ?_)
  · skip
    refine rr_callPL h (fun y hy => f_tap_valueOf_ok _ hy) (fun y7 hy7 h => ?_)
    refine rr_callV h (fun y hy => f_wor_addSetting_ok_w0 _ hy) (fun y8 hy8 h => ?_)
    cases h
    exact And.intro (rfl) rfl
  · skip
    cases h
    exact And.intro (rfl) rfl
set_option maxRecDepth 100000 in
set_option maxHeartbeats 4000000 in
theorem f_rea_parseSetting_ok_w1 {p0 p1 p3 p4 : Nat} {σ : rx_St} : ∀ o, f_rea_parseSetting 1 σ = some o → rx_OK 62 [.ref 35] 162 [] [p0, p1, 21, p3, p4] σ (none, rx_D [p0, p1, 21, p3, p4] o) := by
  intro o h
  refine rx_OK_of (by decide) (Nat.le_of_ble_eq_true rfl) ?_
  refine rx_walk [] 2000 (by decide) rx_e62 ?_
  unfold f_rea_parseSetting at h
  refine rr_callV h (fun y hy => f_rea_needRoom_ok _ hy) (fun y1 hy1 h => ?_)
  refine rr_callS h (fun y hy => f_rea_take_ok _ hy) (fun y2 hy2 h => ?_)
  refine rr_callS h (fun y hy => f_rea_take_ok _ hy) (fun y3 hy3 h => ?_)
  refine rr_callS h (fun y hy => f_rea_take_ok _ hy) (fun y4 hy4 h => ?_)
  refine rr_callS h (fun y hy => f_rea_take_ok _ hy) (fun y5 hy5 h => ?_)
  refine rr_callS h (fun y hy => f_rea_take_ok _ hy) (fun y6 hy6 h => ?_)
  refine rr_if h (fun c51 h => ?_) (fun c51 h => ?_)
  · skip
    refine rr_callPL h (fun y hy => f_tap_valueOf_ok _ hy) (fun y7 hy7 h => ?_)
    refine rr_callV h (fun y hy => f_wor_addSetting_ok_w1 _ hy) (fun y8 hy8 h => ?_)
    cases h
    exact And.intro (rfl) rfl
  · skip
    cases h
    exact And.intro (rfl) rfl
set_option maxRecDepth 100000 in
theorem rx_e118 : rx_Ext none 118 := rx_Ext_plain (by decide +kernel)
set_option maxRecDepth 100000 in
set_option maxHeartbeats 4000000 in
theorem f_wor_addKind_ok_w0 {P : List Nat} {a0 : Int32} {σ : rx_St} : ∀ o, f_wor_addKind 0 a0 σ = some o → rx_OK 118 [.ref 7, .int a0] 162 [] P σ (none, rx_D P o) := by
  intro o h
  refine rx_OK_of (by decide) (Nat.le_of_ble_eq_true rfl) ?_
  refine rx_walk [] 2000 (by decide) rx_e118 ?_
  unfold f_wor_addKind at h
  refine rr_if h (fun c5 h => ?_) (fun c5 h => ?_)
  · skip
    cases h
    exact And.intro (rfl) rfl
  · skip
    refine rr_g h (fun c17 h => ?_)
    refine rr_g h (fun c27 h => ?_)
    refine rr_g h (fun c37 h => ?_)
    refine rr_g h (fun c50 h => ?_)
    refine rr_g h (fun c63 h => ?_)
    cases h
    exact And.intro (rfl) rfl
set_option maxRecDepth 100000 in
set_option maxHeartbeats 4000000 in
theorem f_wor_addKind_ok_w1 {P : List Nat} {a0 : Int32} {σ : rx_St} : ∀ o, f_wor_addKind 1 a0 σ = some o → rx_OK 118 [.ref 21, .int a0] 162 [] P σ (none, rx_D P o) := by
  intro o h
  refine rx_OK_of (by decide) (Nat.le_of_ble_eq_true rfl) ?_
  refine rx_walk [] 2000 (by decide) rx_e118 ?_
  unfold f_wor_addKind at h
  refine rr_if h (fun c5 h => ?_) (fun c5 h => ?_)
  · skip
    cases h
    exact And.intro (rfl) rfl
  · skip
    refine rr_g h (fun c17 h => ?_)
    refine rr_g h (fun c27 h => ?_)
    refine rr_g h (fun c37 h => ?_)
    refine rr_g h (fun c50 h => ?_)
    refine rr_g h (fun c63 h => ?_)
    cases h
    exact And.intro (rfl) rfl
set_option maxRecDepth 100000 in
theorem rx_e63 : rx_Ext none 63 := rx_Ext_plain (by decide +kernel)
set_option maxRecDepth 100000 in
set_option maxHeartbeats 4000000 in
theorem f_rea_openKind_ok_w0 {p0 p1 p3 p4 : Nat} {σ : rx_St} : ∀ o, f_rea_openKind 0 σ = some o → rx_OK 63 [.ref 35] 162 [] [p0, p1, 7, p3, p4] σ (none, rx_D [p0, p1, 7, p3, p4] o) := by
  intro o h
  refine rx_OK_of (by decide) (Nat.le_of_ble_eq_true rfl) ?_
  refine rx_walk [] 2000 (by decide) rx_e63 ?_
  unfold f_rea_openKind at h
  refine rr_callV h (fun y hy => f_rea_needRoom_ok _ hy) (fun y1 hy1 h => ?_)
  refine rr_callS h (fun y hy => f_rea_take_ok _ hy) (fun y2 hy2 h => ?_)
  refine rr_callS h (fun y hy => f_rea_take_ok _ hy) (fun y3 hy3 h => ?_)
  refine rr_if h (fun c29 h => ?_) (fun c29 h => ?_)
  · skip
    refine rr_callV h (fun y hy => f_wor_addKind_ok_w0 _ hy) (fun y4 hy4 h => ?_)
    cases h
    exact And.intro (rfl) rfl
  · skip
    cases h
    exact And.intro (rfl) rfl
set_option maxRecDepth 100000 in
set_option maxHeartbeats 4000000 in
theorem f_rea_openKind_ok_w1 {p0 p1 p3 p4 : Nat} {σ : rx_St} : ∀ o, f_rea_openKind 1 σ = some o → rx_OK 63 [.ref 35] 162 [] [p0, p1, 21, p3, p4] σ (none, rx_D [p0, p1, 21, p3, p4] o) := by
  intro o h
  refine rx_OK_of (by decide) (Nat.le_of_ble_eq_true rfl) ?_
  refine rx_walk [] 2000 (by decide) rx_e63 ?_
  unfold f_rea_openKind at h
  refine rr_callV h (fun y hy => f_rea_needRoom_ok _ hy) (fun y1 hy1 h => ?_)
  refine rr_callS h (fun y hy => f_rea_take_ok _ hy) (fun y2 hy2 h => ?_)
  refine rr_callS h (fun y hy => f_rea_take_ok _ hy) (fun y3 hy3 h => ?_)
  refine rr_if h (fun c29 h => ?_) (fun c29 h => ?_)
  · skip
    refine rr_callV h (fun y hy => f_wor_addKind_ok_w1 _ hy) (fun y4 hy4 h => ?_)
    cases h
    exact And.intro (rfl) rfl
  · skip
    cases h
    exact And.intro (rfl) rfl
set_option maxRecDepth 100000 in
theorem rx_e119 : rx_Ext none 119 := rx_Ext_plain (by decide +kernel)
set_option maxRecDepth 100000 in
set_option maxHeartbeats 4000000 in
theorem f_wor_addVar_ok_w0 {P : List Nat} {a0 : Int32} {a1 : Int32} {a2 : Int32} {a3 : Int32} {σ : rx_St} : ∀ o, f_wor_addVar 0 a0 a1 a2 a3 σ = some o → rx_OK 119 [.ref 7, .int a0, .int a1, .int a2, .int a3] 162 [] P σ (none, rx_D P o) := by
  intro o h
  refine rx_OK_of (by decide) (Nat.le_of_ble_eq_true rfl) ?_
  refine rx_walk [] 2000 (by decide) rx_e119 ?_
  unfold f_wor_addVar at h
  refine rr_callT (f_wor_hasKind_ok_w0 _ rfl) ?_
  refine rr_if h (fun c5 h => ?_) (fun c5 h => ?_)
  · skip
    cases h
    exact And.intro (rfl) rfl
  · skip
    refine rr_g h (fun c13 h => ?_)
    refine rr_if h (fun c16 h => ?_) (fun c16 h => ?_)
    · skip
      cases h
      exact And.intro (rfl) rfl
    · skip
      refine rr_g h (fun c28 h => ?_)
      refine rr_g h (fun c39 h => ?_)
      refine rr_g h (fun c47 h => ?_)
      refine rr_g h (fun c56 h => ?_)
      refine rr_g h (fun c63 h => ?_)
      refine rr_g h (fun c66 h => ?_)
      cases h
      exact And.intro (rfl) rfl
set_option maxRecDepth 100000 in
set_option maxHeartbeats 4000000 in
theorem f_wor_addVar_ok_w1 {P : List Nat} {a0 : Int32} {a1 : Int32} {a2 : Int32} {a3 : Int32} {σ : rx_St} : ∀ o, f_wor_addVar 1 a0 a1 a2 a3 σ = some o → rx_OK 119 [.ref 21, .int a0, .int a1, .int a2, .int a3] 162 [] P σ (none, rx_D P o) := by
  intro o h
  refine rx_OK_of (by decide) (Nat.le_of_ble_eq_true rfl) ?_
  refine rx_walk [] 2000 (by decide) rx_e119 ?_
  unfold f_wor_addVar at h
  refine rr_callT (f_wor_hasKind_ok_w1 _ rfl) ?_
  refine rr_if h (fun c5 h => ?_) (fun c5 h => ?_)
  · skip
    cases h
    exact And.intro (rfl) rfl
  · skip
    refine rr_g h (fun c13 h => ?_)
    refine rr_if h (fun c16 h => ?_) (fun c16 h => ?_)
    · skip
      cases h
      exact And.intro (rfl) rfl
    · skip
      refine rr_g h (fun c28 h => ?_)
      refine rr_g h (fun c39 h => ?_)
      refine rr_g h (fun c47 h => ?_)
      refine rr_g h (fun c56 h => ?_)
      refine rr_g h (fun c63 h => ?_)
      refine rr_g h (fun c66 h => ?_)
      cases h
      exact And.intro (rfl) rfl
set_option maxRecDepth 100000 in
theorem rx_e64 : rx_Ext none 64 := rx_Ext_plain (by decide +kernel)
set_option maxRecDepth 100000 in
set_option maxHeartbeats 4000000 in
theorem f_rea_parseHas_137_ok_w0 {p0 p1 p3 p4 : Nat} {o : rx_St} : ∀ (v1 : Int32) (s1 : Int32) (s2 : Int32) (s3 : Int32) (σ : rx_St), f_rea_parseHas_137 0 v1 s1 s2 s3 σ = some o → rx_AtP none 64 137 [(1, .int v1)] [.int s3, .int s2, .int s1, .ref 7] (rx_D [p0, p1, 7, p3, p4] σ) (none, rx_D [p0, p1, 7, p3, p4] o) := by
  intro v1 s1 s2 s3 σ h
  refine rx_walk [31, 42, 74, 86, 137] 2000 (by decide) rx_e64 ?_
  unfold f_rea_parseHas_137 at h
  refine rr_callV h (fun y hy => f_wor_addVar_ok_w0 _ hy) (fun y1 hy1 h => ?_)
  cases h
  exact And.intro (rfl) rfl
set_option maxRecDepth 100000 in
set_option maxHeartbeats 4000000 in
theorem f_rea_parseHas_86_ok_w0 {p0 p1 p3 p4 : Nat} {o : rx_St} : ∀ (v1 : Int32) (v2 : Int32) (v3 : Int32) (σ : rx_St), f_rea_parseHas_86 0 v1 v2 v3 σ = some o → rx_AtP none 64 86 [(0, .ref 35), (1, .int v1), (2, .int v2), (3, .int v3)] [] (rx_D [p0, p1, 7, p3, p4] σ) (none, rx_D [p0, p1, 7, p3, p4] o) := by
  intro v1 v2 v3 σ h
  refine rx_walk [31, 42, 74, 86, 137] 2000 (by decide) rx_e64 ?_
  unfold f_rea_parseHas_86 at h
  refine rr_callS h (fun y hy => f_rea_take_ok _ hy) (fun y1 hy1 h => ?_)
  refine rr_callPL h (fun y hy => f_tap_valueOf_ok _ hy) (fun y2 hy2 h => ?_)
  refine rr_callS h (fun y hy => f_rea_take_ok _ hy) (fun y3 hy3 h => ?_)
  refine rr_if h (fun c113 h => ?_) (fun c113 h => ?_)
  · skip
    refine rr_if h (fun c126 h => ?_) (fun c126 h => ?_)
    · skip
      exact rx_sub (f_rea_parseHas_137_ok_w0 _ _ _ _ _ h) [2] rfl
    · skip
      exact rx_sub (f_rea_parseHas_137_ok_w0 _ _ _ _ _ h) [2] rfl
  · skip
    cases h
    exact And.intro (rfl) rfl
set_option maxRecDepth 100000 in
set_option maxHeartbeats 4000000 in
theorem f_rea_parseHas_74_ok_w0 {p0 p1 p3 p4 : Nat} {o : rx_St} : ∀ (v1 : Int32) (v2 : Int32) (s0 : Int32) (σ : rx_St), f_rea_parseHas_74 0 v1 v2 s0 σ = some o → rx_AtP none 64 74 [(0, .ref 35), (1, .int v1), (2, .int v2)] [.int s0] (rx_D [p0, p1, 7, p3, p4] σ) (none, rx_D [p0, p1, 7, p3, p4] o) := by
  intro v1 v2 s0 σ h
  refine rx_walk [31, 42, 74, 86, 137] 2000 (by decide) rx_e64 ?_
  unfold f_rea_parseHas_74 at h
  refine rr_if h (fun c76 h => ?_) (fun c76 h => ?_)
  · skip
    exact rx_sub (f_rea_parseHas_86_ok_w0 _ _ _ _ h) [1, 2, 3, 0] rfl
  · skip
    refine rr_callS h (fun y hy => f_rea_take_ok _ hy) (fun y1 hy1 h => ?_)
    exact rx_sub (f_rea_parseHas_86_ok_w0 _ _ _ _ h) [1, 2, 3, 0] rfl
set_option maxRecDepth 100000 in
set_option maxHeartbeats 4000000 in
theorem f_rea_parseHas_42_ok_w0 {p0 p1 p3 p4 : Nat} {o : rx_St} : ∀ (v1 : Int32) (s1 : Int32) (σ : rx_St), f_rea_parseHas_42 0 v1 s1 σ = some o → rx_AtP none 64 42 [(0, .ref 35), (1, .int v1)] [.int s1, .ref 35] (rx_D [p0, p1, 7, p3, p4] σ) (none, rx_D [p0, p1, 7, p3, p4] o) := by
  intro v1 s1 σ h
  refine rx_walk [31, 42, 74, 86, 137] 2000 (by decide) rx_e64 ?_
  unfold f_rea_parseHas_42 at h
  refine rr_callS h (fun y hy => f_rea_take_ok _ hy) (fun y1 hy1 h => ?_)
  refine rr_callS h (fun y hy => f_rea_take_ok _ hy) (fun y2 hy2 h => ?_)
  refine rr_callS h (fun y hy => f_rea_take_ok _ hy) (fun y3 hy3 h => ?_)
  refine rr_callP h (fun y hy => f_rea_next_ok _ hy) (fun y4 hy4 h => ?_)
  refine rr_if h (fun c66 h => ?_) (fun c66 h => ?_)
  · skip
    exact rx_sub (f_rea_parseHas_74_ok_w0 _ _ _ _ h) [1, 2, 0] rfl
  · skip
    exact rx_sub (f_rea_parseHas_74_ok_w0 _ _ _ _ h) [1, 2, 0] rfl
set_option maxRecDepth 100000 in
set_option maxHeartbeats 4000000 in
theorem f_rea_parseHas_31_ok_w0 {p0 p1 p3 p4 : Nat} {o : rx_St} : ∀ (s0 : Int32) (σ : rx_St), f_rea_parseHas_31 0 s0 σ = some o → rx_AtP none 64 31 [(0, .ref 35)] [.int s0] (rx_D [p0, p1, 7, p3, p4] σ) (none, rx_D [p0, p1, 7, p3, p4] o) := by
  intro s0 σ h
  refine rx_walk [31, 42, 74, 86, 137] 2000 (by decide) rx_e64 ?_
  unfold f_rea_parseHas_31 at h
  refine rr_if h (fun c34 h => ?_) (fun c34 h => ?_)
  · skip
    exact rx_sub (f_rea_parseHas_42_ok_w0 _ _ _ h) [1, 0] rfl
  · skip
    exact rx_sub (f_rea_parseHas_42_ok_w0 _ _ _ h) [1, 0] rfl
set_option maxRecDepth 100000 in
set_option maxHeartbeats 4000000 in
theorem f_rea_parseHas_ok_w0 {p0 p1 p3 p4 : Nat} {σ : rx_St} : ∀ o, f_rea_parseHas 0 σ = some o → rx_OK 64 [.ref 35] 162 [] [p0, p1, 7, p3, p4] σ (none, rx_D [p0, p1, 7, p3, p4] o) := by
  intro o h
  refine rx_OK_of (by decide) (Nat.le_of_ble_eq_true rfl) ?_
  refine rx_walk [31, 42, 74, 86, 137] 2000 (by decide) rx_e64 ?_
  unfold f_rea_parseHas at h
  refine rr_g h (fun c12 h => ?_)
  refine rr_callV h (fun y hy => f_rea_needRoom_ok _ hy) (fun y1 hy1 h => ?_)
  refine rr_callP h (fun y hy => f_rea_next_ok _ hy) (fun y2 hy2 h => ?_)
  refine rr_if h (fun c23 h => ?_) (fun c23 h => ?_)
  · skip
    exact rx_sub (f_rea_parseHas_31_ok_w0 _ _ h) [0] rfl
  · skip
    exact rx_sub (f_rea_parseHas_31_ok_w0 _ _ h) [0] rfl
set_option maxRecDepth 100000 in
set_option maxHeartbeats 4000000 in
theorem f_rea_parseHas_137_ok_w1 {p0 p1 p3 p4 : Nat} {o : rx_St} : ∀ (v1 : Int32) (s1 : Int32) (s2 : Int32) (s3 : Int32) (σ : rx_St), f_rea_parseHas_137 1 v1 s1 s2 s3 σ = some o → rx_AtP none 64 137 [(1, .int v1)] [.int s3, .int s2, .int s1, .ref 21] (rx_D [p0, p1, 21, p3, p4] σ) (none, rx_D [p0, p1, 21, p3, p4] o) := by
  intro v1 s1 s2 s3 σ h
  refine rx_walk [31, 42, 74, 86, 137] 2000 (by decide) rx_e64 ?_
  unfold f_rea_parseHas_137 at h
  refine rr_callV h (fun y hy => f_wor_addVar_ok_w1 _ hy) (fun y1 hy1 h => ?_)
  cases h
  exact And.intro (rfl) rfl
set_option maxRecDepth 100000 in
set_option maxHeartbeats 4000000 in
theorem f_rea_parseHas_86_ok_w1 {p0 p1 p3 p4 : Nat} {o : rx_St} : ∀ (v1 : Int32) (v2 : Int32) (v3 : Int32) (σ : rx_St), f_rea_parseHas_86 1 v1 v2 v3 σ = some o → rx_AtP none 64 86 [(0, .ref 35), (1, .int v1), (2, .int v2), (3, .int v3)] [] (rx_D [p0, p1, 21, p3, p4] σ) (none, rx_D [p0, p1, 21, p3, p4] o) := by
  intro v1 v2 v3 σ h
  refine rx_walk [31, 42, 74, 86, 137] 2000 (by decide) rx_e64 ?_
  unfold f_rea_parseHas_86 at h
  refine rr_callS h (fun y hy => f_rea_take_ok _ hy) (fun y1 hy1 h => ?_)
  refine rr_callPL h (fun y hy => f_tap_valueOf_ok _ hy) (fun y2 hy2 h => ?_)
  refine rr_callS h (fun y hy => f_rea_take_ok _ hy) (fun y3 hy3 h => ?_)
  refine rr_if h (fun c113 h => ?_) (fun c113 h => ?_)
  · skip
    refine rr_if h (fun c126 h => ?_) (fun c126 h => ?_)
    · skip
      exact rx_sub (f_rea_parseHas_137_ok_w1 _ _ _ _ _ h) [2] rfl
    · skip
      exact rx_sub (f_rea_parseHas_137_ok_w1 _ _ _ _ _ h) [2] rfl
  · skip
    cases h
    exact And.intro (rfl) rfl
set_option maxRecDepth 100000 in
set_option maxHeartbeats 4000000 in
theorem f_rea_parseHas_74_ok_w1 {p0 p1 p3 p4 : Nat} {o : rx_St} : ∀ (v1 : Int32) (v2 : Int32) (s0 : Int32) (σ : rx_St), f_rea_parseHas_74 1 v1 v2 s0 σ = some o → rx_AtP none 64 74 [(0, .ref 35), (1, .int v1), (2, .int v2)] [.int s0] (rx_D [p0, p1, 21, p3, p4] σ) (none, rx_D [p0, p1, 21, p3, p4] o) := by
  intro v1 v2 s0 σ h
  refine rx_walk [31, 42, 74, 86, 137] 2000 (by decide) rx_e64 ?_
  unfold f_rea_parseHas_74 at h
  refine rr_if h (fun c76 h => ?_) (fun c76 h => ?_)
  · skip
    exact rx_sub (f_rea_parseHas_86_ok_w1 _ _ _ _ h) [1, 2, 3, 0] rfl
  · skip
    refine rr_callS h (fun y hy => f_rea_take_ok _ hy) (fun y1 hy1 h => ?_)
    exact rx_sub (f_rea_parseHas_86_ok_w1 _ _ _ _ h) [1, 2, 3, 0] rfl
set_option maxRecDepth 100000 in
set_option maxHeartbeats 4000000 in
theorem f_rea_parseHas_42_ok_w1 {p0 p1 p3 p4 : Nat} {o : rx_St} : ∀ (v1 : Int32) (s1 : Int32) (σ : rx_St), f_rea_parseHas_42 1 v1 s1 σ = some o → rx_AtP none 64 42 [(0, .ref 35), (1, .int v1)] [.int s1, .ref 35] (rx_D [p0, p1, 21, p3, p4] σ) (none, rx_D [p0, p1, 21, p3, p4] o) := by
  intro v1 s1 σ h
  refine rx_walk [31, 42, 74, 86, 137] 2000 (by decide) rx_e64 ?_
  unfold f_rea_parseHas_42 at h
  refine rr_callS h (fun y hy => f_rea_take_ok _ hy) (fun y1 hy1 h => ?_)
  refine rr_callS h (fun y hy => f_rea_take_ok _ hy) (fun y2 hy2 h => ?_)
  refine rr_callS h (fun y hy => f_rea_take_ok _ hy) (fun y3 hy3 h => ?_)
  refine rr_callP h (fun y hy => f_rea_next_ok _ hy) (fun y4 hy4 h => ?_)
  refine rr_if h (fun c66 h => ?_) (fun c66 h => ?_)
  · skip
    exact rx_sub (f_rea_parseHas_74_ok_w1 _ _ _ _ h) [1, 2, 0] rfl
  · skip
    exact rx_sub (f_rea_parseHas_74_ok_w1 _ _ _ _ h) [1, 2, 0] rfl
set_option maxRecDepth 100000 in
set_option maxHeartbeats 4000000 in
theorem f_rea_parseHas_31_ok_w1 {p0 p1 p3 p4 : Nat} {o : rx_St} : ∀ (s0 : Int32) (σ : rx_St), f_rea_parseHas_31 1 s0 σ = some o → rx_AtP none 64 31 [(0, .ref 35)] [.int s0] (rx_D [p0, p1, 21, p3, p4] σ) (none, rx_D [p0, p1, 21, p3, p4] o) := by
  intro s0 σ h
  refine rx_walk [31, 42, 74, 86, 137] 2000 (by decide) rx_e64 ?_
  unfold f_rea_parseHas_31 at h
  refine rr_if h (fun c34 h => ?_) (fun c34 h => ?_)
  · skip
    exact rx_sub (f_rea_parseHas_42_ok_w1 _ _ _ h) [1, 0] rfl
  · skip
    exact rx_sub (f_rea_parseHas_42_ok_w1 _ _ _ h) [1, 0] rfl
set_option maxRecDepth 100000 in
set_option maxHeartbeats 4000000 in
theorem f_rea_parseHas_ok_w1 {p0 p1 p3 p4 : Nat} {σ : rx_St} : ∀ o, f_rea_parseHas 1 σ = some o → rx_OK 64 [.ref 35] 162 [] [p0, p1, 21, p3, p4] σ (none, rx_D [p0, p1, 21, p3, p4] o) := by
  intro o h
  refine rx_OK_of (by decide) (Nat.le_of_ble_eq_true rfl) ?_
  refine rx_walk [31, 42, 74, 86, 137] 2000 (by decide) rx_e64 ?_
  unfold f_rea_parseHas at h
  refine rr_g h (fun c12 h => ?_)
  refine rr_callV h (fun y hy => f_rea_needRoom_ok _ hy) (fun y1 hy1 h => ?_)
  refine rr_callP h (fun y hy => f_rea_next_ok _ hy) (fun y2 hy2 h => ?_)
  refine rr_if h (fun c23 h => ?_) (fun c23 h => ?_)
  · skip
    exact rx_sub (f_rea_parseHas_31_ok_w1 _ _ h) [0] rfl
  · skip
    exact rx_sub (f_rea_parseHas_31_ok_w1 _ _ h) [0] rfl
set_option maxRecDepth 100000 in
theorem rx_e70 : rx_Ext none 70 := rx_Ext_plain (by decide +kernel)
set_option maxRecDepth 100000 in
set_option maxHeartbeats 4000000 in
theorem f_rea_await_ok {P : List Nat} {a0 : Int32} {σ : rx_St} : ∀ o, f_rea_await a0 σ = some o → rx_OK 70 [.ref 35, .int a0] 162 [] P σ (none, rx_D P o) := by
  intro o h
  refine rx_OK_of (by decide) (Nat.le_of_ble_eq_true rfl) ?_
  refine rx_walk [] 2000 (by decide) rx_e70 ?_
  unfold f_rea_await at h
  refine rr_if h (fun c9 h => ?_) (fun c9 h => ?_)
  · skip
    cases h
    exact And.intro (rfl) rfl
  · skip
    refine rr_g h (fun c21 h => ?_)
    cases h
    exact And.intro (rfl) rfl
set_option maxRecDepth 100000 in
theorem rx_e120 : rx_Ext none 120 := rx_Ext_plain (by decide +kernel)
set_option maxRecDepth 100000 in
set_option maxHeartbeats 4000000 in
theorem f_wor_emit_78_ok_w0 {P : List Nat} {o : rx_St} : ∀ (σ : rx_St), f_wor_emit_78 0 σ = some o → rx_AtP none 120 78 [] [.ref 7] (rx_D P σ) (none, rx_D P o) := by
  intro σ h
  refine rx_walk [52, 78] 2000 (by decide) rx_e120 ?_
  unfold f_wor_emit_78 at h
  refine rr_ck (Or.inr rfl) ?_
  cases h
  exact And.intro (rfl) rfl
set_option maxRecDepth 100000 in
set_option maxHeartbeats 4000000 in
theorem f_wor_emit_52_ok_w0 {P : List Nat} {o : rx_St} : ∀ (v1 : Int32) (σ : rx_St), f_wor_emit_52 0 v1 σ = some o → rx_AtP none 120 52 [(0, .ref 7), (1, .int v1)] [] (rx_D P σ) (none, rx_D P o) := by
  intro v1 σ h
  refine rx_walk [52, 78] 2000 (by decide) rx_e120 ?_
  unfold f_wor_emit_52 at h
  refine rr_if h (fun c57 h => ?_) (fun c57 h => ?_)
  · skip
    refine rr_if h (fun c63 h => ?_) (fun c63 h => ?_)
    · skip
      exact rx_sub (f_wor_emit_78_ok_w0 _ h) [] rfl
    · skip
      refine rr_if h (fun c69 h => ?_) (fun c69 h => ?_)
      · skip
        exact rx_sub (f_wor_emit_78_ok_w0 _ h) [] rfl
      · skip
        refine rr_if h (fun c75 h => ?_) (fun c75 h => ?_)
        · skip
          exact rx_sub (f_wor_emit_78_ok_w0 _ h) [] rfl
        · skip
          refine rr_ck (Or.inl rfl) ?_
          cases h
          exact And.intro (rfl) rfl
  · skip
    exact rx_sub (f_wor_emit_78_ok_w0 _ h) [] rfl
set_option maxRecDepth 100000 in
set_option maxHeartbeats 4000000 in
theorem f_wor_emit_ok_w0 {P : List Nat} {a0 : Int32} {a1 : Int32} {a2 : Int32} {σ : rx_St} : ∀ o, f_wor_emit 0 a0 a1 a2 σ = some o → rx_OK 120 [.ref 7, .int a0, .int a1, .int a2] 162 [] P σ (none, rx_D P o) := by
  intro o h
  refine rx_OK_of (by decide) (Nat.le_of_ble_eq_true rfl) ?_
  refine rx_walk [52, 78] 2000 (by decide) rx_e120 ?_
  unfold f_wor_emit at h
  refine rr_if h (fun c9 h => ?_) (fun c9 h => ?_)
  · skip
    exact rx_sub (f_wor_emit_52_ok_w0 _ _ h) [0, 1] rfl
  · skip
    refine rr_g h (fun c21 h => ?_)
    refine rr_g h (fun c31 h => ?_)
    refine rr_g h (fun c41 h => ?_)
    exact rx_sub (f_wor_emit_52_ok_w0 _ _ h) [0, 1] rfl
set_option maxRecDepth 100000 in
set_option maxHeartbeats 4000000 in
theorem f_wor_emit_78_ok_w1 {P : List Nat} {o : rx_St} : ∀ (σ : rx_St), f_wor_emit_78 1 σ = some o → rx_AtP none 120 78 [] [.ref 21] (rx_D P σ) (none, rx_D P o) := by
  intro σ h
  refine rx_walk [52, 78] 2000 (by decide) rx_e120 ?_
  unfold f_wor_emit_78 at h
  refine rr_ck (Or.inr rfl) ?_
  cases h
  exact And.intro (rfl) rfl
set_option maxRecDepth 100000 in
set_option maxHeartbeats 4000000 in
theorem f_wor_emit_52_ok_w1 {P : List Nat} {o : rx_St} : ∀ (v1 : Int32) (σ : rx_St), f_wor_emit_52 1 v1 σ = some o → rx_AtP none 120 52 [(0, .ref 21), (1, .int v1)] [] (rx_D P σ) (none, rx_D P o) := by
  intro v1 σ h
  refine rx_walk [52, 78] 2000 (by decide) rx_e120 ?_
  unfold f_wor_emit_52 at h
  refine rr_if h (fun c57 h => ?_) (fun c57 h => ?_)
  · skip
    refine rr_if h (fun c63 h => ?_) (fun c63 h => ?_)
    · skip
      exact rx_sub (f_wor_emit_78_ok_w1 _ h) [] rfl
    · skip
      refine rr_if h (fun c69 h => ?_) (fun c69 h => ?_)
      · skip
        exact rx_sub (f_wor_emit_78_ok_w1 _ h) [] rfl
      · skip
        refine rr_if h (fun c75 h => ?_) (fun c75 h => ?_)
        · skip
          exact rx_sub (f_wor_emit_78_ok_w1 _ h) [] rfl
        · skip
          refine rr_ck (Or.inl rfl) ?_
          cases h
          exact And.intro (rfl) rfl
  · skip
    exact rx_sub (f_wor_emit_78_ok_w1 _ h) [] rfl
set_option maxRecDepth 100000 in
set_option maxHeartbeats 4000000 in
theorem f_wor_emit_ok_w1 {P : List Nat} {a0 : Int32} {a1 : Int32} {a2 : Int32} {σ : rx_St} : ∀ o, f_wor_emit 1 a0 a1 a2 σ = some o → rx_OK 120 [.ref 21, .int a0, .int a1, .int a2] 162 [] P σ (none, rx_D P o) := by
  intro o h
  refine rx_OK_of (by decide) (Nat.le_of_ble_eq_true rfl) ?_
  refine rx_walk [52, 78] 2000 (by decide) rx_e120 ?_
  unfold f_wor_emit at h
  refine rr_if h (fun c9 h => ?_) (fun c9 h => ?_)
  · skip
    exact rx_sub (f_wor_emit_52_ok_w1 _ _ h) [0, 1] rfl
  · skip
    refine rr_g h (fun c21 h => ?_)
    refine rr_g h (fun c31 h => ?_)
    refine rr_g h (fun c41 h => ?_)
    exact rx_sub (f_wor_emit_52_ok_w1 _ _ h) [0, 1] rfl
set_option maxRecDepth 100000 in
theorem rx_e72 : rx_Ext none 72 := rx_Ext_plain (by decide +kernel)
set_option maxRecDepth 100000 in
set_option maxHeartbeats 4000000 in
theorem f_rea_parseUnit_79_ok_w0 {p0 p1 p3 p4 : Nat} {o : rx_St} : ∀ (v1 : Int32) (σ : rx_St), f_rea_parseUnit_79 0 v1 σ = some o → rx_AtP none 72 79 [(0, .ref 35), (1, .int v1)] [] (rx_D [p0, p1, 7, p3, p4] σ) (none, rx_D [p0, p1, 7, p3, p4] o) := by
  intro v1 σ h
  refine rx_walk [79] 2000 (by decide) rx_e72 ?_
  unfold f_rea_parseUnit_79 at h
  refine rr_callS h (fun y hy => f_rea_take_ok _ hy) (fun y1 hy1 h => ?_)
  refine rr_callV h (fun y hy => f_wor_emit_ok_w0 _ hy) (fun y2 hy2 h => ?_)
  cases h
  exact And.intro (rfl) rfl
set_option maxRecDepth 100000 in
set_option maxHeartbeats 4000000 in
theorem f_rea_parseUnit_ok_w0 {p0 p1 p3 p4 : Nat} {σ : rx_St} : ∀ o, f_rea_parseUnit 0 σ = some o → rx_OK 72 [.ref 35] 162 [] [p0, p1, 7, p3, p4] σ (none, rx_D [p0, p1, 7, p3, p4] o) := by
  intro o h
  refine rx_OK_of (by decide) (Nat.le_of_ble_eq_true rfl) ?_
  refine rx_walk [79] 2000 (by decide) rx_e72 ?_
  unfold f_rea_parseUnit at h
  refine rr_callP h (fun y hy => f_rea_next_ok _ hy) (fun y1 hy1 h => ?_)
  refine rr_if h (fun c6_0 h => ?_) (fun c6_0 h => ?_)
  · skip
    exact rx_sub (f_rea_parseUnit_79_ok_w0 _ _ h) [1, 0] rfl
  · skip
    refine rr_if h (fun c6_1 h => ?_) (fun c6_1 h => ?_)
    · skip
      exact rx_sub (f_rea_parseUnit_79_ok_w0 _ _ h) [1, 0] rfl
    · skip
      refine rr_if h (fun c6_2 h => ?_) (fun c6_2 h => ?_)
      · skip
        exact rx_sub (f_rea_parseUnit_79_ok_w0 _ _ h) [1, 0] rfl
      · skip
        refine rr_if h (fun c6_3 h => ?_) (fun c6_3 h => ?_)
        · skip
          refine rr_callS h (fun y hy => f_rea_take_ok _ hy) (fun y13 hy13 h => ?_)
          refine rr_callS h (fun y hy => f_rea_take_ok _ hy) (fun y14 hy14 h => ?_)
          refine rr_callV h (fun y hy => f_wor_emit_ok_w0 _ hy) (fun y15 hy15 h => ?_)
          cases h
          exact And.intro (rfl) rfl
        · skip
          refine rr_if h (fun c6_4 h => ?_) (fun c6_4 h => ?_)
          · skip
            refine rr_callS h (fun y hy => f_rea_take_ok _ hy) (fun y9 hy9 h => ?_)
            refine rr_callS h (fun y hy => f_rea_take_ok _ hy) (fun y10 hy10 h => ?_)
            refine rr_callS h (fun y hy => f_rea_take_ok _ hy) (fun y11 hy11 h => ?_)
            refine rr_callV h (fun y hy => f_wor_emit_ok_w0 _ hy) (fun y12 hy12 h => ?_)
            cases h
            exact And.intro (rfl) rfl
          · skip
            refine rr_if h (fun c6_5 h => ?_) (fun c6_5 h => ?_)
            · skip
              refine rr_callS h (fun y hy => f_rea_take_ok _ hy) (fun y6 hy6 h => ?_)
              refine rr_callS h (fun y hy => f_rea_take_ok _ hy) (fun y7 hy7 h => ?_)
              refine rr_callV h (fun y hy => f_wor_emit_ok_w0 _ hy) (fun y8 hy8 h => ?_)
              cases h
              exact And.intro (rfl) rfl
            · skip
              refine rr_if h (fun c6_6 h => ?_) (fun c6_6 h => ?_)
              · skip
                exact rx_sub (f_rea_parseUnit_79_ok_w0 _ _ h) [1, 0] rfl
              · skip
                refine rr_if h (fun c6_7 h => ?_) (fun c6_7 h => ?_)
                · skip
                  refine rr_callS h (fun y hy => f_rea_take_ok _ hy) (fun y3 hy3 h => ?_)
                  refine rr_callPL h (fun y hy => f_tap_valueOf_ok _ hy) (fun y4 hy4 h => ?_)
                  refine rr_callV h (fun y hy => f_wor_emit_ok_w0 _ hy) (fun y5 hy5 h => ?_)
                  cases h
                  exact And.intro (rfl) rfl
                · skip
                  refine rr_callS h (fun y hy => f_rea_take_ok _ hy) (fun y2 hy2 h => ?_)
                  cases h
                  exact And.intro (rfl) rfl
set_option maxRecDepth 100000 in
set_option maxHeartbeats 4000000 in
theorem f_rea_parseUnit_79_ok_w1 {p0 p1 p3 p4 : Nat} {o : rx_St} : ∀ (v1 : Int32) (σ : rx_St), f_rea_parseUnit_79 1 v1 σ = some o → rx_AtP none 72 79 [(0, .ref 35), (1, .int v1)] [] (rx_D [p0, p1, 21, p3, p4] σ) (none, rx_D [p0, p1, 21, p3, p4] o) := by
  intro v1 σ h
  refine rx_walk [79] 2000 (by decide) rx_e72 ?_
  unfold f_rea_parseUnit_79 at h
  refine rr_callS h (fun y hy => f_rea_take_ok _ hy) (fun y1 hy1 h => ?_)
  refine rr_callV h (fun y hy => f_wor_emit_ok_w1 _ hy) (fun y2 hy2 h => ?_)
  cases h
  exact And.intro (rfl) rfl
set_option maxRecDepth 100000 in
set_option maxHeartbeats 4000000 in
theorem f_rea_parseUnit_ok_w1 {p0 p1 p3 p4 : Nat} {σ : rx_St} : ∀ o, f_rea_parseUnit 1 σ = some o → rx_OK 72 [.ref 35] 162 [] [p0, p1, 21, p3, p4] σ (none, rx_D [p0, p1, 21, p3, p4] o) := by
  intro o h
  refine rx_OK_of (by decide) (Nat.le_of_ble_eq_true rfl) ?_
  refine rx_walk [79] 2000 (by decide) rx_e72 ?_
  unfold f_rea_parseUnit at h
  refine rr_callP h (fun y hy => f_rea_next_ok _ hy) (fun y1 hy1 h => ?_)
  refine rr_if h (fun c6_0 h => ?_) (fun c6_0 h => ?_)
  · skip
    exact rx_sub (f_rea_parseUnit_79_ok_w1 _ _ h) [1, 0] rfl
  · skip
    refine rr_if h (fun c6_1 h => ?_) (fun c6_1 h => ?_)
    · skip
      exact rx_sub (f_rea_parseUnit_79_ok_w1 _ _ h) [1, 0] rfl
    · skip
      refine rr_if h (fun c6_2 h => ?_) (fun c6_2 h => ?_)
      · skip
        exact rx_sub (f_rea_parseUnit_79_ok_w1 _ _ h) [1, 0] rfl
      · skip
        refine rr_if h (fun c6_3 h => ?_) (fun c6_3 h => ?_)
        · skip
          refine rr_callS h (fun y hy => f_rea_take_ok _ hy) (fun y13 hy13 h => ?_)
          refine rr_callS h (fun y hy => f_rea_take_ok _ hy) (fun y14 hy14 h => ?_)
          refine rr_callV h (fun y hy => f_wor_emit_ok_w1 _ hy) (fun y15 hy15 h => ?_)
          cases h
          exact And.intro (rfl) rfl
        · skip
          refine rr_if h (fun c6_4 h => ?_) (fun c6_4 h => ?_)
          · skip
            refine rr_callS h (fun y hy => f_rea_take_ok _ hy) (fun y9 hy9 h => ?_)
            refine rr_callS h (fun y hy => f_rea_take_ok _ hy) (fun y10 hy10 h => ?_)
            refine rr_callS h (fun y hy => f_rea_take_ok _ hy) (fun y11 hy11 h => ?_)
            refine rr_callV h (fun y hy => f_wor_emit_ok_w1 _ hy) (fun y12 hy12 h => ?_)
            cases h
            exact And.intro (rfl) rfl
          · skip
            refine rr_if h (fun c6_5 h => ?_) (fun c6_5 h => ?_)
            · skip
              refine rr_callS h (fun y hy => f_rea_take_ok _ hy) (fun y6 hy6 h => ?_)
              refine rr_callS h (fun y hy => f_rea_take_ok _ hy) (fun y7 hy7 h => ?_)
              refine rr_callV h (fun y hy => f_wor_emit_ok_w1 _ hy) (fun y8 hy8 h => ?_)
              cases h
              exact And.intro (rfl) rfl
            · skip
              refine rr_if h (fun c6_6 h => ?_) (fun c6_6 h => ?_)
              · skip
                exact rx_sub (f_rea_parseUnit_79_ok_w1 _ _ h) [1, 0] rfl
              · skip
                refine rr_if h (fun c6_7 h => ?_) (fun c6_7 h => ?_)
                · skip
                  refine rr_callS h (fun y hy => f_rea_take_ok _ hy) (fun y3 hy3 h => ?_)
                  refine rr_callPL h (fun y hy => f_tap_valueOf_ok _ hy) (fun y4 hy4 h => ?_)
                  refine rr_callV h (fun y hy => f_wor_emit_ok_w1 _ hy) (fun y5 hy5 h => ?_)
                  cases h
                  exact And.intro (rfl) rfl
                · skip
                  refine rr_callS h (fun y hy => f_rea_take_ok _ hy) (fun y2 hy2 h => ?_)
                  cases h
                  exact And.intro (rfl) rfl
set_option maxRecDepth 100000 in
theorem rx_e71 : rx_Ext none 71 := rx_Ext_plain (by decide +kernel)
set_option maxRecDepth 100000 in
set_option maxHeartbeats 4000000 in
theorem f_rea_emitWaiting_48_ok_w0 {p0 p1 p3 p4 : Nat} {o : rx_St} {k0 : Int32 → rx_St → Option (rx_St)} (hk0 : ∀ (v1 : Int32) (σ : rx_St), k0 v1 σ = some o → rx_AtP none 71 0 [(0, .ref 35), (1, .int v1)] [] (rx_D [p0, p1, 7, p3, p4] σ) (none, rx_D [p0, p1, 7, p3, p4] o)) : ∀ (v1 : Int32) (v2 : Int32) (s0 : Int32) (σ : rx_St), f_rea_emitWaiting_48 0 k0 v1 v2 s0 σ = some o → rx_AtP none 71 48 [(0, .ref 35), (1, .int v1), (2, .int v2)] [.int s0] (rx_D [p0, p1, 7, p3, p4] σ) (none, rx_D [p0, p1, 7, p3, p4] o) := by
  intro v1 v2 s0 σ h
  refine rx_walk [0, 43, 48] 2000 (by decide) rx_e71 ?_
  unfold f_rea_emitWaiting_48 at h
  refine rr_if h (fun c52 h => ?_) (fun c52 h => ?_)
  · skip
    cases h
    exact And.intro (rfl) rfl
  · skip
    refine rr_if h (fun c56 h => ?_) (fun c56 h => ?_)
    · skip
      cases h
      exact And.intro (rfl) rfl
    · skip
      refine rr_callV h (fun y hy => f_wor_emit_ok_w0 _ hy) (fun y1 hy1 h => ?_)
      exact rx_sub (hk0 _ _ h) [1, 2] rfl
set_option maxRecDepth 100000 in
set_option maxHeartbeats 4000000 in
theorem f_rea_emitWaiting_43_ok_w0 {p0 p1 p3 p4 : Nat} {o : rx_St} {k0 : Int32 → rx_St → Option (rx_St)} (hk0 : ∀ (v1 : Int32) (σ : rx_St), k0 v1 σ = some o → rx_AtP none 71 0 [(0, .ref 35), (1, .int v1)] [] (rx_D [p0, p1, 7, p3, p4] σ) (none, rx_D [p0, p1, 7, p3, p4] o)) : ∀ (v1 : Int32) (v2 : Int32) (σ : rx_St), f_rea_emitWaiting_43 0 k0 v1 v2 σ = some o → rx_AtP none 71 43 [(0, .ref 35), (1, .int v1), (2, .int v2)] [] (rx_D [p0, p1, 7, p3, p4] σ) (none, rx_D [p0, p1, 7, p3, p4] o) := by
  intro v1 v2 σ h
  refine rx_walk [0, 43, 48] 2000 (by decide) rx_e71 ?_
  unfold f_rea_emitWaiting_43 at h
  exact rx_sub (f_rea_emitWaiting_48_ok_w0 hk0 _ _ _ _ h) [0, 1, 2] rfl
set_option maxRecDepth 100000 in
set_option maxHeartbeats 4000000 in
theorem f_rea_emitWaiting_0_ok_w0 {p0 p1 p3 p4 : Nat} {o : rx_St} : ∀ (n : Nat) (v1 : Int32) (σ : rx_St), f_rea_emitWaiting_0 0 n v1 σ = some o → rx_AtP none 71 0 [(0, .ref 35), (1, .int v1)] [] (rx_D [p0, p1, 7, p3, p4] σ) (none, rx_D [p0, p1, 7, p3, p4] o) := by
  intro n
  induction n with
  | zero => intro _ _ h; cases h
  | succ n ih =>
  intro v1 σ h
  refine rx_walk [0, 43, 48] 2000 (by decide) rx_e71 ?_
  rw [f_rea_emitWaiting_0] at h
  refine rr_if h (fun c4 h => ?_) (fun c4 h => ?_)
  · skip
    cases h
    exact And.intro (rfl) rfl
  · skip
    refine rr_if h (fun c16 h => ?_) (fun c16 h => ?_)
    · skip
      cases h
      exact And.intro (rfl) rfl
    · skip
      refine rr_g h (fun c29 h => ?_)
      refine rr_if h (fun c34 h => ?_) (fun c34 h => ?_)
      · skip
        exact rx_sub (f_rea_emitWaiting_43_ok_w0 ih _ _ _ h) [1, 2, 0] rfl
      · skip
        refine rr_if h (fun c40 h => ?_) (fun c40 h => ?_)
        · skip
          exact rx_sub (f_rea_emitWaiting_48_ok_w0 ih _ _ _ _ h) [1, 2, 0] rfl
        · skip
          exact rx_sub (f_rea_emitWaiting_43_ok_w0 ih _ _ _ h) [1, 2, 0] rfl
set_option maxRecDepth 100000 in
set_option maxHeartbeats 4000000 in
theorem f_rea_emitWaiting_ok_w0 {p0 p1 p3 p4 : Nat} {a0 : Int32} {σ : rx_St} : ∀ o, f_rea_emitWaiting 0 a0 σ = some o → rx_OK 71 [.ref 35, .int a0] 162 [] [p0, p1, 7, p3, p4] σ (none, rx_D [p0, p1, 7, p3, p4] o) := by
  intro o h
  refine rx_OK_of (by decide) (Nat.le_of_ble_eq_true rfl) ?_
  unfold f_rea_emitWaiting at h
  exact rx_sub (f_rea_emitWaiting_0_ok_w0 rx_fu _ _ h) [0, 1] rfl
set_option maxRecDepth 100000 in
set_option maxHeartbeats 4000000 in
theorem f_rea_emitWaiting_48_ok_w1 {p0 p1 p3 p4 : Nat} {o : rx_St} {k0 : Int32 → rx_St → Option (rx_St)} (hk0 : ∀ (v1 : Int32) (σ : rx_St), k0 v1 σ = some o → rx_AtP none 71 0 [(0, .ref 35), (1, .int v1)] [] (rx_D [p0, p1, 21, p3, p4] σ) (none, rx_D [p0, p1, 21, p3, p4] o)) : ∀ (v1 : Int32) (v2 : Int32) (s0 : Int32) (σ : rx_St), f_rea_emitWaiting_48 1 k0 v1 v2 s0 σ = some o → rx_AtP none 71 48 [(0, .ref 35), (1, .int v1), (2, .int v2)] [.int s0] (rx_D [p0, p1, 21, p3, p4] σ) (none, rx_D [p0, p1, 21, p3, p4] o) := by
  intro v1 v2 s0 σ h
  refine rx_walk [0, 43, 48] 2000 (by decide) rx_e71 ?_
  unfold f_rea_emitWaiting_48 at h
  refine rr_if h (fun c52 h => ?_) (fun c52 h => ?_)
  · skip
    cases h
    exact And.intro (rfl) rfl
  · skip
    refine rr_if h (fun c56 h => ?_) (fun c56 h => ?_)
    · skip
      cases h
      exact And.intro (rfl) rfl
    · skip
      refine rr_callV h (fun y hy => f_wor_emit_ok_w1 _ hy) (fun y1 hy1 h => ?_)
      exact rx_sub (hk0 _ _ h) [1, 2] rfl
set_option maxRecDepth 100000 in
set_option maxHeartbeats 4000000 in
theorem f_rea_emitWaiting_43_ok_w1 {p0 p1 p3 p4 : Nat} {o : rx_St} {k0 : Int32 → rx_St → Option (rx_St)} (hk0 : ∀ (v1 : Int32) (σ : rx_St), k0 v1 σ = some o → rx_AtP none 71 0 [(0, .ref 35), (1, .int v1)] [] (rx_D [p0, p1, 21, p3, p4] σ) (none, rx_D [p0, p1, 21, p3, p4] o)) : ∀ (v1 : Int32) (v2 : Int32) (σ : rx_St), f_rea_emitWaiting_43 1 k0 v1 v2 σ = some o → rx_AtP none 71 43 [(0, .ref 35), (1, .int v1), (2, .int v2)] [] (rx_D [p0, p1, 21, p3, p4] σ) (none, rx_D [p0, p1, 21, p3, p4] o) := by
  intro v1 v2 σ h
  refine rx_walk [0, 43, 48] 2000 (by decide) rx_e71 ?_
  unfold f_rea_emitWaiting_43 at h
  exact rx_sub (f_rea_emitWaiting_48_ok_w1 hk0 _ _ _ _ h) [0, 1, 2] rfl
set_option maxRecDepth 100000 in
set_option maxHeartbeats 4000000 in
theorem f_rea_emitWaiting_0_ok_w1 {p0 p1 p3 p4 : Nat} {o : rx_St} : ∀ (n : Nat) (v1 : Int32) (σ : rx_St), f_rea_emitWaiting_0 1 n v1 σ = some o → rx_AtP none 71 0 [(0, .ref 35), (1, .int v1)] [] (rx_D [p0, p1, 21, p3, p4] σ) (none, rx_D [p0, p1, 21, p3, p4] o) := by
  intro n
  induction n with
  | zero => intro _ _ h; cases h
  | succ n ih =>
  intro v1 σ h
  refine rx_walk [0, 43, 48] 2000 (by decide) rx_e71 ?_
  rw [f_rea_emitWaiting_0] at h
  refine rr_if h (fun c4 h => ?_) (fun c4 h => ?_)
  · skip
    cases h
    exact And.intro (rfl) rfl
  · skip
    refine rr_if h (fun c16 h => ?_) (fun c16 h => ?_)
    · skip
      cases h
      exact And.intro (rfl) rfl
    · skip
      refine rr_g h (fun c29 h => ?_)
      refine rr_if h (fun c34 h => ?_) (fun c34 h => ?_)
      · skip
        exact rx_sub (f_rea_emitWaiting_43_ok_w1 ih _ _ _ h) [1, 2, 0] rfl
      · skip
        refine rr_if h (fun c40 h => ?_) (fun c40 h => ?_)
        · skip
          exact rx_sub (f_rea_emitWaiting_48_ok_w1 ih _ _ _ _ h) [1, 2, 0] rfl
        · skip
          exact rx_sub (f_rea_emitWaiting_43_ok_w1 ih _ _ _ h) [1, 2, 0] rfl
set_option maxRecDepth 100000 in
set_option maxHeartbeats 4000000 in
theorem f_rea_emitWaiting_ok_w1 {p0 p1 p3 p4 : Nat} {a0 : Int32} {σ : rx_St} : ∀ o, f_rea_emitWaiting 1 a0 σ = some o → rx_OK 71 [.ref 35, .int a0] 162 [] [p0, p1, 21, p3, p4] σ (none, rx_D [p0, p1, 21, p3, p4] o) := by
  intro o h
  refine rx_OK_of (by decide) (Nat.le_of_ble_eq_true rfl) ?_
  unfold f_rea_emitWaiting at h
  exact rx_sub (f_rea_emitWaiting_0_ok_w1 rx_fu _ _ h) [0, 1] rfl
set_option maxRecDepth 100000 in
theorem rx_e69 : rx_Ext none 69 := rx_Ext_plain (by decide +kernel)
set_option maxRecDepth 100000 in
set_option maxHeartbeats 4000000 in
theorem f_rea_parseE_188_ok_w0 {p0 p1 p3 p4 : Nat} {o : rx_St} : ∀ (σ : rx_St), f_rea_parseE_188 0 σ = some o → rx_AtP none 69 188 [(0, .ref 35)] [] (rx_D [p0, p1, 7, p3, p4] σ) (none, rx_D [p0, p1, 7, p3, p4] o) := by
  intro σ h
  refine rx_walk [9, 25, 69, 75, 130, 172, 188] 2000 (by decide) rx_e69 ?_
  unfold f_rea_parseE_188 at h
  refine rr_callV h (fun y hy => f_rea_emitWaiting_ok_w0 _ hy) (fun y1 hy1 h => ?_)
  cases h
  exact And.intro (rfl) rfl
set_option maxRecDepth 100000 in
set_option maxHeartbeats 4000000 in
theorem f_rea_parseE_172_ok_w0 {p0 p1 p3 p4 : Nat} {o : rx_St} : ∀ (v1 : Int32) (σ : rx_St), f_rea_parseE_172 0 v1 σ = some o → rx_AtP none 69 172 [(0, .ref 35), (1, .int v1)] [] (rx_D [p0, p1, 7, p3, p4] σ) (none, rx_D [p0, p1, 7, p3, p4] o) := by
  intro v1 σ h
  refine rx_walk [9, 25, 69, 75, 130, 172, 188] 2000 (by decide) rx_e69 ?_
  unfold f_rea_parseE_172 at h
  refine rr_if h (fun c176 h => ?_) (fun c176 h => ?_)
  · skip
    refine rr_if h (fun c180 h => ?_) (fun c180 h => ?_)
    · skip
      exact rx_sub (f_rea_parseE_188_ok_w0 _ h) [0] rfl
    · skip
      exact rx_sub (f_rea_parseE_188_ok_w0 _ h) [0] rfl
  · skip
    exact rx_sub (f_rea_parseE_188_ok_w0 _ h) [0] rfl
set_option maxRecDepth 100000 in
set_option maxHeartbeats 4000000 in
theorem f_rea_parseE_130_ok_w0 {p0 p1 p3 p4 : Nat} {o : rx_St} {k9 : Int32 → Int32 → rx_St → Option (rx_St)} (hk9 : ∀ (v1 : Int32) (v2 : Int32) (σ : rx_St), k9 v1 v2 σ = some o → rx_AtP none 69 9 [(0, .ref 35), (1, .int v1), (2, .int v2)] [] (rx_D [p0, p1, 7, p3, p4] σ) (none, rx_D [p0, p1, 7, p3, p4] o)) : ∀ (v1 : Int32) (v2 : Int32) (σ : rx_St), f_rea_parseE_130 0 k9 v1 v2 σ = some o → rx_AtP none 69 130 [(0, .ref 35), (1, .int v1), (2, .int v2)] [] (rx_D [p0, p1, 7, p3, p4] σ) (none, rx_D [p0, p1, 7, p3, p4] o) := by
  intro v1 v2 σ h
  refine rx_walk [9, 25, 69, 75, 130, 172, 188] 2000 (by decide) rx_e69 ?_
  unfold f_rea_parseE_130 at h
  refine rr_callP h (fun y hy => f_rea_next_ok _ hy) (fun y1 hy1 h => ?_)
  refine rr_if h (fun c138 h => ?_) (fun c138 h => ?_)
  · skip
    exact rx_sub (f_rea_parseE_172_ok_w0 _ _ h) [1, 2] rfl
  · skip
    refine rr_if h (fun c144 h => ?_) (fun c144 h => ?_)
    · skip
      refine rr_callV h (fun y hy => f_rea_emitWaiting_ok_w0 _ hy) (fun y2 hy2 h => ?_)
      refine rr_callS h (fun y hy => f_rea_take_ok _ hy) (fun y3 hy3 h => ?_)
      refine rr_callV h (fun y hy => f_rea_await_ok _ hy) (fun y4 hy4 h => ?_)
      exact rx_sub (hk9 _ _ _ h) [2, 3, 0] rfl
    · skip
      exact rx_sub (f_rea_parseE_172_ok_w0 _ _ h) [1, 2] rfl
set_option maxRecDepth 100000 in
set_option maxHeartbeats 4000000 in
theorem f_rea_parseE_75_ok_w0 {p0 p1 p3 p4 : Nat} {o : rx_St} {k9 : Int32 → Int32 → rx_St → Option (rx_St)} (hk9 : ∀ (v1 : Int32) (v2 : Int32) (σ : rx_St), k9 v1 v2 σ = some o → rx_AtP none 69 9 [(0, .ref 35), (1, .int v1), (2, .int v2)] [] (rx_D [p0, p1, 7, p3, p4] σ) (none, rx_D [p0, p1, 7, p3, p4] o)) : ∀ (n : Nat) (v1 : Int32) (v2 : Int32) (v3 : Int32) (σ : rx_St), f_rea_parseE_75 0 k9 n v1 v2 v3 σ = some o → rx_AtP none 69 75 [(0, .ref 35), (1, .int v1), (2, .int v2), (3, .int v3)] [] (rx_D [p0, p1, 7, p3, p4] σ) (none, rx_D [p0, p1, 7, p3, p4] o) := by
  intro n
  induction n with
  | zero => intro _ _ _ _ h; cases h
  | succ n ih =>
  intro v1 v2 v3 σ h
  refine rx_walk [9, 25, 69, 75, 130, 172, 188] 2000 (by decide) rx_e69 ?_
  rw [f_rea_parseE_75] at h
  refine rr_if h (fun c78 h => ?_) (fun c78 h => ?_)
  · skip
    exact rx_sub (f_rea_parseE_130_ok_w0 hk9 _ _ _ h) [0, 1, 2] rfl
  · skip
    refine rr_if h (fun c82 h => ?_) (fun c82 h => ?_)
    · skip
      exact rx_sub (f_rea_parseE_130_ok_w0 hk9 _ _ _ h) [0, 1, 2] rfl
    · skip
      refine rr_callP h (fun y hy => f_rea_next_ok _ hy) (fun y1 hy1 h => ?_)
      refine rr_if h (fun c91 h => ?_) (fun c91 h => ?_)
      · skip
        refine rr_callS h (fun y hy => f_rea_take_ok _ hy) (fun y2 hy2 h => ?_)
        refine rr_callV h (fun y hy => f_rea_emitWaiting_ok_w0 _ hy) (fun y3 hy3 h => ?_)
        refine rr_callT (f_j_max_ok _ rfl) ?_
        exact rx_sub (ih _ _ _ _ h) [2, 1, 3, 0] rfl
      · skip
        exact rx_sub (f_rea_parseE_130_ok_w0 hk9 _ _ _ h) [0, 1, 2] rfl
set_option maxRecDepth 100000 in
set_option maxHeartbeats 4000000 in
theorem f_rea_parseE_69_ok_w0 {p0 p1 p3 p4 : Nat} {o : rx_St} {k9 : Int32 → Int32 → rx_St → Option (rx_St)} (hk9 : ∀ (v1 : Int32) (v2 : Int32) (σ : rx_St), k9 v1 v2 σ = some o → rx_AtP none 69 9 [(0, .ref 35), (1, .int v1), (2, .int v2)] [] (rx_D [p0, p1, 7, p3, p4] σ) (none, rx_D [p0, p1, 7, p3, p4] o)) : ∀ (v1 : Int32) (v2 : Int32) (σ : rx_St), f_rea_parseE_69 0 k9 v1 v2 σ = some o → rx_AtP none 69 69 [(0, .ref 35), (1, .int v1), (2, .int v2)] [] (rx_D [p0, p1, 7, p3, p4] σ) (none, rx_D [p0, p1, 7, p3, p4] o) := by
  intro v1 v2 σ h
  refine rx_walk [9, 25, 69, 75, 130, 172, 188] 2000 (by decide) rx_e69 ?_
  unfold f_rea_parseE_69 at h
  refine rr_callV h (fun y hy => f_rea_parseUnit_ok_w0 _ hy) (fun y1 hy1 h => ?_)
  exact rx_sub (f_rea_parseE_75_ok_w0 hk9 rx_fu _ _ _ _ h) [1, 2, 3, 0] rfl
set_option maxRecDepth 100000 in
set_option maxHeartbeats 4000000 in
theorem f_rea_parseE_25_ok_w0 {p0 p1 p3 p4 : Nat} {o : rx_St} {k9 : Int32 → Int32 → rx_St → Option (rx_St)} (hk9 : ∀ (v1 : Int32) (v2 : Int32) (σ : rx_St), k9 v1 v2 σ = some o → rx_AtP none 69 9 [(0, .ref 35), (1, .int v1), (2, .int v2)] [] (rx_D [p0, p1, 7, p3, p4] σ) (none, rx_D [p0, p1, 7, p3, p4] o)) : ∀ (n : Nat) (v1 : Int32) (v2 : Int32) (v3 : Int32) (σ : rx_St), f_rea_parseE_25 0 k9 n v1 v2 v3 σ = some o → rx_AtP none 69 25 [(0, .ref 35), (1, .int v1), (2, .int v2), (3, .int v3)] [] (rx_D [p0, p1, 7, p3, p4] σ) (none, rx_D [p0, p1, 7, p3, p4] o) := by
  intro n
  induction n with
  | zero => intro _ _ _ _ h; cases h
  | succ n ih =>
  intro v1 v2 v3 σ h
  refine rx_walk [9, 25, 69, 75, 130, 172, 188] 2000 (by decide) rx_e69 ?_
  rw [f_rea_parseE_25] at h
  refine rr_if h (fun c28 h => ?_) (fun c28 h => ?_)
  · skip
    exact rx_sub (f_rea_parseE_69_ok_w0 hk9 _ _ _ h) [0, 1, 2] rfl
  · skip
    refine rr_callP h (fun y hy => f_rea_next_ok _ hy) (fun y1 hy1 h => ?_)
    refine rr_if h (fun c37 h => ?_) (fun c37 h => ?_)
    · skip
      refine rr_callV h (fun y hy => f_rea_needRoom_ok _ hy) (fun y2 hy2 h => ?_)
      refine rr_callS h (fun y hy => f_rea_take_ok _ hy) (fun y3 hy3 h => ?_)
      refine rr_callV h (fun y hy => f_rea_await_ok _ hy) (fun y4 hy4 h => ?_)
      exact rx_sub (ih _ _ _ _ h) [2, 1, 3, 0] rfl
    · skip
      exact rx_sub (f_rea_parseE_69_ok_w0 hk9 _ _ _ h) [0, 1, 2] rfl
set_option maxRecDepth 100000 in
set_option maxHeartbeats 4000000 in
theorem f_rea_parseE_9_ok_w0 {p0 p1 p3 p4 : Nat} {o : rx_St} : ∀ (n : Nat) (v1 : Int32) (v2 : Int32) (σ : rx_St), f_rea_parseE_9 0 n v1 v2 σ = some o → rx_AtP none 69 9 [(0, .ref 35), (1, .int v1), (2, .int v2)] [] (rx_D [p0, p1, 7, p3, p4] σ) (none, rx_D [p0, p1, 7, p3, p4] o) := by
  intro n
  induction n with
  | zero => intro _ _ _ h; cases h
  | succ n ih =>
  intro v1 v2 σ h
  refine rx_walk [9, 25, 69, 75, 130, 172, 188] 2000 (by decide) rx_e69 ?_
  rw [f_rea_parseE_9] at h
  refine rr_if h (fun c13 h => ?_) (fun c13 h => ?_)
  · skip
    exact rx_sub (f_rea_parseE_172_ok_w0 _ _ h) [0, 1] rfl
  · skip
    refine rr_if h (fun c20 h => ?_) (fun c20 h => ?_)
    · skip
      exact rx_sub (f_rea_parseE_25_ok_w0 ih rx_fu _ _ _ _ h) [1, 2, 3, 0] rfl
    · skip
      exact rx_sub (f_rea_parseE_172_ok_w0 _ _ h) [0, 1] rfl
set_option maxRecDepth 100000 in
set_option maxHeartbeats 4000000 in
theorem f_rea_parseE_ok_w0 {p0 p1 p3 p4 : Nat} {σ : rx_St} : ∀ o, f_rea_parseE 0 σ = some o → rx_OK 69 [.ref 35] 162 [] [p0, p1, 7, p3, p4] σ (none, rx_D [p0, p1, 7, p3, p4] o) := by
  intro o h
  refine rx_OK_of (by decide) (Nat.le_of_ble_eq_true rfl) ?_
  refine rx_walk [9, 25, 69, 75, 130, 172, 188] 2000 (by decide) rx_e69 ?_
  unfold f_rea_parseE at h
  exact rx_sub (f_rea_parseE_9_ok_w0 rx_fu _ _ _ h) [2, 1, 0] rfl
set_option maxRecDepth 100000 in
set_option maxHeartbeats 4000000 in
theorem f_rea_parseE_188_ok_w1 {p0 p1 p3 p4 : Nat} {o : rx_St} : ∀ (σ : rx_St), f_rea_parseE_188 1 σ = some o → rx_AtP none 69 188 [(0, .ref 35)] [] (rx_D [p0, p1, 21, p3, p4] σ) (none, rx_D [p0, p1, 21, p3, p4] o) := by
  intro σ h
  refine rx_walk [9, 25, 69, 75, 130, 172, 188] 2000 (by decide) rx_e69 ?_
  unfold f_rea_parseE_188 at h
  refine rr_callV h (fun y hy => f_rea_emitWaiting_ok_w1 _ hy) (fun y1 hy1 h => ?_)
  cases h
  exact And.intro (rfl) rfl
set_option maxRecDepth 100000 in
set_option maxHeartbeats 4000000 in
theorem f_rea_parseE_172_ok_w1 {p0 p1 p3 p4 : Nat} {o : rx_St} : ∀ (v1 : Int32) (σ : rx_St), f_rea_parseE_172 1 v1 σ = some o → rx_AtP none 69 172 [(0, .ref 35), (1, .int v1)] [] (rx_D [p0, p1, 21, p3, p4] σ) (none, rx_D [p0, p1, 21, p3, p4] o) := by
  intro v1 σ h
  refine rx_walk [9, 25, 69, 75, 130, 172, 188] 2000 (by decide) rx_e69 ?_
  unfold f_rea_parseE_172 at h
  refine rr_if h (fun c176 h => ?_) (fun c176 h => ?_)
  · skip
    refine rr_if h (fun c180 h => ?_) (fun c180 h => ?_)
    · skip
      exact rx_sub (f_rea_parseE_188_ok_w1 _ h) [0] rfl
    · skip
      exact rx_sub (f_rea_parseE_188_ok_w1 _ h) [0] rfl
  · skip
    exact rx_sub (f_rea_parseE_188_ok_w1 _ h) [0] rfl
set_option maxRecDepth 100000 in
set_option maxHeartbeats 4000000 in
theorem f_rea_parseE_130_ok_w1 {p0 p1 p3 p4 : Nat} {o : rx_St} {k9 : Int32 → Int32 → rx_St → Option (rx_St)} (hk9 : ∀ (v1 : Int32) (v2 : Int32) (σ : rx_St), k9 v1 v2 σ = some o → rx_AtP none 69 9 [(0, .ref 35), (1, .int v1), (2, .int v2)] [] (rx_D [p0, p1, 21, p3, p4] σ) (none, rx_D [p0, p1, 21, p3, p4] o)) : ∀ (v1 : Int32) (v2 : Int32) (σ : rx_St), f_rea_parseE_130 1 k9 v1 v2 σ = some o → rx_AtP none 69 130 [(0, .ref 35), (1, .int v1), (2, .int v2)] [] (rx_D [p0, p1, 21, p3, p4] σ) (none, rx_D [p0, p1, 21, p3, p4] o) := by
  intro v1 v2 σ h
  refine rx_walk [9, 25, 69, 75, 130, 172, 188] 2000 (by decide) rx_e69 ?_
  unfold f_rea_parseE_130 at h
  refine rr_callP h (fun y hy => f_rea_next_ok _ hy) (fun y1 hy1 h => ?_)
  refine rr_if h (fun c138 h => ?_) (fun c138 h => ?_)
  · skip
    exact rx_sub (f_rea_parseE_172_ok_w1 _ _ h) [1, 2] rfl
  · skip
    refine rr_if h (fun c144 h => ?_) (fun c144 h => ?_)
    · skip
      refine rr_callV h (fun y hy => f_rea_emitWaiting_ok_w1 _ hy) (fun y2 hy2 h => ?_)
      refine rr_callS h (fun y hy => f_rea_take_ok _ hy) (fun y3 hy3 h => ?_)
      refine rr_callV h (fun y hy => f_rea_await_ok _ hy) (fun y4 hy4 h => ?_)
      exact rx_sub (hk9 _ _ _ h) [2, 3, 0] rfl
    · skip
      exact rx_sub (f_rea_parseE_172_ok_w1 _ _ h) [1, 2] rfl
set_option maxRecDepth 100000 in
set_option maxHeartbeats 4000000 in
theorem f_rea_parseE_75_ok_w1 {p0 p1 p3 p4 : Nat} {o : rx_St} {k9 : Int32 → Int32 → rx_St → Option (rx_St)} (hk9 : ∀ (v1 : Int32) (v2 : Int32) (σ : rx_St), k9 v1 v2 σ = some o → rx_AtP none 69 9 [(0, .ref 35), (1, .int v1), (2, .int v2)] [] (rx_D [p0, p1, 21, p3, p4] σ) (none, rx_D [p0, p1, 21, p3, p4] o)) : ∀ (n : Nat) (v1 : Int32) (v2 : Int32) (v3 : Int32) (σ : rx_St), f_rea_parseE_75 1 k9 n v1 v2 v3 σ = some o → rx_AtP none 69 75 [(0, .ref 35), (1, .int v1), (2, .int v2), (3, .int v3)] [] (rx_D [p0, p1, 21, p3, p4] σ) (none, rx_D [p0, p1, 21, p3, p4] o) := by
  intro n
  induction n with
  | zero => intro _ _ _ _ h; cases h
  | succ n ih =>
  intro v1 v2 v3 σ h
  refine rx_walk [9, 25, 69, 75, 130, 172, 188] 2000 (by decide) rx_e69 ?_
  rw [f_rea_parseE_75] at h
  refine rr_if h (fun c78 h => ?_) (fun c78 h => ?_)
  · skip
    exact rx_sub (f_rea_parseE_130_ok_w1 hk9 _ _ _ h) [0, 1, 2] rfl
  · skip
    refine rr_if h (fun c82 h => ?_) (fun c82 h => ?_)
    · skip
      exact rx_sub (f_rea_parseE_130_ok_w1 hk9 _ _ _ h) [0, 1, 2] rfl
    · skip
      refine rr_callP h (fun y hy => f_rea_next_ok _ hy) (fun y1 hy1 h => ?_)
      refine rr_if h (fun c91 h => ?_) (fun c91 h => ?_)
      · skip
        refine rr_callS h (fun y hy => f_rea_take_ok _ hy) (fun y2 hy2 h => ?_)
        refine rr_callV h (fun y hy => f_rea_emitWaiting_ok_w1 _ hy) (fun y3 hy3 h => ?_)
        refine rr_callT (f_j_max_ok _ rfl) ?_
        exact rx_sub (ih _ _ _ _ h) [2, 1, 3, 0] rfl
      · skip
        exact rx_sub (f_rea_parseE_130_ok_w1 hk9 _ _ _ h) [0, 1, 2] rfl
set_option maxRecDepth 100000 in
set_option maxHeartbeats 4000000 in
theorem f_rea_parseE_69_ok_w1 {p0 p1 p3 p4 : Nat} {o : rx_St} {k9 : Int32 → Int32 → rx_St → Option (rx_St)} (hk9 : ∀ (v1 : Int32) (v2 : Int32) (σ : rx_St), k9 v1 v2 σ = some o → rx_AtP none 69 9 [(0, .ref 35), (1, .int v1), (2, .int v2)] [] (rx_D [p0, p1, 21, p3, p4] σ) (none, rx_D [p0, p1, 21, p3, p4] o)) : ∀ (v1 : Int32) (v2 : Int32) (σ : rx_St), f_rea_parseE_69 1 k9 v1 v2 σ = some o → rx_AtP none 69 69 [(0, .ref 35), (1, .int v1), (2, .int v2)] [] (rx_D [p0, p1, 21, p3, p4] σ) (none, rx_D [p0, p1, 21, p3, p4] o) := by
  intro v1 v2 σ h
  refine rx_walk [9, 25, 69, 75, 130, 172, 188] 2000 (by decide) rx_e69 ?_
  unfold f_rea_parseE_69 at h
  refine rr_callV h (fun y hy => f_rea_parseUnit_ok_w1 _ hy) (fun y1 hy1 h => ?_)
  exact rx_sub (f_rea_parseE_75_ok_w1 hk9 rx_fu _ _ _ _ h) [1, 2, 3, 0] rfl
set_option maxRecDepth 100000 in
set_option maxHeartbeats 4000000 in
theorem f_rea_parseE_25_ok_w1 {p0 p1 p3 p4 : Nat} {o : rx_St} {k9 : Int32 → Int32 → rx_St → Option (rx_St)} (hk9 : ∀ (v1 : Int32) (v2 : Int32) (σ : rx_St), k9 v1 v2 σ = some o → rx_AtP none 69 9 [(0, .ref 35), (1, .int v1), (2, .int v2)] [] (rx_D [p0, p1, 21, p3, p4] σ) (none, rx_D [p0, p1, 21, p3, p4] o)) : ∀ (n : Nat) (v1 : Int32) (v2 : Int32) (v3 : Int32) (σ : rx_St), f_rea_parseE_25 1 k9 n v1 v2 v3 σ = some o → rx_AtP none 69 25 [(0, .ref 35), (1, .int v1), (2, .int v2), (3, .int v3)] [] (rx_D [p0, p1, 21, p3, p4] σ) (none, rx_D [p0, p1, 21, p3, p4] o) := by
  intro n
  induction n with
  | zero => intro _ _ _ _ h; cases h
  | succ n ih =>
  intro v1 v2 v3 σ h
  refine rx_walk [9, 25, 69, 75, 130, 172, 188] 2000 (by decide) rx_e69 ?_
  rw [f_rea_parseE_25] at h
  refine rr_if h (fun c28 h => ?_) (fun c28 h => ?_)
  · skip
    exact rx_sub (f_rea_parseE_69_ok_w1 hk9 _ _ _ h) [0, 1, 2] rfl
  · skip
    refine rr_callP h (fun y hy => f_rea_next_ok _ hy) (fun y1 hy1 h => ?_)
    refine rr_if h (fun c37 h => ?_) (fun c37 h => ?_)
    · skip
      refine rr_callV h (fun y hy => f_rea_needRoom_ok _ hy) (fun y2 hy2 h => ?_)
      refine rr_callS h (fun y hy => f_rea_take_ok _ hy) (fun y3 hy3 h => ?_)
      refine rr_callV h (fun y hy => f_rea_await_ok _ hy) (fun y4 hy4 h => ?_)
      exact rx_sub (ih _ _ _ _ h) [2, 1, 3, 0] rfl
    · skip
      exact rx_sub (f_rea_parseE_69_ok_w1 hk9 _ _ _ h) [0, 1, 2] rfl
set_option maxRecDepth 100000 in
set_option maxHeartbeats 4000000 in
theorem f_rea_parseE_9_ok_w1 {p0 p1 p3 p4 : Nat} {o : rx_St} : ∀ (n : Nat) (v1 : Int32) (v2 : Int32) (σ : rx_St), f_rea_parseE_9 1 n v1 v2 σ = some o → rx_AtP none 69 9 [(0, .ref 35), (1, .int v1), (2, .int v2)] [] (rx_D [p0, p1, 21, p3, p4] σ) (none, rx_D [p0, p1, 21, p3, p4] o) := by
  intro n
  induction n with
  | zero => intro _ _ _ h; cases h
  | succ n ih =>
  intro v1 v2 σ h
  refine rx_walk [9, 25, 69, 75, 130, 172, 188] 2000 (by decide) rx_e69 ?_
  rw [f_rea_parseE_9] at h
  refine rr_if h (fun c13 h => ?_) (fun c13 h => ?_)
  · skip
    exact rx_sub (f_rea_parseE_172_ok_w1 _ _ h) [0, 1] rfl
  · skip
    refine rr_if h (fun c20 h => ?_) (fun c20 h => ?_)
    · skip
      exact rx_sub (f_rea_parseE_25_ok_w1 ih rx_fu _ _ _ _ h) [1, 2, 3, 0] rfl
    · skip
      exact rx_sub (f_rea_parseE_172_ok_w1 _ _ h) [0, 1] rfl
set_option maxRecDepth 100000 in
set_option maxHeartbeats 4000000 in
theorem f_rea_parseE_ok_w1 {p0 p1 p3 p4 : Nat} {σ : rx_St} : ∀ o, f_rea_parseE 1 σ = some o → rx_OK 69 [.ref 35] 162 [] [p0, p1, 21, p3, p4] σ (none, rx_D [p0, p1, 21, p3, p4] o) := by
  intro o h
  refine rx_OK_of (by decide) (Nat.le_of_ble_eq_true rfl) ?_
  refine rx_walk [9, 25, 69, 75, 130, 172, 188] 2000 (by decide) rx_e69 ?_
  unfold f_rea_parseE at h
  exact rx_sub (f_rea_parseE_9_ok_w1 rx_fu _ _ _ h) [2, 1, 0] rfl
set_option maxRecDepth 100000 in
theorem rx_e67 : rx_Ext none 67 := rx_Ext_plain (by decide +kernel)
set_option maxRecDepth 100000 in
set_option maxHeartbeats 4000000 in
theorem f_rea_parseLit_64_ok_w0 {p0 p1 p3 p4 : Nat} {o : rx_St} : ∀ (v1 : Int32) (v2 : Int32) (s1 : Int32) (σ : rx_St), f_rea_parseLit_64 0 v1 v2 s1 σ = some o → rx_AtP none 67 64 [(0, .ref 35), (1, .int v1), (2, .int v2)] [.int s1, .ref 35] (rx_D [p0, p1, 7, p3, p4] σ) (none, rx_D [p0, p1, 7, p3, p4] o) := by
  intro v1 v2 s1 σ h
  refine rx_walk [4, 36, 62, 64] 2000 (by decide) rx_e67 ?_
  unfold f_rea_parseLit_64 at h
  refine rr_callS h (fun y hy => f_rea_take_ok _ hy) (fun y1 hy1 h => ?_)
  refine rr_callV h (fun y hy => f_rea_parseE_ok_w0 _ hy) (fun y2 hy2 h => ?_)
  refine rr_callV h (fun y hy => f_wor_emit_ok_w0 _ hy) (fun y3 hy3 h => ?_)
  cases h
  exact And.intro (rfl) rfl
set_option maxRecDepth 100000 in
set_option maxHeartbeats 4000000 in
theorem f_rea_parseLit_62_ok_w0 {p0 p1 p3 p4 : Nat} {o : rx_St} : ∀ (v1 : Int32) (v2 : Int32) (σ : rx_St), f_rea_parseLit_62 0 v1 v2 σ = some o → rx_AtP none 67 62 [(0, .ref 35), (1, .int v1), (2, .int v2)] [.ref 35] (rx_D [p0, p1, 7, p3, p4] σ) (none, rx_D [p0, p1, 7, p3, p4] o) := by
  intro v1 v2 σ h
  refine rx_walk [4, 36, 62, 64] 2000 (by decide) rx_e67 ?_
  unfold f_rea_parseLit_62 at h
  exact rx_sub (f_rea_parseLit_64_ok_w0 _ _ _ _ h) [0, 1, 2] rfl
set_option maxRecDepth 100000 in
set_option maxHeartbeats 4000000 in
theorem f_rea_parseLit_36_ok_w0 {p0 p1 p3 p4 : Nat} {o : rx_St} : ∀ (v1 : Int32) (σ : rx_St), f_rea_parseLit_36 0 v1 σ = some o → rx_AtP none 67 36 [(0, .ref 35), (1, .int v1)] [] (rx_D [p0, p1, 7, p3, p4] σ) (none, rx_D [p0, p1, 7, p3, p4] o) := by
  intro v1 σ h
  refine rx_walk [4, 36, 62, 64] 2000 (by decide) rx_e67 ?_
  unfold f_rea_parseLit_36 at h
  refine rr_callV h (fun y hy => f_rea_parseE_ok_w0 _ hy) (fun y1 hy1 h => ?_)
  refine rr_callP h (fun y hy => f_rea_next_ok _ hy) (fun y2 hy2 h => ?_)
  refine rr_if h (fun c49 h => ?_) (fun c49 h => ?_)
  · skip
    exact rx_sub (f_rea_parseLit_62_ok_w0 _ _ _ h) [1, 2, 0] rfl
  · skip
    refine rr_if h (fun c55 h => ?_) (fun c55 h => ?_)
    · skip
      exact rx_sub (f_rea_parseLit_62_ok_w0 _ _ _ h) [1, 2, 0] rfl
    · skip
      exact rx_sub (f_rea_parseLit_64_ok_w0 _ _ _ _ h) [1, 2, 0] rfl
set_option maxRecDepth 100000 in
set_option maxHeartbeats 4000000 in
theorem f_rea_parseLit_4_ok_w0 {p0 p1 p3 p4 : Nat} {o : rx_St} : ∀ (n : Nat) (v1 : Int32) (v2 : Int32) (σ : rx_St), f_rea_parseLit_4 0 n v1 v2 σ = some o → rx_AtP none 67 4 [(0, .ref 35), (1, .int v1), (2, .int v2)] [] (rx_D [p0, p1, 7, p3, p4] σ) (none, rx_D [p0, p1, 7, p3, p4] o) := by
  intro n
  induction n with
  | zero => intro _ _ _ h; cases h
  | succ n ih =>
  intro v1 v2 σ h
  refine rx_walk [4, 36, 62, 64] 2000 (by decide) rx_e67 ?_
  rw [f_rea_parseLit_4] at h
  refine rr_if h (fun c8 h => ?_) (fun c8 h => ?_)
  · skip
    exact rx_sub (f_rea_parseLit_36_ok_w0 _ _ h) [0, 1] rfl
  · skip
    refine rr_callP h (fun y hy => f_rea_next_ok _ hy) (fun y1 hy1 h => ?_)
    refine rr_if h (fun c17 h => ?_) (fun c17 h => ?_)
    · skip
      refine rr_callS h (fun y hy => f_rea_take_ok _ hy) (fun y2 hy2 h => ?_)
      exact rx_sub (ih _ _ _ h) [2, 1, 0] rfl
    · skip
      exact rx_sub (f_rea_parseLit_36_ok_w0 _ _ h) [0, 1] rfl
set_option maxRecDepth 100000 in
set_option maxHeartbeats 4000000 in
theorem f_rea_parseLit_ok_w0 {p0 p1 p3 p4 : Nat} {σ : rx_St} : ∀ o, f_rea_parseLit 0 σ = some o → rx_OK 67 [.ref 35] 162 [] [p0, p1, 7, p3, p4] σ (none, rx_D [p0, p1, 7, p3, p4] o) := by
  intro o h
  refine rx_OK_of (by decide) (Nat.le_of_ble_eq_true rfl) ?_
  refine rx_walk [4, 36, 62, 64] 2000 (by decide) rx_e67 ?_
  unfold f_rea_parseLit at h
  exact rx_sub (f_rea_parseLit_4_ok_w0 rx_fu _ _ _ h) [2, 1, 0] rfl
set_option maxRecDepth 100000 in
set_option maxHeartbeats 4000000 in
theorem f_rea_parseLit_64_ok_w1 {p0 p1 p3 p4 : Nat} {o : rx_St} : ∀ (v1 : Int32) (v2 : Int32) (s1 : Int32) (σ : rx_St), f_rea_parseLit_64 1 v1 v2 s1 σ = some o → rx_AtP none 67 64 [(0, .ref 35), (1, .int v1), (2, .int v2)] [.int s1, .ref 35] (rx_D [p0, p1, 21, p3, p4] σ) (none, rx_D [p0, p1, 21, p3, p4] o) := by
  intro v1 v2 s1 σ h
  refine rx_walk [4, 36, 62, 64] 2000 (by decide) rx_e67 ?_
  unfold f_rea_parseLit_64 at h
  refine rr_callS h (fun y hy => f_rea_take_ok _ hy) (fun y1 hy1 h => ?_)
  refine rr_callV h (fun y hy => f_rea_parseE_ok_w1 _ hy) (fun y2 hy2 h => ?_)
  refine rr_callV h (fun y hy => f_wor_emit_ok_w1 _ hy) (fun y3 hy3 h => ?_)
  cases h
  exact And.intro (rfl) rfl
set_option maxRecDepth 100000 in
set_option maxHeartbeats 4000000 in
theorem f_rea_parseLit_62_ok_w1 {p0 p1 p3 p4 : Nat} {o : rx_St} : ∀ (v1 : Int32) (v2 : Int32) (σ : rx_St), f_rea_parseLit_62 1 v1 v2 σ = some o → rx_AtP none 67 62 [(0, .ref 35), (1, .int v1), (2, .int v2)] [.ref 35] (rx_D [p0, p1, 21, p3, p4] σ) (none, rx_D [p0, p1, 21, p3, p4] o) := by
  intro v1 v2 σ h
  refine rx_walk [4, 36, 62, 64] 2000 (by decide) rx_e67 ?_
  unfold f_rea_parseLit_62 at h
  exact rx_sub (f_rea_parseLit_64_ok_w1 _ _ _ _ h) [0, 1, 2] rfl
set_option maxRecDepth 100000 in
set_option maxHeartbeats 4000000 in
theorem f_rea_parseLit_36_ok_w1 {p0 p1 p3 p4 : Nat} {o : rx_St} : ∀ (v1 : Int32) (σ : rx_St), f_rea_parseLit_36 1 v1 σ = some o → rx_AtP none 67 36 [(0, .ref 35), (1, .int v1)] [] (rx_D [p0, p1, 21, p3, p4] σ) (none, rx_D [p0, p1, 21, p3, p4] o) := by
  intro v1 σ h
  refine rx_walk [4, 36, 62, 64] 2000 (by decide) rx_e67 ?_
  unfold f_rea_parseLit_36 at h
  refine rr_callV h (fun y hy => f_rea_parseE_ok_w1 _ hy) (fun y1 hy1 h => ?_)
  refine rr_callP h (fun y hy => f_rea_next_ok _ hy) (fun y2 hy2 h => ?_)
  refine rr_if h (fun c49 h => ?_) (fun c49 h => ?_)
  · skip
    exact rx_sub (f_rea_parseLit_62_ok_w1 _ _ _ h) [1, 2, 0] rfl
  · skip
    refine rr_if h (fun c55 h => ?_) (fun c55 h => ?_)
    · skip
      exact rx_sub (f_rea_parseLit_62_ok_w1 _ _ _ h) [1, 2, 0] rfl
    · skip
      exact rx_sub (f_rea_parseLit_64_ok_w1 _ _ _ _ h) [1, 2, 0] rfl
set_option maxRecDepth 100000 in
set_option maxHeartbeats 4000000 in
theorem f_rea_parseLit_4_ok_w1 {p0 p1 p3 p4 : Nat} {o : rx_St} : ∀ (n : Nat) (v1 : Int32) (v2 : Int32) (σ : rx_St), f_rea_parseLit_4 1 n v1 v2 σ = some o → rx_AtP none 67 4 [(0, .ref 35), (1, .int v1), (2, .int v2)] [] (rx_D [p0, p1, 21, p3, p4] σ) (none, rx_D [p0, p1, 21, p3, p4] o) := by
  intro n
  induction n with
  | zero => intro _ _ _ h; cases h
  | succ n ih =>
  intro v1 v2 σ h
  refine rx_walk [4, 36, 62, 64] 2000 (by decide) rx_e67 ?_
  rw [f_rea_parseLit_4] at h
  refine rr_if h (fun c8 h => ?_) (fun c8 h => ?_)
  · skip
    exact rx_sub (f_rea_parseLit_36_ok_w1 _ _ h) [0, 1] rfl
  · skip
    refine rr_callP h (fun y hy => f_rea_next_ok _ hy) (fun y1 hy1 h => ?_)
    refine rr_if h (fun c17 h => ?_) (fun c17 h => ?_)
    · skip
      refine rr_callS h (fun y hy => f_rea_take_ok _ hy) (fun y2 hy2 h => ?_)
      exact rx_sub (ih _ _ _ h) [2, 1, 0] rfl
    · skip
      exact rx_sub (f_rea_parseLit_36_ok_w1 _ _ h) [0, 1] rfl
set_option maxRecDepth 100000 in
set_option maxHeartbeats 4000000 in
theorem f_rea_parseLit_ok_w1 {p0 p1 p3 p4 : Nat} {σ : rx_St} : ∀ o, f_rea_parseLit 1 σ = some o → rx_OK 67 [.ref 35] 162 [] [p0, p1, 21, p3, p4] σ (none, rx_D [p0, p1, 21, p3, p4] o) := by
  intro o h
  refine rx_OK_of (by decide) (Nat.le_of_ble_eq_true rfl) ?_
  refine rx_walk [4, 36, 62, 64] 2000 (by decide) rx_e67 ?_
  unfold f_rea_parseLit at h
  exact rx_sub (f_rea_parseLit_4_ok_w1 rx_fu _ _ _ h) [2, 1, 0] rfl
set_option maxRecDepth 100000 in
theorem rx_e121 : rx_Ext none 121 := rx_Ext_plain (by decide +kernel)
set_option maxRecDepth 100000 in
set_option maxHeartbeats 4000000 in
theorem f_wor_aim_54_ok_w0 {P : List Nat} {o : rx_St} {k7 : Int32 → Int32 → Int32 → Int32 → Int32 → rx_St → Option (rx_St)} (hk7 : ∀ (v1 : Int32) (v2 : Int32) (v4 : Int32) (v5 : Int32) (v6 : Int32) (σ : rx_St), k7 v1 v2 v4 v5 v6 σ = some o → rx_AtP none 121 7 [(0, .ref 7), (1, .int v1), (2, .int v2), (4, .int v4), (5, .int v5), (6, .int v6)] [] (rx_D P σ) (none, rx_D P o)) : ∀ (v1 : Int32) (v2 : Int32) (v4 : Int32) (v5 : Int32) (v6 : Int32) (σ : rx_St), f_wor_aim_54 0 k7 v1 v2 v4 v5 v6 σ = some o → rx_AtP none 121 54 [(0, .ref 7), (1, .int v1), (2, .int v2), (4, .int v4), (5, .int v5), (6, .int v6)] [] (rx_D P σ) (none, rx_D P o) := by
  intro v1 v2 v4 v5 v6 σ h
  refine rx_walk [7, 54] 2000 (by decide) rx_e121 ?_
  unfold f_wor_aim_54 at h
  exact rx_sub (hk7 _ _ _ _ _ _ h) [1, 2, 3, 4, 5, 0] rfl
set_option maxRecDepth 100000 in
set_option maxHeartbeats 4000000 in
theorem f_wor_aim_7_ok_w0 {P : List Nat} {o : rx_St} : ∀ (n : Nat) (v1 : Int32) (v2 : Int32) (v4 : Int32) (v5 : Int32) (v6 : Int32) (σ : rx_St), f_wor_aim_7 0 n v1 v2 v4 v5 v6 σ = some o → rx_AtP none 121 7 [(0, .ref 7), (1, .int v1), (2, .int v2), (4, .int v4), (5, .int v5), (6, .int v6)] [] (rx_D P σ) (none, rx_D P o) := by
  intro n
  induction n with
  | zero => intro _ _ _ _ _ _ h; cases h
  | succ n ih =>
  intro v1 v2 v4 v5 v6 σ h
  refine rx_walk [7, 54] 2000 (by decide) rx_e121 ?_
  rw [f_wor_aim_7] at h
  refine rr_if h (fun c11 h => ?_) (fun c11 h => ?_)
  · skip
    cases h
    exact And.intro (rfl) rfl
  · skip
    refine rr_if h (fun c20 h => ?_) (fun c20 h => ?_)
    · skip
      cases h
      exact And.intro (rfl) rfl
    · skip
      refine rr_g h (fun c29 h => ?_)
      refine rr_if h (fun c31 h => ?_) (fun c31 h => ?_)
      · skip
        exact rx_sub (f_wor_aim_54_ok_w0 ih _ _ _ _ _ _ h) [0, 1, 2, 3, 4, 5] rfl
      · skip
        refine rr_g h (fun c40 h => ?_)
        refine rr_if h (fun c42 h => ?_) (fun c42 h => ?_)
        · skip
          exact rx_sub (f_wor_aim_54_ok_w0 ih _ _ _ _ _ _ h) [0, 1, 2, 3, 4, 5] rfl
        · skip
          refine rr_g h (fun c53 h => ?_)
          exact rx_sub (f_wor_aim_54_ok_w0 ih _ _ _ _ _ _ h) [0, 1, 2, 3, 4, 5] rfl
set_option maxRecDepth 100000 in
set_option maxHeartbeats 4000000 in
theorem f_wor_aim_ok_w0 {P : List Nat} {a0 : Int32} {a1 : Int32} {a2 : Int32} {a3 : Int32} {a4 : Int32} {σ : rx_St} : ∀ o, f_wor_aim 0 a0 a1 a2 a3 a4 σ = some o → rx_OK 121 [.ref 7, .int a0, .int a1, .int a2, .int a3, .int a4] 162 [] P σ (none, rx_D P o) := by
  intro o h
  refine rx_OK_of (by decide) (Nat.le_of_ble_eq_true rfl) ?_
  refine rx_walk [7, 54] 2000 (by decide) rx_e121 ?_
  unfold f_wor_aim at h
  refine rr_callT (f_j_max_ok _ rfl) ?_
  exact rx_sub (f_wor_aim_7_ok_w0 rx_fu _ _ _ _ _ _ h) [1, 2, 3, 5, 6, 0] rfl
set_option maxRecDepth 100000 in
set_option maxHeartbeats 4000000 in
theorem f_wor_aim_54_ok_w1 {P : List Nat} {o : rx_St} {k7 : Int32 → Int32 → Int32 → Int32 → Int32 → rx_St → Option (rx_St)} (hk7 : ∀ (v1 : Int32) (v2 : Int32) (v4 : Int32) (v5 : Int32) (v6 : Int32) (σ : rx_St), k7 v1 v2 v4 v5 v6 σ = some o → rx_AtP none 121 7 [(0, .ref 21), (1, .int v1), (2, .int v2), (4, .int v4), (5, .int v5), (6, .int v6)] [] (rx_D P σ) (none, rx_D P o)) : ∀ (v1 : Int32) (v2 : Int32) (v4 : Int32) (v5 : Int32) (v6 : Int32) (σ : rx_St), f_wor_aim_54 1 k7 v1 v2 v4 v5 v6 σ = some o → rx_AtP none 121 54 [(0, .ref 21), (1, .int v1), (2, .int v2), (4, .int v4), (5, .int v5), (6, .int v6)] [] (rx_D P σ) (none, rx_D P o) := by
  intro v1 v2 v4 v5 v6 σ h
  refine rx_walk [7, 54] 2000 (by decide) rx_e121 ?_
  unfold f_wor_aim_54 at h
  exact rx_sub (hk7 _ _ _ _ _ _ h) [1, 2, 3, 4, 5, 0] rfl
set_option maxRecDepth 100000 in
set_option maxHeartbeats 4000000 in
theorem f_wor_aim_7_ok_w1 {P : List Nat} {o : rx_St} : ∀ (n : Nat) (v1 : Int32) (v2 : Int32) (v4 : Int32) (v5 : Int32) (v6 : Int32) (σ : rx_St), f_wor_aim_7 1 n v1 v2 v4 v5 v6 σ = some o → rx_AtP none 121 7 [(0, .ref 21), (1, .int v1), (2, .int v2), (4, .int v4), (5, .int v5), (6, .int v6)] [] (rx_D P σ) (none, rx_D P o) := by
  intro n
  induction n with
  | zero => intro _ _ _ _ _ _ h; cases h
  | succ n ih =>
  intro v1 v2 v4 v5 v6 σ h
  refine rx_walk [7, 54] 2000 (by decide) rx_e121 ?_
  rw [f_wor_aim_7] at h
  refine rr_if h (fun c11 h => ?_) (fun c11 h => ?_)
  · skip
    cases h
    exact And.intro (rfl) rfl
  · skip
    refine rr_if h (fun c20 h => ?_) (fun c20 h => ?_)
    · skip
      cases h
      exact And.intro (rfl) rfl
    · skip
      refine rr_g h (fun c29 h => ?_)
      refine rr_if h (fun c31 h => ?_) (fun c31 h => ?_)
      · skip
        exact rx_sub (f_wor_aim_54_ok_w1 ih _ _ _ _ _ _ h) [0, 1, 2, 3, 4, 5] rfl
      · skip
        refine rr_g h (fun c40 h => ?_)
        refine rr_if h (fun c42 h => ?_) (fun c42 h => ?_)
        · skip
          exact rx_sub (f_wor_aim_54_ok_w1 ih _ _ _ _ _ _ h) [0, 1, 2, 3, 4, 5] rfl
        · skip
          refine rr_g h (fun c53 h => ?_)
          exact rx_sub (f_wor_aim_54_ok_w1 ih _ _ _ _ _ _ h) [0, 1, 2, 3, 4, 5] rfl
set_option maxRecDepth 100000 in
set_option maxHeartbeats 4000000 in
theorem f_wor_aim_ok_w1 {P : List Nat} {a0 : Int32} {a1 : Int32} {a2 : Int32} {a3 : Int32} {a4 : Int32} {σ : rx_St} : ∀ o, f_wor_aim 1 a0 a1 a2 a3 a4 σ = some o → rx_OK 121 [.ref 21, .int a0, .int a1, .int a2, .int a3, .int a4] 162 [] P σ (none, rx_D P o) := by
  intro o h
  refine rx_OK_of (by decide) (Nat.le_of_ble_eq_true rfl) ?_
  refine rx_walk [7, 54] 2000 (by decide) rx_e121 ?_
  unfold f_wor_aim at h
  refine rr_callT (f_j_max_ok _ rfl) ?_
  exact rx_sub (f_wor_aim_7_ok_w1 rx_fu _ _ _ _ _ _ h) [1, 2, 3, 5, 6, 0] rfl
set_option maxRecDepth 100000 in
theorem rx_e122 : rx_Ext none 122 := rx_Ext_plain (by decide +kernel)
set_option maxRecDepth 100000 in
set_option maxHeartbeats 4000000 in
theorem f_wor_aimTests_ok_w0 {P : List Nat} {a0 : Int32} {a1 : Int32} {a2 : Int32} {σ : rx_St} : ∀ o, f_wor_aimTests 0 a0 a1 a2 σ = some o → rx_OK 122 [.ref 7, .int a0, .int a1, .int a2] 162 [] P σ (none, rx_D P o) := by
  intro o h
  refine rx_OK_of (by decide) (Nat.le_of_ble_eq_true rfl) ?_
  refine rx_walk [] 2000 (by decide) rx_e122 ?_
  unfold f_wor_aimTests at h
  refine rr_callV h (fun y hy => f_wor_aim_ok_w0 _ hy) (fun y1 hy1 h => ?_)
  cases h
  exact And.intro (rfl) rfl
set_option maxRecDepth 100000 in
set_option maxHeartbeats 4000000 in
theorem f_wor_aimTests_ok_w1 {P : List Nat} {a0 : Int32} {a1 : Int32} {a2 : Int32} {σ : rx_St} : ∀ o, f_wor_aimTests 1 a0 a1 a2 σ = some o → rx_OK 122 [.ref 21, .int a0, .int a1, .int a2] 162 [] P σ (none, rx_D P o) := by
  intro o h
  refine rx_OK_of (by decide) (Nat.le_of_ble_eq_true rfl) ?_
  refine rx_walk [] 2000 (by decide) rx_e122 ?_
  unfold f_wor_aimTests at h
  refine rr_callV h (fun y hy => f_wor_aim_ok_w1 _ hy) (fun y1 hy1 h => ?_)
  cases h
  exact And.intro (rfl) rfl
set_option maxRecDepth 100000 in
theorem rx_e123 : rx_Ext none 123 := rx_Ext_plain (by decide +kernel)
set_option maxRecDepth 100000 in
set_option maxHeartbeats 4000000 in
theorem f_wor_aimOrs_ok_w0 {P : List Nat} {a0 : Int32} {a1 : Int32} {a2 : Int32} {σ : rx_St} : ∀ o, f_wor_aimOrs 0 a0 a1 a2 σ = some o → rx_OK 123 [.ref 7, .int a0, .int a1, .int a2] 162 [] P σ (none, rx_D P o) := by
  intro o h
  refine rx_OK_of (by decide) (Nat.le_of_ble_eq_true rfl) ?_
  refine rx_walk [] 2000 (by decide) rx_e123 ?_
  unfold f_wor_aimOrs at h
  refine rr_callV h (fun y hy => f_wor_aim_ok_w0 _ hy) (fun y1 hy1 h => ?_)
  cases h
  exact And.intro (rfl) rfl
set_option maxRecDepth 100000 in
set_option maxHeartbeats 4000000 in
theorem f_wor_aimOrs_ok_w1 {P : List Nat} {a0 : Int32} {a1 : Int32} {a2 : Int32} {σ : rx_St} : ∀ o, f_wor_aimOrs 1 a0 a1 a2 σ = some o → rx_OK 123 [.ref 21, .int a0, .int a1, .int a2] 162 [] P σ (none, rx_D P o) := by
  intro o h
  refine rx_OK_of (by decide) (Nat.le_of_ble_eq_true rfl) ?_
  refine rx_walk [] 2000 (by decide) rx_e123 ?_
  unfold f_wor_aimOrs at h
  refine rr_callV h (fun y hy => f_wor_aim_ok_w1 _ hy) (fun y1 hy1 h => ?_)
  cases h
  exact And.intro (rfl) rfl
set_option maxRecDepth 100000 in
theorem rx_e66 : rx_Ext none 66 := rx_Ext_plain (by decide +kernel)
set_option maxRecDepth 100000 in
set_option maxHeartbeats 4000000 in
theorem f_rea_isWish_24_ok {P : List Nat} {σ : rx_St} {o : Int32} : f_rea_isWish_24  = o → rx_AtP none 66 24 [] [] (rx_D P σ) (some (.int o), rx_D P σ) := by
  intro h
  refine rx_walk [24] 2000 (by decide) rx_e66 ?_
  unfold f_rea_isWish_24 at h
  cases h
  exact And.intro (Or.inr rfl) rfl
set_option maxRecDepth 100000 in
set_option maxHeartbeats 4000000 in
theorem f_rea_isWish_ok {P : List Nat} {σ : rx_St} {a0 : Int32} : ∀ o, f_rea_isWish a0 = o → rx_OK 66 [.int a0] 162 [] P σ (some (.int o), rx_D P σ) := by
  intro o h
  refine rx_OK_of (by decide) (Nat.le_of_ble_eq_true rfl) ?_
  refine rx_walk [24] 2000 (by decide) rx_e66 ?_
  unfold f_rea_isWish at h
  refine rr_if h (fun c3 h => ?_) (fun c3 h => ?_)
  · skip
    exact rx_sub (f_rea_isWish_24_ok h) [] rfl
  · skip
    refine rr_if h (fun c9 h => ?_) (fun c9 h => ?_)
    · skip
      exact rx_sub (f_rea_isWish_24_ok h) [] rfl
    · skip
      refine rr_if h (fun c15 h => ?_) (fun c15 h => ?_)
      · skip
        exact rx_sub (f_rea_isWish_24_ok h) [] rfl
      · skip
        refine rr_if h (fun c21 h => ?_) (fun c21 h => ?_)
        · skip
          exact rx_sub (f_rea_isWish_24_ok h) [] rfl
        · skip
          cases h
          exact And.intro (Or.inl rfl) rfl
set_option maxRecDepth 100000 in
theorem rx_e68 : rx_Ext none 68 := rx_Ext_plain (by decide +kernel)
set_option maxRecDepth 100000 in
set_option maxHeartbeats 4000000 in
theorem f_rea_parseWish_85_ok_w0 {p0 p1 p3 p4 : Nat} {o : rx_St} : ∀ (v1 : Int32) (v2 : Int32) (v3 : Int32) (σ : rx_St), f_rea_parseWish_85 0 v1 v2 v3 σ = some o → rx_AtP none 68 85 [(0, .ref 35), (1, .int v1), (2, .int v2), (3, .int v3)] [] (rx_D [p0, p1, 7, p3, p4] σ) (none, rx_D [p0, p1, 7, p3, p4] o) := by
  intro v1 v2 v3 σ h
  refine rx_walk [25, 32, 42, 71, 85] 2000 (by decide) rx_e68 ?_
  unfold f_rea_parseWish_85 at h
  refine rr_callS h (fun y hy => f_rea_take_ok _ hy) (fun y1 hy1 h => ?_)
  refine rr_callV h (fun y hy => f_wor_emit_ok_w0 _ hy) (fun y2 hy2 h => ?_)
  cases h
  exact And.intro (rfl) rfl
set_option maxRecDepth 100000 in
set_option maxHeartbeats 4000000 in
theorem f_rea_parseWish_71_ok_w0 {p0 p1 p3 p4 : Nat} {o : rx_St} : ∀ (v2 : Int32) (s0 : Int32) (σ : rx_St), f_rea_parseWish_71 0 v2 s0 σ = some o → rx_AtP none 68 71 [(0, .ref 35), (2, .int v2)] [.int s0] (rx_D [p0, p1, 7, p3, p4] σ) (none, rx_D [p0, p1, 7, p3, p4] o) := by
  intro v2 s0 σ h
  refine rx_walk [25, 32, 42, 71, 85] 2000 (by decide) rx_e68 ?_
  unfold f_rea_parseWish_71 at h
  refine rr_callS h (fun y hy => f_rea_take_ok _ hy) (fun y1 hy1 h => ?_)
  refine rr_callS h (fun y hy => f_rea_take_ok _ hy) (fun y2 hy2 h => ?_)
  exact rx_sub (f_rea_parseWish_85_ok_w0 _ _ _ _ h) [2, 1, 3, 0] rfl
set_option maxRecDepth 100000 in
set_option maxHeartbeats 4000000 in
theorem f_rea_parseWish_42_ok_w0 {p0 p1 p3 p4 : Nat} {o : rx_St} : ∀ (v1 : Int32) (v2 : Int32) (v3 : Int32) (σ : rx_St), f_rea_parseWish_42 0 v1 v2 v3 σ = some o → rx_AtP none 68 42 [(0, .ref 35), (1, .int v1), (2, .int v2), (3, .int v3)] [] (rx_D [p0, p1, 7, p3, p4] σ) (none, rx_D [p0, p1, 7, p3, p4] o) := by
  intro v1 v2 v3 σ h
  refine rx_walk [25, 32, 42, 71, 85] 2000 (by decide) rx_e68 ?_
  unfold f_rea_parseWish_42 at h
  refine rr_if h (fun c45 h => ?_) (fun c45 h => ?_)
  · skip
    refine rr_callS h (fun y hy => f_rea_take_ok _ hy) (fun y1 hy1 h => ?_)
    refine rr_callP h (fun y hy => f_rea_next_ok _ hy) (fun y2 hy2 h => ?_)
    refine rr_if h (fun c61 h => ?_) (fun c61 h => ?_)
    · skip
      exact rx_sub (f_rea_parseWish_71_ok_w0 _ _ _ h) [0, 2] rfl
    · skip
      exact rx_sub (f_rea_parseWish_71_ok_w0 _ _ _ h) [0, 2] rfl
  · skip
    exact rx_sub (f_rea_parseWish_85_ok_w0 _ _ _ _ h) [0, 1, 2, 3] rfl
set_option maxRecDepth 100000 in
set_option maxHeartbeats 4000000 in
theorem f_rea_parseWish_32_ok_w0 {p0 p1 p3 p4 : Nat} {o : rx_St} : ∀ (v1 : Int32) (v2 : Int32) (v3 : Int32) (σ : rx_St), f_rea_parseWish_32 0 v1 v2 v3 σ = some o → rx_AtP none 68 32 [(0, .ref 35), (1, .int v1), (2, .int v2), (3, .int v3)] [] (rx_D [p0, p1, 7, p3, p4] σ) (none, rx_D [p0, p1, 7, p3, p4] o) := by
  intro v1 v2 v3 σ h
  refine rx_walk [25, 32, 42, 71, 85] 2000 (by decide) rx_e68 ?_
  unfold f_rea_parseWish_32 at h
  refine rr_if h (fun c35 h => ?_) (fun c35 h => ?_)
  · skip
    exact rx_sub (f_rea_parseWish_42_ok_w0 _ _ _ _ h) [0, 1, 2, 3] rfl
  · skip
    refine rr_callV h (fun y hy => f_rea_parseE_ok_w0 _ hy) (fun y1 hy1 h => ?_)
    exact rx_sub (f_rea_parseWish_42_ok_w0 _ _ _ _ h) [0, 1, 2, 3] rfl
set_option maxRecDepth 100000 in
set_option maxHeartbeats 4000000 in
theorem f_rea_parseWish_25_ok_w0 {p0 p1 p3 p4 : Nat} {o : rx_St} : ∀ (v1 : Int32) (v3 : Int32) (σ : rx_St), f_rea_parseWish_25 0 v1 v3 σ = some o → rx_AtP none 68 25 [(0, .ref 35), (1, .int v1), (3, .int v3)] [] (rx_D [p0, p1, 7, p3, p4] σ) (none, rx_D [p0, p1, 7, p3, p4] o) := by
  intro v1 v3 σ h
  refine rx_walk [25, 32, 42, 71, 85] 2000 (by decide) rx_e68 ?_
  unfold f_rea_parseWish_25 at h
  refine rr_callS h (fun y hy => f_rea_take_ok _ hy) (fun y1 hy1 h => ?_)
  exact rx_sub (f_rea_parseWish_32_ok_w0 _ _ _ _ h) [1, 2, 0, 3] rfl
set_option maxRecDepth 100000 in
set_option maxHeartbeats 4000000 in
theorem f_rea_parseWish_ok_w0 {p0 p1 p3 p4 : Nat} {σ : rx_St} : ∀ o, f_rea_parseWish 0 σ = some o → rx_OK 68 [.ref 35] 162 [] [p0, p1, 7, p3, p4] σ (none, rx_D [p0, p1, 7, p3, p4] o) := by
  intro o h
  refine rx_OK_of (by decide) (Nat.le_of_ble_eq_true rfl) ?_
  refine rx_walk [25, 32, 42, 71, 85] 2000 (by decide) rx_e68 ?_
  unfold f_rea_parseWish at h
  refine rr_callP h (fun y hy => f_rea_next_ok _ hy) (fun y1 hy1 h => ?_)
  refine rr_callS h (fun y hy => f_rea_take_ok _ hy) (fun y2 hy2 h => ?_)
  refine rr_if h (fun c16 h => ?_) (fun c16 h => ?_)
  · skip
    exact rx_sub (f_rea_parseWish_25_ok_w0 _ _ _ h) [3, 2, 0] rfl
  · skip
    refine rr_if h (fun c22 h => ?_) (fun c22 h => ?_)
    · skip
      exact rx_sub (f_rea_parseWish_25_ok_w0 _ _ _ h) [3, 2, 0] rfl
    · skip
      exact rx_sub (f_rea_parseWish_32_ok_w0 _ _ _ _ h) [3, 2, 1, 0] rfl
set_option maxRecDepth 100000 in
set_option maxHeartbeats 4000000 in
theorem f_rea_parseWish_85_ok_w1 {p0 p1 p3 p4 : Nat} {o : rx_St} : ∀ (v1 : Int32) (v2 : Int32) (v3 : Int32) (σ : rx_St), f_rea_parseWish_85 1 v1 v2 v3 σ = some o → rx_AtP none 68 85 [(0, .ref 35), (1, .int v1), (2, .int v2), (3, .int v3)] [] (rx_D [p0, p1, 21, p3, p4] σ) (none, rx_D [p0, p1, 21, p3, p4] o) := by
  intro v1 v2 v3 σ h
  refine rx_walk [25, 32, 42, 71, 85] 2000 (by decide) rx_e68 ?_
  unfold f_rea_parseWish_85 at h
  refine rr_callS h (fun y hy => f_rea_take_ok _ hy) (fun y1 hy1 h => ?_)
  refine rr_callV h (fun y hy => f_wor_emit_ok_w1 _ hy) (fun y2 hy2 h => ?_)
  cases h
  exact And.intro (rfl) rfl
set_option maxRecDepth 100000 in
set_option maxHeartbeats 4000000 in
theorem f_rea_parseWish_71_ok_w1 {p0 p1 p3 p4 : Nat} {o : rx_St} : ∀ (v2 : Int32) (s0 : Int32) (σ : rx_St), f_rea_parseWish_71 1 v2 s0 σ = some o → rx_AtP none 68 71 [(0, .ref 35), (2, .int v2)] [.int s0] (rx_D [p0, p1, 21, p3, p4] σ) (none, rx_D [p0, p1, 21, p3, p4] o) := by
  intro v2 s0 σ h
  refine rx_walk [25, 32, 42, 71, 85] 2000 (by decide) rx_e68 ?_
  unfold f_rea_parseWish_71 at h
  refine rr_callS h (fun y hy => f_rea_take_ok _ hy) (fun y1 hy1 h => ?_)
  refine rr_callS h (fun y hy => f_rea_take_ok _ hy) (fun y2 hy2 h => ?_)
  exact rx_sub (f_rea_parseWish_85_ok_w1 _ _ _ _ h) [2, 1, 3, 0] rfl
set_option maxRecDepth 100000 in
set_option maxHeartbeats 4000000 in
theorem f_rea_parseWish_42_ok_w1 {p0 p1 p3 p4 : Nat} {o : rx_St} : ∀ (v1 : Int32) (v2 : Int32) (v3 : Int32) (σ : rx_St), f_rea_parseWish_42 1 v1 v2 v3 σ = some o → rx_AtP none 68 42 [(0, .ref 35), (1, .int v1), (2, .int v2), (3, .int v3)] [] (rx_D [p0, p1, 21, p3, p4] σ) (none, rx_D [p0, p1, 21, p3, p4] o) := by
  intro v1 v2 v3 σ h
  refine rx_walk [25, 32, 42, 71, 85] 2000 (by decide) rx_e68 ?_
  unfold f_rea_parseWish_42 at h
  refine rr_if h (fun c45 h => ?_) (fun c45 h => ?_)
  · skip
    refine rr_callS h (fun y hy => f_rea_take_ok _ hy) (fun y1 hy1 h => ?_)
    refine rr_callP h (fun y hy => f_rea_next_ok _ hy) (fun y2 hy2 h => ?_)
    refine rr_if h (fun c61 h => ?_) (fun c61 h => ?_)
    · skip
      exact rx_sub (f_rea_parseWish_71_ok_w1 _ _ _ h) [0, 2] rfl
    · skip
      exact rx_sub (f_rea_parseWish_71_ok_w1 _ _ _ h) [0, 2] rfl
  · skip
    exact rx_sub (f_rea_parseWish_85_ok_w1 _ _ _ _ h) [0, 1, 2, 3] rfl
set_option maxRecDepth 100000 in
set_option maxHeartbeats 4000000 in
theorem f_rea_parseWish_32_ok_w1 {p0 p1 p3 p4 : Nat} {o : rx_St} : ∀ (v1 : Int32) (v2 : Int32) (v3 : Int32) (σ : rx_St), f_rea_parseWish_32 1 v1 v2 v3 σ = some o → rx_AtP none 68 32 [(0, .ref 35), (1, .int v1), (2, .int v2), (3, .int v3)] [] (rx_D [p0, p1, 21, p3, p4] σ) (none, rx_D [p0, p1, 21, p3, p4] o) := by
  intro v1 v2 v3 σ h
  refine rx_walk [25, 32, 42, 71, 85] 2000 (by decide) rx_e68 ?_
  unfold f_rea_parseWish_32 at h
  refine rr_if h (fun c35 h => ?_) (fun c35 h => ?_)
  · skip
    exact rx_sub (f_rea_parseWish_42_ok_w1 _ _ _ _ h) [0, 1, 2, 3] rfl
  · skip
    refine rr_callV h (fun y hy => f_rea_parseE_ok_w1 _ hy) (fun y1 hy1 h => ?_)
    exact rx_sub (f_rea_parseWish_42_ok_w1 _ _ _ _ h) [0, 1, 2, 3] rfl
set_option maxRecDepth 100000 in
set_option maxHeartbeats 4000000 in
theorem f_rea_parseWish_25_ok_w1 {p0 p1 p3 p4 : Nat} {o : rx_St} : ∀ (v1 : Int32) (v3 : Int32) (σ : rx_St), f_rea_parseWish_25 1 v1 v3 σ = some o → rx_AtP none 68 25 [(0, .ref 35), (1, .int v1), (3, .int v3)] [] (rx_D [p0, p1, 21, p3, p4] σ) (none, rx_D [p0, p1, 21, p3, p4] o) := by
  intro v1 v3 σ h
  refine rx_walk [25, 32, 42, 71, 85] 2000 (by decide) rx_e68 ?_
  unfold f_rea_parseWish_25 at h
  refine rr_callS h (fun y hy => f_rea_take_ok _ hy) (fun y1 hy1 h => ?_)
  exact rx_sub (f_rea_parseWish_32_ok_w1 _ _ _ _ h) [1, 2, 0, 3] rfl
set_option maxRecDepth 100000 in
set_option maxHeartbeats 4000000 in
theorem f_rea_parseWish_ok_w1 {p0 p1 p3 p4 : Nat} {σ : rx_St} : ∀ o, f_rea_parseWish 1 σ = some o → rx_OK 68 [.ref 35] 162 [] [p0, p1, 21, p3, p4] σ (none, rx_D [p0, p1, 21, p3, p4] o) := by
  intro o h
  refine rx_OK_of (by decide) (Nat.le_of_ble_eq_true rfl) ?_
  refine rx_walk [25, 32, 42, 71, 85] 2000 (by decide) rx_e68 ?_
  unfold f_rea_parseWish at h
  refine rr_callP h (fun y hy => f_rea_next_ok _ hy) (fun y1 hy1 h => ?_)
  refine rr_callS h (fun y hy => f_rea_take_ok _ hy) (fun y2 hy2 h => ?_)
  refine rr_if h (fun c16 h => ?_) (fun c16 h => ?_)
  · skip
    exact rx_sub (f_rea_parseWish_25_ok_w1 _ _ _ h) [3, 2, 0] rfl
  · skip
    refine rr_if h (fun c22 h => ?_) (fun c22 h => ?_)
    · skip
      exact rx_sub (f_rea_parseWish_25_ok_w1 _ _ _ h) [3, 2, 0] rfl
    · skip
      exact rx_sub (f_rea_parseWish_32_ok_w1 _ _ _ _ h) [3, 2, 1, 0] rfl
