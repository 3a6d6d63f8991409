set_option maxRecDepth 100000 in
set_option maxHeartbeats 4000000 in
theorem f_cho_choose_346_ok_r1w1 {p0 p1 p2 p3 : Nat} {o : rx_St} {k78 : Int32 → Int32 → rx_St → Option (rx_St)} (hk78 : ∀ (v5 : Int32) (v7 : Int32) (σ : rx_St), k78 v5 v7 σ = some o → rx_AtP none 23 78 [(0, .ref 51), (1, .ref 64), (3, .ref 21), (5, .int v5), (7, .int v7)] [] (rx_D [p0, p1, p2, p3, 21] σ) (none, rx_D [p0, p1, p2, p3, 21] o)) : ∀ (v5 : Int32) (v6 : Int32) (σ : rx_St), f_cho_choose_346 1 1 k78 v5 v6 σ = some o → rx_AtP none 23 346 [(0, .ref 51), (1, .ref 64), (3, .ref 21), (5, .int v5), (6, .int v6)] [] (rx_D [p0, p1, p2, p3, 21] σ) (none, rx_D [p0, p1, p2, p3, 21] o) := by
  intro v5 v6 σ h
  refine rx_walk [78, 244, 266, 293, 307, 326, 346] 2000 (by decide) rx_e23 ?_
  unfold f_cho_choose_346 at h
  exact rx_sub (hk78 _ _ _ h) [1, 2, 3, 4, 0] rfl
set_option maxRecDepth 100000 in
set_option maxHeartbeats 4000000 in
theorem f_cho_choose_307_ok_r1w1 {p0 p1 p2 p3 : Nat} {o : rx_St} {k78 : Int32 → Int32 → rx_St → Option (rx_St)} (hk78 : ∀ (v5 : Int32) (v7 : Int32) (σ : rx_St), k78 v5 v7 σ = some o → rx_AtP none 23 78 [(0, .ref 51), (1, .ref 64), (3, .ref 21), (5, .int v5), (7, .int v7)] [] (rx_D [p0, p1, p2, p3, 21] σ) (none, rx_D [p0, p1, p2, p3, 21] o)) : ∀ (v5 : Int32) (v6 : Int32) (v7 : Int32) (v8 : Int32) (v9 : Int32) (σ : rx_St), f_cho_choose_307 1 1 k78 v5 v6 v7 v8 v9 σ = some o → rx_AtP none 23 307 [(0, .ref 51), (1, .ref 64), (3, .ref 21), (5, .int v5), (6, .int v6), (7, .int v7), (8, .int v8), (9, .int v9)] [] (rx_D [p0, p1, p2, p3, 21] σ) (none, rx_D [p0, p1, p2, p3, 21] o) := by
  intro v5 v6 v7 v8 v9 σ h
  refine rx_walk [78, 244, 266, 293, 307, 326, 346] 2000 (by decide) rx_e23 ?_
  unfold f_cho_choose_307 at h
  refine rr_g h (fun c315 h => ?_)
  refine rr_callV h (fun y hy => f_cho_wish_ok_r1 _ hy) (fun y1 hy1 h => ?_)
  exact rx_sub (f_cho_choose_346_ok_r1w1 hk78 _ _ _ h) [0, 1, 2, 3, 4] rfl
set_option maxRecDepth 100000 in
set_option maxHeartbeats 4000000 in
theorem f_cho_choose_326_ok_r1w1 {p0 p1 p2 p3 : Nat} {o : rx_St} {k78 : Int32 → Int32 → rx_St → Option (rx_St)} (hk78 : ∀ (v5 : Int32) (v7 : Int32) (σ : rx_St), k78 v5 v7 σ = some o → rx_AtP none 23 78 [(0, .ref 51), (1, .ref 64), (3, .ref 21), (5, .int v5), (7, .int v7)] [] (rx_D [p0, p1, p2, p3, 21] σ) (none, rx_D [p0, p1, p2, p3, 21] o)) : ∀ (v5 : Int32) (v6 : Int32) (v7 : Int32) (v8 : Int32) (v9 : Int32) (σ : rx_St), f_cho_choose_326 1 1 k78 v5 v6 v7 v8 v9 σ = some o → rx_AtP none 23 326 [(0, .ref 51), (1, .ref 64), (3, .ref 21), (5, .int v5), (6, .int v6), (7, .int v7), (8, .int v8), (9, .int v9)] [] (rx_D [p0, p1, p2, p3, 21] σ) (none, rx_D [p0, p1, p2, p3, 21] o) := by
  intro v5 v6 v7 v8 v9 σ h
  refine rx_walk [78, 244, 266, 293, 307, 326, 346] 2000 (by decide) rx_e23 ?_
  unfold f_cho_choose_326 at h
  refine rr_g h (fun c335 h => ?_)
  refine rr_callS h (fun y hy => f_cho_unit_ok_r1 _ hy) (fun y1 hy1 h => ?_)
  refine rr_callV h (fun y hy => f_cho_push_ok _ hy) (fun y2 hy2 h => ?_)
  exact rx_sub (f_cho_choose_346_ok_r1w1 hk78 _ _ _ h) [0, 1, 2, 3, 4] rfl
set_option maxRecDepth 100000 in
set_option maxHeartbeats 4000000 in
theorem f_cho_choose_293_ok_r1w1 {p0 p1 p2 p3 : Nat} {o : rx_St} {k78 : Int32 → Int32 → rx_St → Option (rx_St)} (hk78 : ∀ (v5 : Int32) (v7 : Int32) (σ : rx_St), k78 v5 v7 σ = some o → rx_AtP none 23 78 [(0, .ref 51), (1, .ref 64), (3, .ref 21), (5, .int v5), (7, .int v7)] [] (rx_D [p0, p1, p2, p3, 21] σ) (none, rx_D [p0, p1, p2, p3, 21] o)) : ∀ (v5 : Int32) (v6 : Int32) (v7 : Int32) (σ : rx_St), f_cho_choose_293 1 1 k78 v5 v6 v7 σ = some o → rx_AtP none 23 293 [(0, .ref 51), (1, .ref 64), (3, .ref 21), (5, .int v5), (6, .int v6), (7, .int v7)] [] (rx_D [p0, p1, p2, p3, 21] σ) (none, rx_D [p0, p1, p2, p3, 21] o) := by
  intro v5 v6 v7 σ h
  refine rx_walk [78, 244, 266, 293, 307, 326, 346] 2000 (by decide) rx_e23 ?_
  unfold f_cho_choose_293 at h
  refine rr_g h (fun c300 h => ?_)
  refine rr_callV h (fun y hy => f_cho_join_ok _ hy) (fun y1 hy1 h => ?_)
  exact rx_sub (f_cho_choose_346_ok_r1w1 hk78 _ _ _ h) [0, 1, 2, 3, 4] rfl
set_option maxRecDepth 100000 in
set_option maxHeartbeats 4000000 in
theorem f_cho_choose_266_ok_r1w1 {p0 p1 p2 p3 : Nat} {o : rx_St} {k78 : Int32 → Int32 → rx_St → Option (rx_St)} (hk78 : ∀ (v5 : Int32) (v7 : Int32) (σ : rx_St), k78 v5 v7 σ = some o → rx_AtP none 23 78 [(0, .ref 51), (1, .ref 64), (3, .ref 21), (5, .int v5), (7, .int v7)] [] (rx_D [p0, p1, p2, p3, 21] σ) (none, rx_D [p0, p1, p2, p3, 21] o)) : ∀ (v5 : Int32) (v6 : Int32) (v9 : Int32) (s0 : Int32) (s1 : Int32) (σ : rx_St), f_cho_choose_266 1 1 k78 v5 v6 v9 s0 s1 σ = some o → rx_AtP none 23 266 [(0, .ref 51), (1, .ref 64), (3, .ref 21), (5, .int v5), (6, .int v6), (9, .int v9)] [.int s1, .int s0] (rx_D [p0, p1, p2, p3, 21] σ) (none, rx_D [p0, p1, p2, p3, 21] o) := by
  intro v5 v6 v9 s0 s1 σ h
  refine rx_walk [78, 244, 266, 293, 307, 326, 346] 2000 (by decide) rx_e23 ?_
  unfold f_cho_choose_266 at h
  refine rr_if h (fun c266 h => ?_) (fun c266 h => ?_)
  · skip
    refine rr_callT (f_j_max_ok _ rfl) ?_
    exact rx_sub (f_cho_choose_346_ok_r1w1 hk78 _ _ _ h) [1, 2, 3, 4, 0] rfl
  · skip
    exact rx_sub (f_cho_choose_346_ok_r1w1 hk78 _ _ _ h) [0, 1, 2, 3, 4] rfl
set_option maxRecDepth 100000 in
set_option maxHeartbeats 4000000 in
theorem f_cho_choose_244_ok_r1w1 {p0 p1 p2 p3 : Nat} {o : rx_St} {k78 : Int32 → Int32 → rx_St → Option (rx_St)} (hk78 : ∀ (v5 : Int32) (v7 : Int32) (σ : rx_St), k78 v5 v7 σ = some o → rx_AtP none 23 78 [(0, .ref 51), (1, .ref 64), (3, .ref 21), (5, .int v5), (7, .int v7)] [] (rx_D [p0, p1, p2, p3, 21] σ) (none, rx_D [p0, p1, p2, p3, 21] o)) : ∀ (v5 : Int32) (v6 : Int32) (v7 : Int32) (v8 : Int32) (v9 : Int32) (σ : rx_St), f_cho_choose_244 1 1 k78 v5 v6 v7 v8 v9 σ = some o → rx_AtP none 23 244 [(0, .ref 51), (1, .ref 64), (3, .ref 21), (5, .int v5), (6, .int v6), (7, .int v7), (8, .int v8), (9, .int v9)] [] (rx_D [p0, p1, p2, p3, 21] σ) (none, rx_D [p0, p1, p2, p3, 21] o) := by
  intro v5 v6 v7 v8 v9 σ h
  refine rx_walk [78, 244, 266, 293, 307, 326, 346] 2000 (by decide) rx_e23 ?_
  unfold f_cho_choose_244 at h
  refine rr_g h (fun c251 h => ?_)
  refine rr_callS h (fun y hy => f_cho_holds_ok _ hy) (fun y1 hy1 h => ?_)
  refine rr_if h (fun c258 h => ?_) (fun c258 h => ?_)
  · skip
    exact rx_sub (f_cho_choose_266_ok_r1w1 hk78 _ _ _ _ _ _ h) [0, 1, 2, 3, 4, 7] rfl
  · skip
    exact rx_sub (f_cho_choose_266_ok_r1w1 hk78 _ _ _ _ _ _ h) [0, 1, 2, 3, 4, 7] rfl
set_option maxRecDepth 100000 in
set_option maxHeartbeats 4000000 in
theorem f_cho_choose_78_ok_r1w1 {p0 p1 p2 p3 : Nat} {o : rx_St} : ∀ (n : Nat) (v5 : Int32) (v7 : Int32) (σ : rx_St), f_cho_choose_78 1 1 n v5 v7 σ = some o → rx_AtP none 23 78 [(0, .ref 51), (1, .ref 64), (3, .ref 21), (5, .int v5), (7, .int v7)] [] (rx_D [p0, p1, p2, p3, 21] σ) (none, rx_D [p0, p1, p2, p3, 21] o) := by
  intro n
  induction n with
  | zero => intro _ _ _ h; cases h
  | succ n ih =>
  intro v5 v7 σ h
  refine rx_walk [78, 244, 266, 293, 307, 326, 346] 2000 (by decide) rx_e23 ?_
  rw [f_cho_choose_78] at h
  refine rr_if h (fun c82 h => ?_) (fun c82 h => ?_)
  · skip
    cases h
    exact And.intro (rfl) rfl
  · skip
    refine rr_g h (fun c97 h => ?_)
    refine rr_g h (fun c106 h => ?_)
    refine rr_g h (fun c115 h => ?_)
    refine rr_if h (fun c116_0 h => ?_) (fun c116_0 h => ?_)
    · skip
      exact rx_sub (f_cho_choose_307_ok_r1w1 ih _ _ _ _ _ _ h) [3, 4, 5, 6, 2, 7, 1, 0] rfl
    · skip
      refine rr_if h (fun c116_1 h => ?_) (fun c116_1 h => ?_)
      · skip
        exact rx_sub (f_cho_choose_307_ok_r1w1 ih _ _ _ _ _ _ h) [3, 4, 5, 6, 2, 7, 1, 0] rfl
      · skip
        refine rr_if h (fun c116_2 h => ?_) (fun c116_2 h => ?_)
        · skip
          exact rx_sub (f_cho_choose_326_ok_r1w1 ih _ _ _ _ _ _ h) [3, 4, 5, 6, 2, 7, 1, 0] rfl
        · skip
          refine rr_if h (fun c116_3 h => ?_) (fun c116_3 h => ?_)
          · skip
            exact rx_sub (f_cho_choose_326_ok_r1w1 ih _ _ _ _ _ _ h) [3, 4, 5, 6, 2, 7, 1, 0] rfl
          · skip
            refine rr_if h (fun c116_4 h => ?_) (fun c116_4 h => ?_)
            · skip
              exact rx_sub (f_cho_choose_307_ok_r1w1 ih _ _ _ _ _ _ h) [3, 4, 5, 6, 2, 7, 1, 0] rfl
            · skip
              refine rr_if h (fun c116_5 h => ?_) (fun c116_5 h => ?_)
              · skip
                exact rx_sub (f_cho_choose_307_ok_r1w1 ih _ _ _ _ _ _ h) [3, 4, 5, 6, 2, 7, 1, 0] rfl
              · skip
                refine rr_if h (fun c116_6 h => ?_) (fun c116_6 h => ?_)
                · skip
                  exact rx_sub (f_cho_choose_307_ok_r1w1 ih _ _ _ _ _ _ h) [3, 4, 5, 6, 2, 7, 1, 0] rfl
                · skip
                  refine rr_if h (fun c116_7 h => ?_) (fun c116_7 h => ?_)
                  · skip
                    refine rr_callT (f_j_max_ok _ rfl) ?_
                    exact rx_sub (f_cho_choose_346_ok_r1w1 ih _ _ _ h) [3, 4, 5, 6, 0] rfl
                  · skip
                    refine rr_if h (fun c116_8 h => ?_) (fun c116_8 h => ?_)
                    · skip
                      exact rx_sub (f_cho_choose_326_ok_r1w1 ih _ _ _ _ _ _ h) [3, 4, 5, 6, 2, 7, 1, 0] rfl
                    · skip
                      refine rr_if h (fun c116_9 h => ?_) (fun c116_9 h => ?_)
                      · skip
                        exact rx_sub (f_cho_choose_326_ok_r1w1 ih _ _ _ _ _ _ h) [3, 4, 5, 6, 2, 7, 1, 0] rfl
                      · skip
                        refine rr_if h (fun c116_10 h => ?_) (fun c116_10 h => ?_)
                        · skip
                          exact rx_sub (f_cho_choose_326_ok_r1w1 ih _ _ _ _ _ _ h) [3, 4, 5, 6, 2, 7, 1, 0] rfl
                        · skip
                          refine rr_if h (fun c116_11 h => ?_) (fun c116_11 h => ?_)
                          · skip
                            exact rx_sub (f_cho_choose_326_ok_r1w1 ih _ _ _ _ _ _ h) [3, 4, 5, 6, 2, 7, 1, 0] rfl
                          · skip
                            refine rr_if h (fun c116_12 h => ?_) (fun c116_12 h => ?_)
                            · skip
                              exact rx_sub (f_cho_choose_326_ok_r1w1 ih _ _ _ _ _ _ h) [3, 4, 5, 6, 2, 7, 1, 0] rfl
                            · skip
                              refine rr_if h (fun c116_13 h => ?_) (fun c116_13 h => ?_)
                              · skip
                                exact rx_sub (f_cho_choose_326_ok_r1w1 ih _ _ _ _ _ _ h) [3, 4, 5, 6, 2, 7, 1, 0] rfl
                              · skip
                                refine rr_if h (fun c116_14 h => ?_) (fun c116_14 h => ?_)
                                · skip
                                  exact rx_sub (f_cho_choose_326_ok_r1w1 ih _ _ _ _ _ _ h) [3, 4, 5, 6, 2, 7, 1, 0] rfl
                                · skip
                                  refine rr_if h (fun c116_15 h => ?_) (fun c116_15 h => ?_)
                                  · skip
                                    exact rx_sub (f_cho_choose_326_ok_r1w1 ih _ _ _ _ _ _ h) [3, 4, 5, 6, 2, 7, 1, 0] rfl
                                  · skip
                                    refine rr_if h (fun c116_16 h => ?_) (fun c116_16 h => ?_)
                                    · skip
                                      exact rx_sub (f_cho_choose_326_ok_r1w1 ih _ _ _ _ _ _ h) [3, 4, 5, 6, 2, 7, 1, 0] rfl
                                    · skip
                                      refine rr_if h (fun c116_17 h => ?_) (fun c116_17 h => ?_)
                                      · skip
                                        exact rx_sub (f_cho_choose_326_ok_r1w1 ih _ _ _ _ _ _ h) [3, 4, 5, 6, 2, 7, 1, 0] rfl
                                      · skip
                                        refine rr_if h (fun c116_18 h => ?_) (fun c116_18 h => ?_)
                                        · skip
                                          exact rx_sub (f_cho_choose_326_ok_r1w1 ih _ _ _ _ _ _ h) [3, 4, 5, 6, 2, 7, 1, 0] rfl
                                        · skip
                                          refine rr_if h (fun c116_19 h => ?_) (fun c116_19 h => ?_)
                                          · skip
                                            exact rx_sub (f_cho_choose_326_ok_r1w1 ih _ _ _ _ _ _ h) [3, 4, 5, 6, 2, 7, 1, 0] rfl
                                          · skip
                                            refine rr_if h (fun c116_20 h => ?_) (fun c116_20 h => ?_)
                                            · skip
                                              exact rx_sub (f_cho_choose_293_ok_r1w1 ih _ _ _ _ h) [3, 4, 5, 6, 2, 7] rfl
                                            · skip
                                              refine rr_if h (fun c116_21 h => ?_) (fun c116_21 h => ?_)
                                              · skip
                                                exact rx_sub (f_cho_choose_293_ok_r1w1 ih _ _ _ _ h) [3, 4, 5, 6, 2, 7] rfl
                                              · skip
                                                refine rr_if h (fun c116_22 h => ?_) (fun c116_22 h => ?_)
                                                · skip
                                                  exact rx_sub (f_cho_choose_293_ok_r1w1 ih _ _ _ _ h) [3, 4, 5, 6, 2, 7] rfl
                                                · skip
                                                  refine rr_if h (fun c116_23 h => ?_) (fun c116_23 h => ?_)
                                                  · skip
                                                    exact rx_sub (f_cho_choose_293_ok_r1w1 ih _ _ _ _ h) [3, 4, 5, 6, 2, 7] rfl
                                                  · skip
                                                    refine rr_if h (fun c116_24 h => ?_) (fun c116_24 h => ?_)
                                                    · skip
                                                      exact rx_sub (f_cho_choose_244_ok_r1w1 ih _ _ _ _ _ _ h) [3, 4, 5, 6, 2, 7, 1, 0] rfl
                                                    · skip
                                                      refine rr_if h (fun c116_25 h => ?_) (fun c116_25 h => ?_)
                                                      · skip
                                                        exact rx_sub (f_cho_choose_244_ok_r1w1 ih _ _ _ _ _ _ h) [3, 4, 5, 6, 2, 7, 1, 0] rfl
                                                      · skip
                                                        refine rr_if h (fun c116_26 h => ?_) (fun c116_26 h => ?_)
                                                        · skip
                                                          exact rx_sub (f_cho_choose_244_ok_r1w1 ih _ _ _ _ _ _ h) [3, 4, 5, 6, 2, 7, 1, 0] rfl
                                                        · skip
                                                          refine rr_if h (fun c116_27 h => ?_) (fun c116_27 h => ?_)
                                                          · skip
                                                            exact rx_sub (f_cho_choose_244_ok_r1w1 ih _ _ _ _ _ _ h) [3, 4, 5, 6, 2, 7, 1, 0] rfl
                                                          · skip
                                                            exact rx_sub (f_cho_choose_326_ok_r1w1 ih _ _ _ _ _ _ h) [3, 4, 5, 6, 2, 7, 1, 0] rfl
set_option maxRecDepth 100000 in
set_option maxHeartbeats 4000000 in
theorem f_cho_choose_ok_r1w1 {p0 p1 p2 p3 : Nat} {a1 : Int32} {σ : rx_St} : ∀ o, f_cho_choose 1 1 a1 σ = some o → rx_OK 23 [.ref 51, .ref 64, .int a1] 162 [] [p0, p1, p2, p3, 21] σ (none, rx_D [p0, p1, p2, p3, 21] o) := by
  intro o h
  refine rx_OK_of (by decide) (Nat.le_of_ble_eq_true rfl) ?_
  refine rx_walk [78, 244, 266, 293, 307, 326, 346] 2000 (by decide) rx_e23 ?_
  unfold f_cho_choose at h
  refine rr_ck (Or.inl rfl) ?_
  refine rr_g h (fun c37 h => ?_)
  refine rr_g h (fun c46 h => ?_)
  refine rr_g h (fun c55 h => ?_)
  refine rr_callT (f_j_min_ok _ rfl) ?_
  refine rr_g h (fun c71 h => ?_)
  refine rr_callT (f_j_max_ok _ rfl) ?_
  exact rx_sub (f_cho_choose_78_ok_r1w1 rx_fu _ _ _ h) [4, 5, 3, 1, 0] rfl
set_option maxRecDepth 100000 in
set_option maxHeartbeats 4000000 in
theorem f_cho_choose_346_ok_r1w0 {p0 p1 p2 p3 : Nat} {o : rx_St} {k78 : Int32 → Int32 → rx_St → Option (rx_St)} (hk78 : ∀ (v5 : Int32) (v7 : Int32) (σ : rx_St), k78 v5 v7 σ = some o → rx_AtP none 23 78 [(0, .ref 51), (1, .ref 64), (3, .ref 7), (5, .int v5), (7, .int v7)] [] (rx_D [p0, p1, p2, p3, 7] σ) (none, rx_D [p0, p1, p2, p3, 7] o)) : ∀ (v5 : Int32) (v6 : Int32) (σ : rx_St), f_cho_choose_346 1 0 k78 v5 v6 σ = some o → rx_AtP none 23 346 [(0, .ref 51), (1, .ref 64), (3, .ref 7), (5, .int v5), (6, .int v6)] [] (rx_D [p0, p1, p2, p3, 7] σ) (none, rx_D [p0, p1, p2, p3, 7] o) := by
  intro v5 v6 σ h
  refine rx_walk [78, 244, 266, 293, 307, 326, 346] 2000 (by decide) rx_e23 ?_
  unfold f_cho_choose_346 at h
  exact rx_sub (hk78 _ _ _ h) [1, 2, 3, 4, 0] rfl
set_option maxRecDepth 100000 in
set_option maxHeartbeats 4000000 in
theorem f_cho_choose_307_ok_r1w0 {p0 p1 p2 p3 : Nat} {o : rx_St} {k78 : Int32 → Int32 → rx_St → Option (rx_St)} (hk78 : ∀ (v5 : Int32) (v7 : Int32) (σ : rx_St), k78 v5 v7 σ = some o → rx_AtP none 23 78 [(0, .ref 51), (1, .ref 64), (3, .ref 7), (5, .int v5), (7, .int v7)] [] (rx_D [p0, p1, p2, p3, 7] σ) (none, rx_D [p0, p1, p2, p3, 7] o)) : ∀ (v5 : Int32) (v6 : Int32) (v7 : Int32) (v8 : Int32) (v9 : Int32) (σ : rx_St), f_cho_choose_307 1 0 k78 v5 v6 v7 v8 v9 σ = some o → rx_AtP none 23 307 [(0, .ref 51), (1, .ref 64), (3, .ref 7), (5, .int v5), (6, .int v6), (7, .int v7), (8, .int v8), (9, .int v9)] [] (rx_D [p0, p1, p2, p3, 7] σ) (none, rx_D [p0, p1, p2, p3, 7] o) := by
  intro v5 v6 v7 v8 v9 σ h
  refine rx_walk [78, 244, 266, 293, 307, 326, 346] 2000 (by decide) rx_e23 ?_
  unfold f_cho_choose_307 at h
  refine rr_g h (fun c315 h => ?_)
  refine rr_callV h (fun y hy => f_cho_wish_ok_r1 _ hy) (fun y1 hy1 h => ?_)
  exact rx_sub (f_cho_choose_346_ok_r1w0 hk78 _ _ _ h) [0, 1, 2, 3, 4] rfl
set_option maxRecDepth 100000 in
set_option maxHeartbeats 4000000 in
theorem f_cho_choose_326_ok_r1w0 {p0 p1 p2 p3 : Nat} {o : rx_St} {k78 : Int32 → Int32 → rx_St → Option (rx_St)} (hk78 : ∀ (v5 : Int32) (v7 : Int32) (σ : rx_St), k78 v5 v7 σ = some o → rx_AtP none 23 78 [(0, .ref 51), (1, .ref 64), (3, .ref 7), (5, .int v5), (7, .int v7)] [] (rx_D [p0, p1, p2, p3, 7] σ) (none, rx_D [p0, p1, p2, p3, 7] o)) : ∀ (v5 : Int32) (v6 : Int32) (v7 : Int32) (v8 : Int32) (v9 : Int32) (σ : rx_St), f_cho_choose_326 1 0 k78 v5 v6 v7 v8 v9 σ = some o → rx_AtP none 23 326 [(0, .ref 51), (1, .ref 64), (3, .ref 7), (5, .int v5), (6, .int v6), (7, .int v7), (8, .int v8), (9, .int v9)] [] (rx_D [p0, p1, p2, p3, 7] σ) (none, rx_D [p0, p1, p2, p3, 7] o) := by
  intro v5 v6 v7 v8 v9 σ h
  refine rx_walk [78, 244, 266, 293, 307, 326, 346] 2000 (by decide) rx_e23 ?_
  unfold f_cho_choose_326 at h
  refine rr_g h (fun c335 h => ?_)
  refine rr_callS h (fun y hy => f_cho_unit_ok_r1 _ hy) (fun y1 hy1 h => ?_)
  refine rr_callV h (fun y hy => f_cho_push_ok _ hy) (fun y2 hy2 h => ?_)
  exact rx_sub (f_cho_choose_346_ok_r1w0 hk78 _ _ _ h) [0, 1, 2, 3, 4] rfl
set_option maxRecDepth 100000 in
set_option maxHeartbeats 4000000 in
theorem f_cho_choose_293_ok_r1w0 {p0 p1 p2 p3 : Nat} {o : rx_St} {k78 : Int32 → Int32 → rx_St → Option (rx_St)} (hk78 : ∀ (v5 : Int32) (v7 : Int32) (σ : rx_St), k78 v5 v7 σ = some o → rx_AtP none 23 78 [(0, .ref 51), (1, .ref 64), (3, .ref 7), (5, .int v5), (7, .int v7)] [] (rx_D [p0, p1, p2, p3, 7] σ) (none, rx_D [p0, p1, p2, p3, 7] o)) : ∀ (v5 : Int32) (v6 : Int32) (v7 : Int32) (σ : rx_St), f_cho_choose_293 1 0 k78 v5 v6 v7 σ = some o → rx_AtP none 23 293 [(0, .ref 51), (1, .ref 64), (3, .ref 7), (5, .int v5), (6, .int v6), (7, .int v7)] [] (rx_D [p0, p1, p2, p3, 7] σ) (none, rx_D [p0, p1, p2, p3, 7] o) := by
  intro v5 v6 v7 σ h
  refine rx_walk [78, 244, 266, 293, 307, 326, 346] 2000 (by decide) rx_e23 ?_
  unfold f_cho_choose_293 at h
  refine rr_g h (fun c300 h => ?_)
  refine rr_callV h (fun y hy => f_cho_join_ok _ hy) (fun y1 hy1 h => ?_)
  exact rx_sub (f_cho_choose_346_ok_r1w0 hk78 _ _ _ h) [0, 1, 2, 3, 4] rfl
set_option maxRecDepth 100000 in
set_option maxHeartbeats 4000000 in
theorem f_cho_choose_266_ok_r1w0 {p0 p1 p2 p3 : Nat} {o : rx_St} {k78 : Int32 → Int32 → rx_St → Option (rx_St)} (hk78 : ∀ (v5 : Int32) (v7 : Int32) (σ : rx_St), k78 v5 v7 σ = some o → rx_AtP none 23 78 [(0, .ref 51), (1, .ref 64), (3, .ref 7), (5, .int v5), (7, .int v7)] [] (rx_D [p0, p1, p2, p3, 7] σ) (none, rx_D [p0, p1, p2, p3, 7] o)) : ∀ (v5 : Int32) (v6 : Int32) (v9 : Int32) (s0 : Int32) (s1 : Int32) (σ : rx_St), f_cho_choose_266 1 0 k78 v5 v6 v9 s0 s1 σ = some o → rx_AtP none 23 266 [(0, .ref 51), (1, .ref 64), (3, .ref 7), (5, .int v5), (6, .int v6), (9, .int v9)] [.int s1, .int s0] (rx_D [p0, p1, p2, p3, 7] σ) (none, rx_D [p0, p1, p2, p3, 7] o) := by
  intro v5 v6 v9 s0 s1 σ h
  refine rx_walk [78, 244, 266, 293, 307, 326, 346] 2000 (by decide) rx_e23 ?_
  unfold f_cho_choose_266 at h
  refine rr_if h (fun c266 h => ?_) (fun c266 h => ?_)
  · skip
    refine rr_callT (f_j_max_ok _ rfl) ?_
    exact rx_sub (f_cho_choose_346_ok_r1w0 hk78 _ _ _ h) [1, 2, 3, 4, 0] rfl
  · skip
    exact rx_sub (f_cho_choose_346_ok_r1w0 hk78 _ _ _ h) [0, 1, 2, 3, 4] rfl
set_option maxRecDepth 100000 in
set_option maxHeartbeats 4000000 in
theorem f_cho_choose_244_ok_r1w0 {p0 p1 p2 p3 : Nat} {o : rx_St} {k78 : Int32 → Int32 → rx_St → Option (rx_St)} (hk78 : ∀ (v5 : Int32) (v7 : Int32) (σ : rx_St), k78 v5 v7 σ = some o → rx_AtP none 23 78 [(0, .ref 51), (1, .ref 64), (3, .ref 7), (5, .int v5), (7, .int v7)] [] (rx_D [p0, p1, p2, p3, 7] σ) (none, rx_D [p0, p1, p2, p3, 7] o)) : ∀ (v5 : Int32) (v6 : Int32) (v7 : Int32) (v8 : Int32) (v9 : Int32) (σ : rx_St), f_cho_choose_244 1 0 k78 v5 v6 v7 v8 v9 σ = some o → rx_AtP none 23 244 [(0, .ref 51), (1, .ref 64), (3, .ref 7), (5, .int v5), (6, .int v6), (7, .int v7), (8, .int v8), (9, .int v9)] [] (rx_D [p0, p1, p2, p3, 7] σ) (none, rx_D [p0, p1, p2, p3, 7] o) := by
  intro v5 v6 v7 v8 v9 σ h
  refine rx_walk [78, 244, 266, 293, 307, 326, 346] 2000 (by decide) rx_e23 ?_
  unfold f_cho_choose_244 at h
  refine rr_g h (fun c251 h => ?_)
  refine rr_callS h (fun y hy => f_cho_holds_ok _ hy) (fun y1 hy1 h => ?_)
  refine rr_if h (fun c258 h => ?_) (fun c258 h => ?_)
  · skip
    exact rx_sub (f_cho_choose_266_ok_r1w0 hk78 _ _ _ _ _ _ h) [0, 1, 2, 3, 4, 7] rfl
  · skip
    exact rx_sub (f_cho_choose_266_ok_r1w0 hk78 _ _ _ _ _ _ h) [0, 1, 2, 3, 4, 7] rfl
set_option maxRecDepth 100000 in
set_option maxHeartbeats 4000000 in
theorem f_cho_choose_78_ok_r1w0 {p0 p1 p2 p3 : Nat} {o : rx_St} : ∀ (n : Nat) (v5 : Int32) (v7 : Int32) (σ : rx_St), f_cho_choose_78 1 0 n v5 v7 σ = some o → rx_AtP none 23 78 [(0, .ref 51), (1, .ref 64), (3, .ref 7), (5, .int v5), (7, .int v7)] [] (rx_D [p0, p1, p2, p3, 7] σ) (none, rx_D [p0, p1, p2, p3, 7] o) := by
  intro n
  induction n with
  | zero => intro _ _ _ h; cases h
  | succ n ih =>
  intro v5 v7 σ h
  refine rx_walk [78, 244, 266, 293, 307, 326, 346] 2000 (by decide) rx_e23 ?_
  rw [f_cho_choose_78] at h
  refine rr_if h (fun c82 h => ?_) (fun c82 h => ?_)
  · skip
    cases h
    exact And.intro (rfl) rfl
  · skip
    refine rr_g h (fun c97 h => ?_)
    refine rr_g h (fun c106 h => ?_)
    refine rr_g h (fun c115 h => ?_)
    refine rr_if h (fun c116_0 h => ?_) (fun c116_0 h => ?_)
    · skip
      exact rx_sub (f_cho_choose_307_ok_r1w0 ih _ _ _ _ _ _ h) [3, 4, 5, 6, 2, 7, 1, 0] rfl
    · skip
      refine rr_if h (fun c116_1 h => ?_) (fun c116_1 h => ?_)
      · skip
        exact rx_sub (f_cho_choose_307_ok_r1w0 ih _ _ _ _ _ _ h) [3, 4, 5, 6, 2, 7, 1, 0] rfl
      · skip
        refine rr_if h (fun c116_2 h => ?_) (fun c116_2 h => ?_)
        · skip
          exact rx_sub (f_cho_choose_326_ok_r1w0 ih _ _ _ _ _ _ h) [3, 4, 5, 6, 2, 7, 1, 0] rfl
        · skip
          refine rr_if h (fun c116_3 h => ?_) (fun c116_3 h => ?_)
          · skip
            exact rx_sub (f_cho_choose_326_ok_r1w0 ih _ _ _ _ _ _ h) [3, 4, 5, 6, 2, 7, 1, 0] rfl
          · skip
            refine rr_if h (fun c116_4 h => ?_) (fun c116_4 h => ?_)
            · skip
              exact rx_sub (f_cho_choose_307_ok_r1w0 ih _ _ _ _ _ _ h) [3, 4, 5, 6, 2, 7, 1, 0] rfl
            · skip
              refine rr_if h (fun c116_5 h => ?_) (fun c116_5 h => ?_)
              · skip
                exact rx_sub (f_cho_choose_307_ok_r1w0 ih _ _ _ _ _ _ h) [3, 4, 5, 6, 2, 7, 1, 0] rfl
              · skip
                refine rr_if h (fun c116_6 h => ?_) (fun c116_6 h => ?_)
                · skip
                  exact rx_sub (f_cho_choose_307_ok_r1w0 ih _ _ _ _ _ _ h) [3, 4, 5, 6, 2, 7, 1, 0] rfl
                · skip
                  refine rr_if h (fun c116_7 h => ?_) (fun c116_7 h => ?_)
                  · skip
                    refine rr_callT (f_j_max_ok _ rfl) ?_
                    exact rx_sub (f_cho_choose_346_ok_r1w0 ih _ _ _ h) [3, 4, 5, 6, 0] rfl
                  · skip
                    refine rr_if h (fun c116_8 h => ?_) (fun c116_8 h => ?_)
                    · skip
                      exact rx_sub (f_cho_choose_326_ok_r1w0 ih _ _ _ _ _ _ h) [3, 4, 5, 6, 2, 7, 1, 0] rfl
                    · skip
                      refine rr_if h (fun c116_9 h => ?_) (fun c116_9 h => ?_)
                      · skip
                        exact rx_sub (f_cho_choose_326_ok_r1w0 ih _ _ _ _ _ _ h) [3, 4, 5, 6, 2, 7, 1, 0] rfl
                      · skip
                        refine rr_if h (fun c116_10 h => ?_) (fun c116_10 h => ?_)
                        · skip
                          exact rx_sub (f_cho_choose_326_ok_r1w0 ih _ _ _ _ _ _ h) [3, 4, 5, 6, 2, 7, 1, 0] rfl
                        · skip
                          refine rr_if h (fun c116_11 h => ?_) (fun c116_11 h => ?_)
                          · skip
                            exact rx_sub (f_cho_choose_326_ok_r1w0 ih _ _ _ _ _ _ h) [3, 4, 5, 6, 2, 7, 1, 0] rfl
                          · skip
                            refine rr_if h (fun c116_12 h => ?_) (fun c116_12 h => ?_)
                            · skip
                              exact rx_sub (f_cho_choose_326_ok_r1w0 ih _ _ _ _ _ _ h) [3, 4, 5, 6, 2, 7, 1, 0] rfl
                            · skip
                              refine rr_if h (fun c116_13 h => ?_) (fun c116_13 h => ?_)
                              · skip
                                exact rx_sub (f_cho_choose_326_ok_r1w0 ih _ _ _ _ _ _ h) [3, 4, 5, 6, 2, 7, 1, 0] rfl
                              · skip
                                refine rr_if h (fun c116_14 h => ?_) (fun c116_14 h => ?_)
                                · skip
                                  exact rx_sub (f_cho_choose_326_ok_r1w0 ih _ _ _ _ _ _ h) [3, 4, 5, 6, 2, 7, 1, 0] rfl
                                · skip
                                  refine rr_if h (fun c116_15 h => ?_) (fun c116_15 h => ?_)
                                  · skip
                                    exact rx_sub (f_cho_choose_326_ok_r1w0 ih _ _ _ _ _ _ h) [3, 4, 5, 6, 2, 7, 1, 0] rfl
                                  · skip
                                    refine rr_if h (fun c116_16 h => ?_) (fun c116_16 h => ?_)
                                    · skip
                                      exact rx_sub (f_cho_choose_326_ok_r1w0 ih _ _ _ _ _ _ h) [3, 4, 5, 6, 2, 7, 1, 0] rfl
                                    · skip
                                      refine rr_if h (fun c116_17 h => ?_) (fun c116_17 h => ?_)
                                      · skip
                                        exact rx_sub (f_cho_choose_326_ok_r1w0 ih _ _ _ _ _ _ h) [3, 4, 5, 6, 2, 7, 1, 0] rfl
                                      · skip
                                        refine rr_if h (fun c116_18 h => ?_) (fun c116_18 h => ?_)
                                        · skip
                                          exact rx_sub (f_cho_choose_326_ok_r1w0 ih _ _ _ _ _ _ h) [3, 4, 5, 6, 2, 7, 1, 0] rfl
                                        · skip
                                          refine rr_if h (fun c116_19 h => ?_) (fun c116_19 h => ?_)
                                          · skip
                                            exact rx_sub (f_cho_choose_326_ok_r1w0 ih _ _ _ _ _ _ h) [3, 4, 5, 6, 2, 7, 1, 0] rfl
                                          · skip
                                            refine rr_if h (fun c116_20 h => ?_) (fun c116_20 h => ?_)
                                            · skip
                                              exact rx_sub (f_cho_choose_293_ok_r1w0 ih _ _ _ _ h) [3, 4, 5, 6, 2, 7] rfl
                                            · skip
                                              refine rr_if h (fun c116_21 h => ?_) (fun c116_21 h => ?_)
                                              · skip
                                                exact rx_sub (f_cho_choose_293_ok_r1w0 ih _ _ _ _ h) [3, 4, 5, 6, 2, 7] rfl
                                              · skip
                                                refine rr_if h (fun c116_22 h => ?_) (fun c116_22 h => ?_)
                                                · skip
                                                  exact rx_sub (f_cho_choose_293_ok_r1w0 ih _ _ _ _ h) [3, 4, 5, 6, 2, 7] rfl
                                                · skip
                                                  refine rr_if h (fun c116_23 h => ?_) (fun c116_23 h => ?_)
                                                  · skip
                                                    exact rx_sub (f_cho_choose_293_ok_r1w0 ih _ _ _ _ h) [3, 4, 5, 6, 2, 7] rfl
                                                  · skip
                                                    refine rr_if h (fun c116_24 h => ?_) (fun c116_24 h => ?_)
                                                    · skip
                                                      exact rx_sub (f_cho_choose_244_ok_r1w0 ih _ _ _ _ _ _ h) [3, 4, 5, 6, 2, 7, 1, 0] rfl
                                                    · skip
                                                      refine rr_if h (fun c116_25 h => ?_) (fun c116_25 h => ?_)
                                                      · skip
                                                        exact rx_sub (f_cho_choose_244_ok_r1w0 ih _ _ _ _ _ _ h) [3, 4, 5, 6, 2, 7, 1, 0] rfl
                                                      · skip
                                                        refine rr_if h (fun c116_26 h => ?_) (fun c116_26 h => ?_)
                                                        · skip
                                                          exact rx_sub (f_cho_choose_244_ok_r1w0 ih _ _ _ _ _ _ h) [3, 4, 5, 6, 2, 7, 1, 0] rfl
                                                        · skip
                                                          refine rr_if h (fun c116_27 h => ?_) (fun c116_27 h => ?_)
                                                          · skip
                                                            exact rx_sub (f_cho_choose_244_ok_r1w0 ih _ _ _ _ _ _ h) [3, 4, 5, 6, 2, 7, 1, 0] rfl
                                                          · skip
                                                            exact rx_sub (f_cho_choose_326_ok_r1w0 ih _ _ _ _ _ _ h) [3, 4, 5, 6, 2, 7, 1, 0] rfl
set_option maxRecDepth 100000 in
set_option maxHeartbeats 4000000 in
theorem f_cho_choose_ok_r1w0 {p0 p1 p2 p3 : Nat} {a1 : Int32} {σ : rx_St} : ∀ o, f_cho_choose 1 0 a1 σ = some o → rx_OK 23 [.ref 51, .ref 64, .int a1] 162 [] [p0, p1, p2, p3, 7] σ (none, rx_D [p0, p1, p2, p3, 7] o) := by
  intro o h
  refine rx_OK_of (by decide) (Nat.le_of_ble_eq_true rfl) ?_
  refine rx_walk [78, 244, 266, 293, 307, 326, 346] 2000 (by decide) rx_e23 ?_
  unfold f_cho_choose at h
  refine rr_ck (Or.inl rfl) ?_
  refine rr_g h (fun c37 h => ?_)
  refine rr_g h (fun c46 h => ?_)
  refine rr_g h (fun c55 h => ?_)
  refine rr_callT (f_j_min_ok _ rfl) ?_
  refine rr_g h (fun c71 h => ?_)
  refine rr_callT (f_j_max_ok _ rfl) ?_
  exact rx_sub (f_cho_choose_78_ok_r1w0 rx_fu _ _ _ h) [4, 5, 3, 1, 0] rfl
set_option maxRecDepth 100000 in
theorem rx_e78 : rx_Ext none 78 := rx_Ext_plain (by decide +kernel)
set_option maxRecDepth 100000 in
set_option maxHeartbeats 4000000 in
theorem f_run_putInOrder_98_ok_r0 {P : List Nat} {o : rx_St} {k2 : Int32 → rx_St → Option (rx_St)} (hk2 : ∀ (v1 : Int32) (σ : rx_St), k2 v1 σ = some o → rx_AtP none 78 2 [(0, .ref 57), (1, .int v1)] [] (rx_D P σ) (none, rx_D P o)) : ∀ (v1 : Int32) (v2 : Int32) (v3 : Int32) (σ : rx_St), f_run_putInOrder_98 0 k2 v1 v2 v3 σ = some o → rx_AtP none 78 98 [(0, .ref 57), (1, .int v1), (2, .int v2), (3, .int v3)] [] (rx_D P σ) (none, rx_D P o) := by
  intro v1 v2 v3 σ h
  refine rx_walk [2, 45, 48, 98] 2000 (by decide) rx_e78 ?_
  unfold f_run_putInOrder_98 at h
  refine rr_g h (fun c104 h => ?_)
  refine rr_g h (fun c111 h => ?_)
  exact rx_sub (hk2 _ _ h) [1, 0] rfl
set_option maxRecDepth 100000 in
set_option maxHeartbeats 4000000 in
theorem f_run_putInOrder_48_ok_r0 {P : List Nat} {o : rx_St} {k2 : Int32 → rx_St → Option (rx_St)} (hk2 : ∀ (v1 : Int32) (σ : rx_St), k2 v1 σ = some o → rx_AtP none 78 2 [(0, .ref 57), (1, .int v1)] [] (rx_D P σ) (none, rx_D P o)) : ∀ (n : Nat) (v1 : Int32) (v2 : Int32) (v3 : Int32) (σ : rx_St), f_run_putInOrder_48 0 k2 n v1 v2 v3 σ = some o → rx_AtP none 78 48 [(0, .ref 57), (1, .int v1), (2, .int v2), (3, .int v3)] [] (rx_D P σ) (none, rx_D P o) := by
  intro n
  induction n with
  | zero => intro _ _ _ _ h; cases h
  | succ n ih =>
  intro v1 v2 v3 σ h
  refine rx_walk [2, 45, 48, 98] 2000 (by decide) rx_e78 ?_
  rw [f_run_putInOrder_48] at h
  refine rr_if h (fun c49 h => ?_) (fun c49 h => ?_)
  · skip
    exact rx_sub (f_run_putInOrder_98_ok_r0 hk2 _ _ _ _ h) [0, 1, 2, 3] rfl
  · skip
    refine rr_g h (fun c59 h => ?_)
    refine rr_if h (fun c61 h => ?_) (fun c61 h => ?_)
    · skip
      exact rx_sub (f_run_putInOrder_98_ok_r0 hk2 _ _ _ _ h) [0, 1, 2, 3] rfl
    · skip
      refine rr_g h (fun c76 h => ?_)
      refine rr_g h (fun c77 h => ?_)
      refine rr_g h (fun c90 h => ?_)
      refine rr_g h (fun c91 h => ?_)
      exact rx_sub (ih _ _ _ _ h) [1, 2, 3, 0] rfl
set_option maxRecDepth 100000 in
set_option maxHeartbeats 4000000 in
theorem f_run_putInOrder_45_ok_r0 {P : List Nat} {o : rx_St} {k2 : Int32 → rx_St → Option (rx_St)} (hk2 : ∀ (v1 : Int32) (σ : rx_St), k2 v1 σ = some o → rx_AtP none 78 2 [(0, .ref 57), (1, .int v1)] [] (rx_D P σ) (none, rx_D P o)) : ∀ (v1 : Int32) (s0 : Int32) (σ : rx_St), f_run_putInOrder_45 0 k2 v1 s0 σ = some o → rx_AtP none 78 45 [(0, .ref 57), (1, .int v1)] [.int s0] (rx_D P σ) (none, rx_D P o) := by
  intro v1 s0 σ h
  refine rx_walk [2, 45, 48, 98] 2000 (by decide) rx_e78 ?_
  unfold f_run_putInOrder_45 at h
  exact rx_sub (f_run_putInOrder_48_ok_r0 hk2 rx_fu _ _ _ _ h) [2, 3, 1, 0] rfl
set_option maxRecDepth 100000 in
set_option maxHeartbeats 4000000 in
theorem f_run_putInOrder_2_ok_r0 {P : List Nat} {o : rx_St} : ∀ (n : Nat) (v1 : Int32) (σ : rx_St), f_run_putInOrder_2 0 n v1 σ = some o → rx_AtP none 78 2 [(0, .ref 57), (1, .int v1)] [] (rx_D P σ) (none, rx_D P o) := by
  intro n
  induction n with
  | zero => intro _ _ h; cases h
  | succ n ih =>
  intro v1 σ h
  refine rx_walk [2, 45, 48, 98] 2000 (by decide) rx_e78 ?_
  rw [f_run_putInOrder_2] at h
  refine rr_if h (fun c10 h => ?_) (fun c10 h => ?_)
  · skip
    cases h
    exact And.intro (rfl) rfl
  · skip
    refine rr_if h (fun c20 h => ?_) (fun c20 h => ?_)
    · skip
      exact rx_sub (f_run_putInOrder_45_ok_r0 ih _ _ _ h) [0, 1] rfl
    · skip
      refine rr_callP h (fun y hy => f_c_dealLot_ok _ hy) (fun y1 hy1 h => ?_)
      exact rx_sub (f_run_putInOrder_45_ok_r0 ih _ _ _ h) [0, 1] rfl
set_option maxRecDepth 100000 in
set_option maxHeartbeats 4000000 in
theorem f_run_putInOrder_ok_r0 {P : List Nat} {σ : rx_St} : ∀ o, f_run_putInOrder 0 σ = some o → rx_OK 78 [.ref 57] 162 [] P σ (none, rx_D P o) := by
  intro o h
  refine rx_OK_of (by decide) (Nat.le_of_ble_eq_true rfl) ?_
  refine rx_walk [2, 45, 48, 98] 2000 (by decide) rx_e78 ?_
  unfold f_run_putInOrder at h
  exact rx_sub (f_run_putInOrder_2_ok_r0 rx_fu _ _ h) [1, 0] rfl
set_option maxRecDepth 100000 in
set_option maxHeartbeats 4000000 in
theorem f_run_putInOrder_98_ok_r1 {P : List Nat} {o : rx_St} {k2 : Int32 → rx_St → Option (rx_St)} (hk2 : ∀ (v1 : Int32) (σ : rx_St), k2 v1 σ = some o → rx_AtP none 78 2 [(0, .ref 64), (1, .int v1)] [] (rx_D P σ) (none, rx_D P o)) : ∀ (v1 : Int32) (v2 : Int32) (v3 : Int32) (σ : rx_St), f_run_putInOrder_98 1 k2 v1 v2 v3 σ = some o → rx_AtP none 78 98 [(0, .ref 64), (1, .int v1), (2, .int v2), (3, .int v3)] [] (rx_D P σ) (none, rx_D P o) := by
  intro v1 v2 v3 σ h
  refine rx_walk [2, 45, 48, 98] 2000 (by decide) rx_e78 ?_
  unfold f_run_putInOrder_98 at h
  refine rr_g h (fun c104 h => ?_)
  refine rr_g h (fun c111 h => ?_)
  exact rx_sub (hk2 _ _ h) [1, 0] rfl
set_option maxRecDepth 100000 in
set_option maxHeartbeats 4000000 in
theorem f_run_putInOrder_48_ok_r1 {P : List Nat} {o : rx_St} {k2 : Int32 → rx_St → Option (rx_St)} (hk2 : ∀ (v1 : Int32) (σ : rx_St), k2 v1 σ = some o → rx_AtP none 78 2 [(0, .ref 64), (1, .int v1)] [] (rx_D P σ) (none, rx_D P o)) : ∀ (n : Nat) (v1 : Int32) (v2 : Int32) (v3 : Int32) (σ : rx_St), f_run_putInOrder_48 1 k2 n v1 v2 v3 σ = some o → rx_AtP none 78 48 [(0, .ref 64), (1, .int v1), (2, .int v2), (3, .int v3)] [] (rx_D P σ) (none, rx_D P o) := by
  intro n
  induction n with
  | zero => intro _ _ _ _ h; cases h
  | succ n ih =>
  intro v1 v2 v3 σ h
  refine rx_walk [2, 45, 48, 98] 2000 (by decide) rx_e78 ?_
  rw [f_run_putInOrder_48] at h
  refine rr_if h (fun c49 h => ?_) (fun c49 h => ?_)
  · skip
    exact rx_sub (f_run_putInOrder_98_ok_r1 hk2 _ _ _ _ h) [0, 1, 2, 3] rfl
  · skip
    refine rr_g h (fun c59 h => ?_)
    refine rr_if h (fun c61 h => ?_) (fun c61 h => ?_)
    · skip
      exact rx_sub (f_run_putInOrder_98_ok_r1 hk2 _ _ _ _ h) [0, 1, 2, 3] rfl
    · skip
      refine rr_g h (fun c76 h => ?_)
      refine rr_g h (fun c77 h => ?_)
      refine rr_g h (fun c90 h => ?_)
      refine rr_g h (fun c91 h => ?_)
      exact rx_sub (ih _ _ _ _ h) [1, 2, 3, 0] rfl
set_option maxRecDepth 100000 in
set_option maxHeartbeats 4000000 in
theorem f_run_putInOrder_45_ok_r1 {P : List Nat} {o : rx_St} {k2 : Int32 → rx_St → Option (rx_St)} (hk2 : ∀ (v1 : Int32) (σ : rx_St), k2 v1 σ = some o → rx_AtP none 78 2 [(0, .ref 64), (1, .int v1)] [] (rx_D P σ) (none, rx_D P o)) : ∀ (v1 : Int32) (s0 : Int32) (σ : rx_St), f_run_putInOrder_45 1 k2 v1 s0 σ = some o → rx_AtP none 78 45 [(0, .ref 64), (1, .int v1)] [.int s0] (rx_D P σ) (none, rx_D P o) := by
  intro v1 s0 σ h
  refine rx_walk [2, 45, 48, 98] 2000 (by decide) rx_e78 ?_
  unfold f_run_putInOrder_45 at h
  exact rx_sub (f_run_putInOrder_48_ok_r1 hk2 rx_fu _ _ _ _ h) [2, 3, 1, 0] rfl
set_option maxRecDepth 100000 in
set_option maxHeartbeats 4000000 in
theorem f_run_putInOrder_2_ok_r1 {P : List Nat} {o : rx_St} : ∀ (n : Nat) (v1 : Int32) (σ : rx_St), f_run_putInOrder_2 1 n v1 σ = some o → rx_AtP none 78 2 [(0, .ref 64), (1, .int v1)] [] (rx_D P σ) (none, rx_D P o) := by
  intro n
  induction n with
  | zero => intro _ _ h; cases h
  | succ n ih =>
  intro v1 σ h
  refine rx_walk [2, 45, 48, 98] 2000 (by decide) rx_e78 ?_
  rw [f_run_putInOrder_2] at h
  refine rr_if h (fun c10 h => ?_) (fun c10 h => ?_)
  · skip
    cases h
    exact And.intro (rfl) rfl
  · skip
    refine rr_if h (fun c20 h => ?_) (fun c20 h => ?_)
    · skip
      exact rx_sub (f_run_putInOrder_45_ok_r1 ih _ _ _ h) [0, 1] rfl
    · skip
      refine rr_callP h (fun y hy => f_c_dealLot_ok _ hy) (fun y1 hy1 h => ?_)
      exact rx_sub (f_run_putInOrder_45_ok_r1 ih _ _ _ h) [0, 1] rfl
set_option maxRecDepth 100000 in
set_option maxHeartbeats 4000000 in
theorem f_run_putInOrder_ok_r1 {P : List Nat} {σ : rx_St} : ∀ o, f_run_putInOrder 1 σ = some o → rx_OK 78 [.ref 64] 162 [] P σ (none, rx_D P o) := by
  intro o h
  refine rx_OK_of (by decide) (Nat.le_of_ble_eq_true rfl) ?_
  refine rx_walk [2, 45, 48, 98] 2000 (by decide) rx_e78 ?_
  unfold f_run_putInOrder at h
  exact rx_sub (f_run_putInOrder_2_ok_r1 rx_fu _ _ h) [1, 0] rfl
set_option maxRecDepth 100000 in
theorem rx_e80 : rx_Ext none 80 := rx_Ext_plain (by decide +kernel)
set_option maxRecDepth 100000 in
set_option maxHeartbeats 4000000 in
theorem f_run_addTo_ok_r0 {P : List Nat} {a0 : Int32} {a1 : Int32} {σ : rx_St} : ∀ o, f_run_addTo 0 a0 a1 σ = some o → rx_OK 80 [.ref 57, .int a0, .int a1] 162 [] P σ (none, rx_D P o) := by
  intro o h
  refine rx_OK_of (by decide) (Nat.le_of_ble_eq_true rfl) ?_
  refine rx_walk [] 2000 (by decide) rx_e80 ?_
  unfold f_run_addTo at h
  refine rr_if h (fun c1 h => ?_) (fun c1 h => ?_)
  · skip
    cases h
    exact And.intro (rfl) rfl
  · skip
    refine rr_if h (fun c10 h => ?_) (fun c10 h => ?_)
    · skip
      cases h
      exact And.intro (rfl) rfl
    · skip
      refine rr_g h (fun c19 h => ?_)
      refine rr_g h (fun c22 h => ?_)
      cases h
      exact And.intro (rfl) rfl
set_option maxRecDepth 100000 in
set_option maxHeartbeats 4000000 in
theorem f_run_addTo_ok_r1 {P : List Nat} {a0 : Int32} {a1 : Int32} {σ : rx_St} : ∀ o, f_run_addTo 1 a0 a1 σ = some o → rx_OK 80 [.ref 64, .int a0, .int a1] 162 [] P σ (none, rx_D P o) := by
  intro o h
  refine rx_OK_of (by decide) (Nat.le_of_ble_eq_true rfl) ?_
  refine rx_walk [] 2000 (by decide) rx_e80 ?_
  unfold f_run_addTo at h
  refine rr_if h (fun c1 h => ?_) (fun c1 h => ?_)
  · skip
    cases h
    exact And.intro (rfl) rfl
  · skip
    refine rr_if h (fun c10 h => ?_) (fun c10 h => ?_)
    · skip
      cases h
      exact And.intro (rfl) rfl
    · skip
      refine rr_g h (fun c19 h => ?_)
      refine rr_g h (fun c22 h => ?_)
      cases h
      exact And.intro (rfl) rfl
set_option maxRecDepth 100000 in
theorem rx_e260 : rx_Ext none 260 := rx_Ext_plain (by decide +kernel)
set_option maxRecDepth 100000 in
set_option maxHeartbeats 4000000 in
theorem f_j_floorMod_ok {P : List Nat} {σ : rx_St} {a0 : Int32} {a1 : Int32} : ∀ o, f_j_floorMod a0 a1 = some o → rx_OK 260 [.int a0, .int a1] 162 [] P σ (some (.int o), rx_D P σ) := by
  intro o h
  refine rx_OK_of (by decide) (Nat.le_of_ble_eq_true rfl) ?_
  refine rx_walk [] 2000 (by decide) rx_e260 ?_
  unfold f_j_floorMod at h
  refine rr_c h (fun c2 h => ?_)
  refine rr_if h (fun c7 h => ?_) (fun c7 h => ?_)
  · skip
    cases h
    exact And.intro (trivial) rfl
  · skip
    refine rr_if h (fun c11 h => ?_) (fun c11 h => ?_)
    · skip
      cases h
      exact And.intro (trivial) rfl
    · skip
      cases h
      exact And.intro (trivial) rfl
set_option maxRecDepth 100000 in
theorem rx_e104 : rx_Ext none 104 := rx_Ext_plain (by decide +kernel)
set_option maxRecDepth 100000 in
set_option maxHeartbeats 4000000 in
theorem f_tow_hasOne_ok {P : List Nat} {a0 : Int32} {σ : rx_St} : ∀ o, f_tow_hasOne a0 σ = o → rx_OK 104 [.ref 38, .int a0] 162 [] P σ (some (.int o), rx_D P σ) := by
  intro o h
  refine rx_OK_of (by decide) (Nat.le_of_ble_eq_true rfl) ?_
  refine rx_walk [] 2000 (by decide) rx_e104 ?_
  unfold f_tow_hasOne at h
  refine rr_if h (fun c1 h => ?_) (fun c1 h => ?_)
  · skip
    cases h
    exact And.intro (Or.inl rfl) rfl
  · skip
    refine rr_if h (fun c9 h => ?_) (fun c9 h => ?_)
    · skip
      cases h
      exact And.intro (Or.inl rfl) rfl
    · skip
      cases h
      exact And.intro (Or.inr rfl) rfl
set_option maxRecDepth 100000 in
theorem rx_e81 : rx_Ext none 81 := rx_Ext_plain (by decide +kernel)
set_option maxRecDepth 100000 in
set_option maxHeartbeats 4000000 in
theorem f_run_hand_ok_r0 {P : List Nat} {a0 : Int32} {a1 : Int32} {a2 : Int32} {a3 : Int32} {σ : rx_St} : ∀ o, f_run_hand 0 a0 a1 a2 a3 σ = some o → rx_OK 81 [.ref 57, .int a0, .int a1, .int a2, .int a3] 162 [] P σ (none, rx_D P o) := by
  intro o h
  refine rx_OK_of (by decide) (Nat.le_of_ble_eq_true rfl) ?_
  refine rx_walk [] 2000 (by decide) rx_e81 ?_
  unfold f_run_hand at h
  refine rr_callP h (fun y hy => f_c_cell_59_ok_r0 _ hy) (fun y1 hy1 h => ?_)
  refine rr_callT (f_j_min_ok _ rfl) ?_
  refine rr_if h (fun c18 h => ?_) (fun c18 h => ?_)
  · skip
    cases h
    exact And.intro (rfl) rfl
  · skip
    refine rr_callT (f_tow_hasOne_ok _ rfl) ?_
    refine rr_if h (fun c29 h => ?_) (fun c29 h => ?_)
    · skip
      cases h
      exact And.intro (rfl) rfl
    · skip
      refine rr_g h (fun c37 h => ?_)
      refine rr_if h (fun c38 h => ?_) (fun c38 h => ?_)
      · skip
        refine rr_callV h (fun y hy => f_run_addTo_ok_r0 _ hy) (fun y2 hy2 h => ?_)
        refine rr_callV h (fun y hy => f_run_addTo_ok_r0 _ hy) (fun y3 hy3 h => ?_)
        cases h
        exact And.intro (rfl) rfl
      · skip
        cases h
        exact And.intro (rfl) rfl
set_option maxRecDepth 100000 in
set_option maxHeartbeats 4000000 in
theorem f_run_hand_ok_r1 {P : List Nat} {a0 : Int32} {a1 : Int32} {a2 : Int32} {a3 : Int32} {σ : rx_St} : ∀ o, f_run_hand 1 a0 a1 a2 a3 σ = some o → rx_OK 81 [.ref 64, .int a0, .int a1, .int a2, .int a3] 162 [] P σ (none, rx_D P o) := by
  intro o h
  refine rx_OK_of (by decide) (Nat.le_of_ble_eq_true rfl) ?_
  refine rx_walk [] 2000 (by decide) rx_e81 ?_
  unfold f_run_hand at h
  refine rr_callP h (fun y hy => f_c_cell_59_ok_r1 _ hy) (fun y1 hy1 h => ?_)
  refine rr_callT (f_j_min_ok _ rfl) ?_
  refine rr_if h (fun c18 h => ?_) (fun c18 h => ?_)
  · skip
    cases h
    exact And.intro (rfl) rfl
  · skip
    refine rr_callT (f_tow_hasOne_ok _ rfl) ?_
    refine rr_if h (fun c29 h => ?_) (fun c29 h => ?_)
    · skip
      cases h
      exact And.intro (rfl) rfl
    · skip
      refine rr_g h (fun c37 h => ?_)
      refine rr_if h (fun c38 h => ?_) (fun c38 h => ?_)
      · skip
        refine rr_callV h (fun y hy => f_run_addTo_ok_r1 _ hy) (fun y2 hy2 h => ?_)
        refine rr_callV h (fun y hy => f_run_addTo_ok_r1 _ hy) (fun y3 hy3 h => ?_)
        cases h
        exact And.intro (rfl) rfl
      · skip
        cases h
        exact And.intro (rfl) rfl
set_option maxRecDepth 100000 in
theorem rx_e79 : rx_Ext none 79 := rx_Ext_plain (by decide +kernel)
set_option maxRecDepth 100000 in
set_option maxHeartbeats 4000000 in
theorem f_run_fulfil_174_ok_r0 {P : List Nat} {o : rx_St} {k7 : Int32 → Int32 → Int32 → rx_St → Option (rx_St)} (hk7 : ∀ (v1 : Int32) (v2 : Int32) (v3 : Int32) (σ : rx_St), k7 v1 v2 v3 σ = some o → rx_AtP none 79 7 [(0, .ref 57), (1, .int v1), (2, .int v2), (3, .int v3)] [] (rx_D P σ) (none, rx_D P o)) : ∀ (v1 : Int32) (v2 : Int32) (v3 : Int32) (σ : rx_St), f_run_fulfil_174 0 k7 v1 v2 v3 σ = some o → rx_AtP none 79 174 [(0, .ref 57), (1, .int v1), (2, .int v2), (3, .int v3)] [] (rx_D P σ) (none, rx_D P o) := by
  intro v1 v2 v3 σ h
  refine rx_walk [7, 174] 2000 (by decide) rx_e79 ?_
  unfold f_run_fulfil_174 at h
  exact rx_sub (hk7 _ _ _ _ h) [1, 2, 3, 0] rfl
set_option maxRecDepth 100000 in
set_option maxHeartbeats 4000000 in
theorem f_run_fulfil_7_ok_r0 {P : List Nat} {o : rx_St} : ∀ (n : Nat) (v1 : Int32) (v2 : Int32) (v3 : Int32) (σ : rx_St), f_run_fulfil_7 0 n v1 v2 v3 σ = some o → rx_AtP none 79 7 [(0, .ref 57), (1, .int v1), (2, .int v2), (3, .int v3)] [] (rx_D P σ) (none, rx_D P o) := by
  intro n
  induction n with
  | zero => intro _ _ _ _ h; cases h
  | succ n ih =>
  intro v1 v2 v3 σ h
  refine rx_walk [7, 174] 2000 (by decide) rx_e79 ?_
  rw [f_run_fulfil_7] at h
  refine rr_g h (fun c17 h => ?_)
  refine rr_if h (fun c19 h => ?_) (fun c19 h => ?_)
  · skip
    cases h
    exact And.intro (rfl) rfl
  · skip
    refine rr_g h (fun c30 h => ?_)
    refine rr_if h (fun c31_0 h => ?_) (fun c31_0 h => ?_)
    · skip
      refine rr_g h (fun c69 h => ?_)
      refine rr_g h (fun c79 h => ?_)
      refine rr_callV h (fun y hy => f_run_addTo_ok_r0 _ hy) (fun y3 hy3 h => ?_)
      exact rx_sub (f_run_fulfil_174_ok_r0 ih _ _ _ _ h) [0, 1, 2, 3] rfl
    · skip
      refine rr_if h (fun c31_1 h => ?_) (fun c31_1 h => ?_)
      · skip
        refine rr_g h (fun c96 h => ?_)
        refine rr_g h (fun c105 h => ?_)
        refine rr_callP h (fun y hy => f_j_floorMod_ok _ hy) (fun y2 hy2 h => ?_)
        refine rr_ck ((by decide)) ?_
        refine rr_g h (fun c115 h => ?_)
        exact rx_sub (f_run_fulfil_174_ok_r0 ih _ _ _ _ h) [0, 1, 2, 3] rfl
      · skip
        refine rr_if h (fun c31_2 h => ?_) (fun c31_2 h => ?_)
        · skip
          refine rr_g h (fun c132 h => ?_)
          refine rr_g h (fun c142 h => ?_)
          refine rr_g h (fun c151 h => ?_)
          refine rr_g h (fun c160 h => ?_)
          refine rr_callV h (fun y hy => f_run_hand_ok_r0 _ hy) (fun y1 hy1 h => ?_)
          exact rx_sub (f_run_fulfil_174_ok_r0 ih _ _ _ _ h) [0, 1, 2, 3] rfl
        · skip
          refine rr_g h (fun c173 h => ?_)
          exact rx_sub (f_run_fulfil_174_ok_r0 ih _ _ _ _ h) [0, 1, 2, 3] rfl
set_option maxRecDepth 100000 in
set_option maxHeartbeats 4000000 in
theorem f_run_fulfil_ok_r0 {P : List Nat} {a0 : Int32} {σ : rx_St} : ∀ o, f_run_fulfil 0 a0 σ = some o → rx_OK 79 [.ref 57, .int a0] 162 [] P σ (none, rx_D P o) := by
  intro o h
  refine rx_OK_of (by decide) (Nat.le_of_ble_eq_true rfl) ?_
  refine rx_walk [7, 174] 2000 (by decide) rx_e79 ?_
  unfold f_run_fulfil at h
  exact rx_sub (f_run_fulfil_7_ok_r0 rx_fu _ _ _ _ h) [2, 3, 1, 0] rfl
set_option maxRecDepth 100000 in
set_option maxHeartbeats 4000000 in
theorem f_run_fulfil_174_ok_r1 {P : List Nat} {o : rx_St} {k7 : Int32 → Int32 → Int32 → rx_St → Option (rx_St)} (hk7 : ∀ (v1 : Int32) (v2 : Int32) (v3 : Int32) (σ : rx_St), k7 v1 v2 v3 σ = some o → rx_AtP none 79 7 [(0, .ref 64), (1, .int v1), (2, .int v2), (3, .int v3)] [] (rx_D P σ) (none, rx_D P o)) : ∀ (v1 : Int32) (v2 : Int32) (v3 : Int32) (σ : rx_St), f_run_fulfil_174 1 k7 v1 v2 v3 σ = some o → rx_AtP none 79 174 [(0, .ref 64), (1, .int v1), (2, .int v2), (3, .int v3)] [] (rx_D P σ) (none, rx_D P o) := by
  intro v1 v2 v3 σ h
  refine rx_walk [7, 174] 2000 (by decide) rx_e79 ?_
  unfold f_run_fulfil_174 at h
  exact rx_sub (hk7 _ _ _ _ h) [1, 2, 3, 0] rfl
set_option maxRecDepth 100000 in
set_option maxHeartbeats 4000000 in
theorem f_run_fulfil_7_ok_r1 {P : List Nat} {o : rx_St} : ∀ (n : Nat) (v1 : Int32) (v2 : Int32) (v3 : Int32) (σ : rx_St), f_run_fulfil_7 1 n v1 v2 v3 σ = some o → rx_AtP none 79 7 [(0, .ref 64), (1, .int v1), (2, .int v2), (3, .int v3)] [] (rx_D P σ) (none, rx_D P o) := by
  intro n
  induction n with
  | zero => intro _ _ _ _ h; cases h
  | succ n ih =>
  intro v1 v2 v3 σ h
  refine rx_walk [7, 174] 2000 (by decide) rx_e79 ?_
  rw [f_run_fulfil_7] at h
  refine rr_g h (fun c17 h => ?_)
  refine rr_if h (fun c19 h => ?_) (fun c19 h => ?_)
  · skip
    cases h
    exact And.intro (rfl) rfl
  · skip
    refine rr_g h (fun c30 h => ?_)
    refine rr_if h (fun c31_0 h => ?_) (fun c31_0 h => ?_)
    · skip
      refine rr_g h (fun c69 h => ?_)
      refine rr_g h (fun c79 h => ?_)
      refine rr_callV h (fun y hy => f_run_addTo_ok_r1 _ hy) (fun y3 hy3 h => ?_)
      exact rx_sub (f_run_fulfil_174_ok_r1 ih _ _ _ _ h) [0, 1, 2, 3] rfl
    · skip
      refine rr_if h (fun c31_1 h => ?_) (fun c31_1 h => ?_)
      · skip
        refine rr_g h (fun c96 h => ?_)
        refine rr_g h (fun c105 h => ?_)
        refine rr_callP h (fun y hy => f_j_floorMod_ok _ hy) (fun y2 hy2 h => ?_)
        refine rr_ck ((by decide)) ?_
        refine rr_g h (fun c115 h => ?_)
        exact rx_sub (f_run_fulfil_174_ok_r1 ih _ _ _ _ h) [0, 1, 2, 3] rfl
      · skip
        refine rr_if h (fun c31_2 h => ?_) (fun c31_2 h => ?_)
        · skip
          refine rr_g h (fun c132 h => ?_)
          refine rr_g h (fun c142 h => ?_)
          refine rr_g h (fun c151 h => ?_)
          refine rr_g h (fun c160 h => ?_)
          refine rr_callV h (fun y hy => f_run_hand_ok_r1 _ hy) (fun y1 hy1 h => ?_)
          exact rx_sub (f_run_fulfil_174_ok_r1 ih _ _ _ _ h) [0, 1, 2, 3] rfl
        · skip
          refine rr_g h (fun c173 h => ?_)
          exact rx_sub (f_run_fulfil_174_ok_r1 ih _ _ _ _ h) [0, 1, 2, 3] rfl
set_option maxRecDepth 100000 in
set_option maxHeartbeats 4000000 in
theorem f_run_fulfil_ok_r1 {P : List Nat} {a0 : Int32} {σ : rx_St} : ∀ o, f_run_fulfil 1 a0 σ = some o → rx_OK 79 [.ref 64, .int a0] 162 [] P σ (none, rx_D P o) := by
  intro o h
  refine rx_OK_of (by decide) (Nat.le_of_ble_eq_true rfl) ?_
  refine rx_walk [7, 174] 2000 (by decide) rx_e79 ?_
  unfold f_run_fulfil at h
  exact rx_sub (f_run_fulfil_7_ok_r1 rx_fu _ _ _ _ h) [2, 3, 1, 0] rfl
set_option maxRecDepth 100000 in
theorem rx_e82 : rx_Ext none 82 := rx_Ext_plain (by decide +kernel)
set_option maxRecDepth 100000 in
set_option maxHeartbeats 4000000 in
theorem f_run_hold_2_ok_r0 {P : List Nat} {o : rx_St} : ∀ (n : Nat) (v1 : Int32) (σ : rx_St), f_run_hold_2 0 n v1 σ = some o → rx_AtP none 82 2 [(0, .ref 57), (1, .int v1)] [] (rx_D P σ) (none, rx_D P o) := by
  intro n
  induction n with
  | zero => intro _ _ h; cases h
  | succ n ih =>
  intro v1 σ h
  refine rx_walk [2] 2000 (by decide) rx_e82 ?_
  rw [f_run_hold_2] at h
  refine rr_if h (fun c13 h => ?_) (fun c13 h => ?_)
  · skip
    cases h
    exact And.intro (rfl) rfl
  · skip
    refine rr_g h (fun c32 h => ?_)
    refine rr_callT (f_j_min_ok _ rfl) ?_
    refine rr_callT (f_j_max_ok _ rfl) ?_
    refine rr_g h (fun c39 h => ?_)
    exact rx_sub (ih _ _ h) [1, 0] rfl
set_option maxRecDepth 100000 in
set_option maxHeartbeats 4000000 in
theorem f_run_hold_ok_r0 {P : List Nat} {σ : rx_St} : ∀ o, f_run_hold 0 σ = some o → rx_OK 82 [.ref 57] 162 [] P σ (none, rx_D P o) := by
  intro o h
  refine rx_OK_of (by decide) (Nat.le_of_ble_eq_true rfl) ?_
  refine rx_walk [2] 2000 (by decide) rx_e82 ?_
  unfold f_run_hold at h
  exact rx_sub (f_run_hold_2_ok_r0 rx_fu _ _ h) [1, 0] rfl
set_option maxRecDepth 100000 in
set_option maxHeartbeats 4000000 in
theorem f_run_hold_2_ok_r1 {P : List Nat} {o : rx_St} : ∀ (n : Nat) (v1 : Int32) (σ : rx_St), f_run_hold_2 1 n v1 σ = some o → rx_AtP none 82 2 [(0, .ref 64), (1, .int v1)] [] (rx_D P σ) (none, rx_D P o) := by
  intro n
  induction n with
  | zero => intro _ _ h; cases h
  | succ n ih =>
  intro v1 σ h
  refine rx_walk [2] 2000 (by decide) rx_e82 ?_
  rw [f_run_hold_2] at h
  refine rr_if h (fun c13 h => ?_) (fun c13 h => ?_)
  · skip
    cases h
    exact And.intro (rfl) rfl
  · skip
    refine rr_g h (fun c32 h => ?_)
    refine rr_callT (f_j_min_ok _ rfl) ?_
    refine rr_callT (f_j_max_ok _ rfl) ?_
    refine rr_g h (fun c39 h => ?_)
    exact rx_sub (ih _ _ h) [1, 0] rfl
set_option maxRecDepth 100000 in
set_option maxHeartbeats 4000000 in
theorem f_run_hold_ok_r1 {P : List Nat} {σ : rx_St} : ∀ o, f_run_hold 1 σ = some o → rx_OK 82 [.ref 64] 162 [] P σ (none, rx_D P o) := by
  intro o h
  refine rx_OK_of (by decide) (Nat.le_of_ble_eq_true rfl) ?_
  refine rx_walk [2] 2000 (by decide) rx_e82 ?_
  unfold f_run_hold at h
  exact rx_sub (f_run_hold_2_ok_r1 rx_fu _ _ h) [1, 0] rfl
set_option maxRecDepth 100000 in
theorem rx_e77 : rx_Ext none 77 := rx_Ext_plain (by decide +kernel)
set_option maxRecDepth 100000 in
set_option maxHeartbeats 4000000 in
theorem f_run_step_108_ok_r0w1 {p0 p1 p2 p3 : Nat} {o : rx_St} {k77 : Int32 → Int32 → rx_St → Option (rx_St)} (hk77 : ∀ (v1 : Int32) (v2 : Int32) (σ : rx_St), k77 v1 v2 σ = some o → rx_AtP none 77 77 [(0, .ref 57), (1, .int v1), (2, .int v2)] [] (rx_D [p0, p1, p2, p3, 21] σ) (none, rx_D [p0, p1, p2, p3, 21] o)) : ∀ (v1 : Int32) (v2 : Int32) (σ : rx_St), f_run_step_108 0 1 k77 v1 v2 σ = some o → rx_AtP none 77 108 [(0, .ref 57), (1, .int v1), (2, .int v2)] [] (rx_D [p0, p1, p2, p3, 21] σ) (none, rx_D [p0, p1, p2, p3, 21] o) := by
  intro v1 v2 σ h
  refine rx_walk [21, 23, 65, 77, 108] 2000 (by decide) rx_e77 ?_
  unfold f_run_step_108 at h
  exact rx_sub (hk77 _ _ _ h) [1, 2, 0] rfl
set_option maxRecDepth 100000 in
set_option maxHeartbeats 4000000 in
theorem f_run_step_77_ok_r0w1 {p0 p1 p2 p3 : Nat} {o : rx_St} : ∀ (n : Nat) (v1 : Int32) (v2 : Int32) (σ : rx_St), f_run_step_77 0 1 n v1 v2 σ = some o → rx_AtP none 77 77 [(0, .ref 57), (1, .int v1), (2, .int v2)] [] (rx_D [p0, p1, p2, p3, 21] σ) (none, rx_D [p0, p1, p2, p3, 21] o) := by
  intro n
  induction n with
  | zero => intro _ _ _ h; cases h
  | succ n ih =>
  intro v1 v2 σ h
  refine rx_walk [21, 23, 65, 77, 108] 2000 (by decide) rx_e77 ?_
  rw [f_run_step_77] at h
  refine rr_if h (fun c85 h => ?_) (fun c85 h => ?_)
  · skip
    refine rr_callV h (fun y hy => f_run_hold_ok_r0 _ hy) (fun y1 hy1 h => ?_)
    cases h
    exact And.intro (rfl) rfl
  · skip
    refine rr_g h (fun c93 h => ?_)
    refine rr_if h (fun c95 h => ?_) (fun c95 h => ?_)
    · skip
      exact rx_sub (f_run_step_108_ok_r0w1 ih _ _ _ h) [0, 1, 2] rfl
    · skip
      refine rr_g h (fun c104 h => ?_)
      refine rr_callV h (fun y hy => f_run_fulfil_ok_r0 _ hy) (fun y2 hy2 h => ?_)
      exact rx_sub (f_run_step_108_ok_r0w1 ih _ _ _ h) [0, 1, 2] rfl
set_option maxRecDepth 100000 in
set_option maxHeartbeats 4000000 in
theorem f_run_step_65_ok_r0w1 {p0 p1 p2 p3 : Nat} {o : rx_St} {k23 : Int32 → Int32 → rx_St → Option (rx_St)} (hk23 : ∀ (v1 : Int32) (v2 : Int32) (σ : rx_St), k23 v1 v2 σ = some o → rx_AtP none 77 23 [(0, .ref 57), (1, .int v1), (2, .int v2)] [] (rx_D [p0, p1, p2, p3, 21] σ) (none, rx_D [p0, p1, p2, p3, 21] o)) : ∀ (v1 : Int32) (v2 : Int32) (σ : rx_St), f_run_step_65 0 1 k23 v1 v2 σ = some o → rx_AtP none 77 65 [(0, .ref 57), (1, .int v1), (2, .int v2)] [] (rx_D [p0, p1, p2, p3, 21] σ) (none, rx_D [p0, p1, p2, p3, 21] o) := by
  intro v1 v2 σ h
  refine rx_walk [21, 23, 65, 77, 108] 2000 (by decide) rx_e77 ?_
  unfold f_run_step_65 at h
  exact rx_sub (hk23 _ _ _ h) [1, 2, 0] rfl
set_option maxRecDepth 100000 in
set_option maxHeartbeats 4000000 in
theorem f_run_step_23_ok_r0w1 {p0 p1 p2 p3 : Nat} {o : rx_St} : ∀ (n : Nat) (v1 : Int32) (v2 : Int32) (σ : rx_St), f_run_step_23 0 1 n v1 v2 σ = some o → rx_AtP none 77 23 [(0, .ref 57), (1, .int v1), (2, .int v2)] [] (rx_D [p0, p1, p2, p3, 21] σ) (none, rx_D [p0, p1, p2, p3, 21] o) := by
  intro n
  induction n with
  | zero => intro _ _ _ h; cases h
  | succ n ih =>
  intro v1 v2 σ h
  refine rx_walk [21, 23, 65, 77, 108] 2000 (by decide) rx_e77 ?_
  rw [f_run_step_23] at h
  refine rr_if h (fun c31 h => ?_) (fun c31 h => ?_)
  · skip
    refine rr_callV h (fun y hy => f_run_putInOrder_ok_r0 _ hy) (fun y1 hy1 h => ?_)
    exact rx_sub (f_run_step_77_ok_r0w1 rx_fu _ _ _ h) [1, 2, 0] rfl
  · skip
    refine rr_g h (fun c39 h => ?_)
    refine rr_if h (fun c40 h => ?_) (fun c40 h => ?_)
    · skip
      refine rr_callV h (fun y hy => f_cho_choose_ok_r0w1 _ hy) (fun y2 hy2 h => ?_)
      exact rx_sub (f_run_step_65_ok_r0w1 ih _ _ _ h) [0, 1, 2] rfl
    · skip
      refine rr_g h (fun c52 h => ?_)
      exact rx_sub (f_run_step_65_ok_r0w1 ih _ _ _ h) [0, 1, 2] rfl
set_option maxRecDepth 100000 in
set_option maxHeartbeats 4000000 in
theorem f_run_step_21_ok_r0w1 {p0 p1 p2 p3 : Nat} {o : rx_St} : ∀ (v1 : Int32) (σ : rx_St), f_run_step_21 0 1 v1 σ = some o → rx_AtP none 77 21 [(0, .ref 57), (1, .int v1)] [] (rx_D [p0, p1, p2, p3, 21] σ) (none, rx_D [p0, p1, p2, p3, 21] o) := by
  intro v1 σ h
  refine rx_walk [21, 23, 65, 77, 108] 2000 (by decide) rx_e77 ?_
  unfold f_run_step_21 at h
  exact rx_sub (f_run_step_23_ok_r0w1 rx_fu _ _ _ h) [1, 2, 0] rfl
set_option maxRecDepth 100000 in
set_option maxHeartbeats 4000000 in
theorem f_run_step_ok_r0w1 {p0 p1 p2 p3 : Nat} {a0 : Int32} {σ : rx_St} : ∀ o, f_run_step 0 1 a0 σ = some o → rx_OK 77 [.ref 57, .int a0] 162 [] [p0, p1, p2, p3, 21] σ (none, rx_D [p0, p1, p2, p3, 21] o) := by
  intro o h
  refine rx_OK_of (by decide) (Nat.le_of_ble_eq_true rfl) ?_
  refine rx_walk [21, 23, 65, 77, 108] 2000 (by decide) rx_e77 ?_
  unfold f_run_step at h
  refine rr_if h (fun c10 h => ?_) (fun c10 h => ?_)
  · skip
    exact rx_sub (f_run_step_21_ok_r0w1 _ _ h) [0, 1] rfl
  · skip
    refine rr_callV h (fun y hy => f_cho_look_ok_r0w1 _ hy) (fun y1 hy1 h => ?_)
    exact rx_sub (f_run_step_21_ok_r0w1 _ _ h) [0, 1] rfl
set_option maxRecDepth 100000 in
set_option maxHeartbeats 4000000 in
theorem f_run_step_108_ok_r0w0 {p0 p1 p2 p3 : Nat} {o : rx_St} {k77 : Int32 → Int32 → rx_St → Option (rx_St)} (hk77 : ∀ (v1 : Int32) (v2 : Int32) (σ : rx_St), k77 v1 v2 σ = some o → rx_AtP none 77 77 [(0, .ref 57), (1, .int v1), (2, .int v2)] [] (rx_D [p0, p1, p2, p3, 7] σ) (none, rx_D [p0, p1, p2, p3, 7] o)) : ∀ (v1 : Int32) (v2 : Int32) (σ : rx_St), f_run_step_108 0 0 k77 v1 v2 σ = some o → rx_AtP none 77 108 [(0, .ref 57), (1, .int v1), (2, .int v2)] [] (rx_D [p0, p1, p2, p3, 7] σ) (none, rx_D [p0, p1, p2, p3, 7] o) := by
  intro v1 v2 σ h
  refine rx_walk [21, 23, 65, 77, 108] 2000 (by decide) rx_e77 ?_
  unfold f_run_step_108 at h
  exact rx_sub (hk77 _ _ _ h) [1, 2, 0] rfl
set_option maxRecDepth 100000 in
set_option maxHeartbeats 4000000 in
theorem f_run_step_77_ok_r0w0 {p0 p1 p2 p3 : Nat} {o : rx_St} : ∀ (n : Nat) (v1 : Int32) (v2 : Int32) (σ : rx_St), f_run_step_77 0 0 n v1 v2 σ = some o → rx_AtP none 77 77 [(0, .ref 57), (1, .int v1), (2, .int v2)] [] (rx_D [p0, p1, p2, p3, 7] σ) (none, rx_D [p0, p1, p2, p3, 7] o) := by
  intro n
  induction n with
  | zero => intro _ _ _ h; cases h
  | succ n ih =>
  intro v1 v2 σ h
  refine rx_walk [21, 23, 65, 77, 108] 2000 (by decide) rx_e77 ?_
  rw [f_run_step_77] at h
  refine rr_if h (fun c85 h => ?_) (fun c85 h => ?_)
  · skip
    refine rr_callV h (fun y hy => f_run_hold_ok_r0 _ hy) (fun y1 hy1 h => ?_)
    cases h
    exact And.intro (rfl) rfl
  · skip
    refine rr_g h (fun c93 h => ?_)
    refine rr_if h (fun c95 h => ?_) (fun c95 h => ?_)
    · skip
      exact rx_sub (f_run_step_108_ok_r0w0 ih _ _ _ h) [0, 1, 2] rfl
    · skip
      refine rr_g h (fun c104 h => ?_)
      refine rr_callV h (fun y hy => f_run_fulfil_ok_r0 _ hy) (fun y2 hy2 h => ?_)
      exact rx_sub (f_run_step_108_ok_r0w0 ih _ _ _ h) [0, 1, 2] rfl
set_option maxRecDepth 100000 in
set_option maxHeartbeats 4000000 in
theorem f_run_step_65_ok_r0w0 {p0 p1 p2 p3 : Nat} {o : rx_St} {k23 : Int32 → Int32 → rx_St → Option (rx_St)} (hk23 : ∀ (v1 : Int32) (v2 : Int32) (σ : rx_St), k23 v1 v2 σ = some o → rx_AtP none 77 23 [(0, .ref 57), (1, .int v1), (2, .int v2)] [] (rx_D [p0, p1, p2, p3, 7] σ) (none, rx_D [p0, p1, p2, p3, 7] o)) : ∀ (v1 : Int32) (v2 : Int32) (σ : rx_St), f_run_step_65 0 0 k23 v1 v2 σ = some o → rx_AtP none 77 65 [(0, .ref 57), (1, .int v1), (2, .int v2)] [] (rx_D [p0, p1, p2, p3, 7] σ) (none, rx_D [p0, p1, p2, p3, 7] o) := by
  intro v1 v2 σ h
  refine rx_walk [21, 23, 65, 77, 108] 2000 (by decide) rx_e77 ?_
  unfold f_run_step_65 at h
  exact rx_sub (hk23 _ _ _ h) [1, 2, 0] rfl
set_option maxRecDepth 100000 in
set_option maxHeartbeats 4000000 in
theorem f_run_step_23_ok_r0w0 {p0 p1 p2 p3 : Nat} {o : rx_St} : ∀ (n : Nat) (v1 : Int32) (v2 : Int32) (σ : rx_St), f_run_step_23 0 0 n v1 v2 σ = some o → rx_AtP none 77 23 [(0, .ref 57), (1, .int v1), (2, .int v2)] [] (rx_D [p0, p1, p2, p3, 7] σ) (none, rx_D [p0, p1, p2, p3, 7] o) := by
  intro n
  induction n with
  | zero => intro _ _ _ h; cases h
  | succ n ih =>
  intro v1 v2 σ h
  refine rx_walk [21, 23, 65, 77, 108] 2000 (by decide) rx_e77 ?_
  rw [f_run_step_23] at h
  refine rr_if h (fun c31 h => ?_) (fun c31 h => ?_)
  · skip
    refine rr_callV h (fun y hy => f_run_putInOrder_ok_r0 _ hy) (fun y1 hy1 h => ?_)
    exact rx_sub (f_run_step_77_ok_r0w0 rx_fu _ _ _ h) [1, 2, 0] rfl
  · skip
    refine rr_g h (fun c39 h => ?_)
    refine rr_if h (fun c40 h => ?_) (fun c40 h => ?_)
    · skip
      refine rr_callV h (fun y hy => f_cho_choose_ok_r0w0 _ hy) (fun y2 hy2 h => ?_)
      exact rx_sub (f_run_step_65_ok_r0w0 ih _ _ _ h) [0, 1, 2] rfl
    · skip
      refine rr_g h (fun c52 h => ?_)
      exact rx_sub (f_run_step_65_ok_r0w0 ih _ _ _ h) [0, 1, 2] rfl
set_option maxRecDepth 100000 in
set_option maxHeartbeats 4000000 in
theorem f_run_step_21_ok_r0w0 {p0 p1 p2 p3 : Nat} {o : rx_St} : ∀ (v1 : Int32) (σ : rx_St), f_run_step_21 0 0 v1 σ = some o → rx_AtP none 77 21 [(0, .ref 57), (1, .int v1)] [] (rx_D [p0, p1, p2, p3, 7] σ) (none, rx_D [p0, p1, p2, p3, 7] o) := by
  intro v1 σ h
  refine rx_walk [21, 23, 65, 77, 108] 2000 (by decide) rx_e77 ?_
  unfold f_run_step_21 at h
  exact rx_sub (f_run_step_23_ok_r0w0 rx_fu _ _ _ h) [1, 2, 0] rfl
set_option maxRecDepth 100000 in
set_option maxHeartbeats 4000000 in
theorem f_run_step_ok_r0w0 {p0 p1 p2 p3 : Nat} {a0 : Int32} {σ : rx_St} : ∀ o, f_run_step 0 0 a0 σ = some o → rx_OK 77 [.ref 57, .int a0] 162 [] [p0, p1, p2, p3, 7] σ (none, rx_D [p0, p1, p2, p3, 7] o) := by
  intro o h
  refine rx_OK_of (by decide) (Nat.le_of_ble_eq_true rfl) ?_
  refine rx_walk [21, 23, 65, 77, 108] 2000 (by decide) rx_e77 ?_
  unfold f_run_step at h
  refine rr_if h (fun c10 h => ?_) (fun c10 h => ?_)
  · skip
    exact rx_sub (f_run_step_21_ok_r0w0 _ _ h) [0, 1] rfl
  · skip
    refine rr_callV h (fun y hy => f_cho_look_ok_r0w0 _ hy) (fun y1 hy1 h => ?_)
    exact rx_sub (f_run_step_21_ok_r0w0 _ _ h) [0, 1] rfl
set_option maxRecDepth 100000 in
set_option maxHeartbeats 4000000 in
theorem f_run_step_108_ok_r1w1 {p0 p1 p2 p3 : Nat} {o : rx_St} {k77 : Int32 → Int32 → rx_St → Option (rx_St)} (hk77 : ∀ (v1 : Int32) (v2 : Int32) (σ : rx_St), k77 v1 v2 σ = some o → rx_AtP none 77 77 [(0, .ref 64), (1, .int v1), (2, .int v2)] [] (rx_D [p0, p1, p2, p3, 21] σ) (none, rx_D [p0, p1, p2, p3, 21] o)) : ∀ (v1 : Int32) (v2 : Int32) (σ : rx_St), f_run_step_108 1 1 k77 v1 v2 σ = some o → rx_AtP none 77 108 [(0, .ref 64), (1, .int v1), (2, .int v2)] [] (rx_D [p0, p1, p2, p3, 21] σ) (none, rx_D [p0, p1, p2, p3, 21] o) := by
  intro v1 v2 σ h
  refine rx_walk [21, 23, 65, 77, 108] 2000 (by decide) rx_e77 ?_
  unfold f_run_step_108 at h
  exact rx_sub (hk77 _ _ _ h) [1, 2, 0] rfl
set_option maxRecDepth 100000 in
set_option maxHeartbeats 4000000 in
theorem f_run_step_77_ok_r1w1 {p0 p1 p2 p3 : Nat} {o : rx_St} : ∀ (n : Nat) (v1 : Int32) (v2 : Int32) (σ : rx_St), f_run_step_77 1 1 n v1 v2 σ = some o → rx_AtP none 77 77 [(0, .ref 64), (1, .int v1), (2, .int v2)] [] (rx_D [p0, p1, p2, p3, 21] σ) (none, rx_D [p0, p1, p2, p3, 21] o) := by
  intro n
  induction n with
  | zero => intro _ _ _ h; cases h
  | succ n ih =>
  intro v1 v2 σ h
  refine rx_walk [21, 23, 65, 77, 108] 2000 (by decide) rx_e77 ?_
  rw [f_run_step_77] at h
  refine rr_if h (fun c85 h => ?_) (fun c85 h => ?_)
  · skip
    refine rr_callV h (fun y hy => f_run_hold_ok_r1 _ hy) (fun y1 hy1 h => ?_)
    cases h
    exact And.intro (rfl) rfl
  · skip
    refine rr_g h (fun c93 h => ?_)
    refine rr_if h (fun c95 h => ?_) (fun c95 h => ?_)
    · skip
      exact rx_sub (f_run_step_108_ok_r1w1 ih _ _ _ h) [0, 1, 2] rfl
    · skip
      refine rr_g h (fun c104 h => ?_)
      refine rr_callV h (fun y hy => f_run_fulfil_ok_r1 _ hy) (fun y2 hy2 h => ?_)
      exact rx_sub (f_run_step_108_ok_r1w1 ih _ _ _ h) [0, 1, 2] rfl
set_option maxRecDepth 100000 in
set_option maxHeartbeats 4000000 in
theorem f_run_step_65_ok_r1w1 {p0 p1 p2 p3 : Nat} {o : rx_St} {k23 : Int32 → Int32 → rx_St → Option (rx_St)} (hk23 : ∀ (v1 : Int32) (v2 : Int32) (σ : rx_St), k23 v1 v2 σ = some o → rx_AtP none 77 23 [(0, .ref 64), (1, .int v1), (2, .int v2)] [] (rx_D [p0, p1, p2, p3, 21] σ) (none, rx_D [p0, p1, p2, p3, 21] o)) : ∀ (v1 : Int32) (v2 : Int32) (σ : rx_St), f_run_step_65 1 1 k23 v1 v2 σ = some o → rx_AtP none 77 65 [(0, .ref 64), (1, .int v1), (2, .int v2)] [] (rx_D [p0, p1, p2, p3, 21] σ) (none, rx_D [p0, p1, p2, p3, 21] o) := by
  intro v1 v2 σ h
  refine rx_walk [21, 23, 65, 77, 108] 2000 (by decide) rx_e77 ?_
  unfold f_run_step_65 at h
  exact rx_sub (hk23 _ _ _ h) [1, 2, 0] rfl
set_option maxRecDepth 100000 in
set_option maxHeartbeats 4000000 in
theorem f_run_step_23_ok_r1w1 {p0 p1 p2 p3 : Nat} {o : rx_St} : ∀ (n : Nat) (v1 : Int32) (v2 : Int32) (σ : rx_St), f_run_step_23 1 1 n v1 v2 σ = some o → rx_AtP none 77 23 [(0, .ref 64), (1, .int v1), (2, .int v2)] [] (rx_D [p0, p1, p2, p3, 21] σ) (none, rx_D [p0, p1, p2, p3, 21] o) := by
  intro n
  induction n with
  | zero => intro _ _ _ h; cases h
  | succ n ih =>
  intro v1 v2 σ h
  refine rx_walk [21, 23, 65, 77, 108] 2000 (by decide) rx_e77 ?_
  rw [f_run_step_23] at h
  refine rr_if h (fun c31 h => ?_) (fun c31 h => ?_)
  · skip
    refine rr_callV h (fun y hy => f_run_putInOrder_ok_r1 _ hy) (fun y1 hy1 h => ?_)
    exact rx_sub (f_run_step_77_ok_r1w1 rx_fu _ _ _ h) [1, 2, 0] rfl
  · skip
    refine rr_g h (fun c39 h => ?_)
    refine rr_if h (fun c40 h => ?_) (fun c40 h => ?_)
    · skip
      refine rr_callV h (fun y hy => f_cho_choose_ok_r1w1 _ hy) (fun y2 hy2 h => ?_)
      exact rx_sub (f_run_step_65_ok_r1w1 ih _ _ _ h) [0, 1, 2] rfl
    · skip
      refine rr_g h (fun c52 h => ?_)
      exact rx_sub (f_run_step_65_ok_r1w1 ih _ _ _ h) [0, 1, 2] rfl
set_option maxRecDepth 100000 in
set_option maxHeartbeats 4000000 in
theorem f_run_step_21_ok_r1w1 {p0 p1 p2 p3 : Nat} {o : rx_St} : ∀ (v1 : Int32) (σ : rx_St), f_run_step_21 1 1 v1 σ = some o → rx_AtP none 77 21 [(0, .ref 64), (1, .int v1)] [] (rx_D [p0, p1, p2, p3, 21] σ) (none, rx_D [p0, p1, p2, p3, 21] o) := by
  intro v1 σ h
  refine rx_walk [21, 23, 65, 77, 108] 2000 (by decide) rx_e77 ?_
  unfold f_run_step_21 at h
  exact rx_sub (f_run_step_23_ok_r1w1 rx_fu _ _ _ h) [1, 2, 0] rfl
set_option maxRecDepth 100000 in
set_option maxHeartbeats 4000000 in
theorem f_run_step_ok_r1w1 {p0 p1 p2 p3 : Nat} {a0 : Int32} {σ : rx_St} : ∀ o, f_run_step 1 1 a0 σ = some o → rx_OK 77 [.ref 64, .int a0] 162 [] [p0, p1, p2, p3, 21] σ (none, rx_D [p0, p1, p2, p3, 21] o) := by
  intro o h
  refine rx_OK_of (by decide) (Nat.le_of_ble_eq_true rfl) ?_
  refine rx_walk [21, 23, 65, 77, 108] 2000 (by decide) rx_e77 ?_
  unfold f_run_step at h
  refine rr_if h (fun c10 h => ?_) (fun c10 h => ?_)
  · skip
    exact rx_sub (f_run_step_21_ok_r1w1 _ _ h) [0, 1] rfl
  · skip
    refine rr_callV h (fun y hy => f_cho_look_ok_r1w1 _ hy) (fun y1 hy1 h => ?_)
    exact rx_sub (f_run_step_21_ok_r1w1 _ _ h) [0, 1] rfl
set_option maxRecDepth 100000 in
set_option maxHeartbeats 4000000 in
theorem f_run_step_108_ok_r1w0 {p0 p1 p2 p3 : Nat} {o : rx_St} {k77 : Int32 → Int32 → rx_St → Option (rx_St)} (hk77 : ∀ (v1 : Int32) (v2 : Int32) (σ : rx_St), k77 v1 v2 σ = some o → rx_AtP none 77 77 [(0, .ref 64), (1, .int v1), (2, .int v2)] [] (rx_D [p0, p1, p2, p3, 7] σ) (none, rx_D [p0, p1, p2, p3, 7] o)) : ∀ (v1 : Int32) (v2 : Int32) (σ : rx_St), f_run_step_108 1 0 k77 v1 v2 σ = some o → rx_AtP none 77 108 [(0, .ref 64), (1, .int v1), (2, .int v2)] [] (rx_D [p0, p1, p2, p3, 7] σ) (none, rx_D [p0, p1, p2, p3, 7] o) := by
  intro v1 v2 σ h
  refine rx_walk [21, 23, 65, 77, 108] 2000 (by decide) rx_e77 ?_
  unfold f_run_step_108 at h
  exact rx_sub (hk77 _ _ _ h) [1, 2, 0] rfl
set_option maxRecDepth 100000 in
set_option maxHeartbeats 4000000 in
theorem f_run_step_77_ok_r1w0 {p0 p1 p2 p3 : Nat} {o : rx_St} : ∀ (n : Nat) (v1 : Int32) (v2 : Int32) (σ : rx_St), f_run_step_77 1 0 n v1 v2 σ = some o → rx_AtP none 77 77 [(0, .ref 64), (1, .int v1), (2, .int v2)] [] (rx_D [p0, p1, p2, p3, 7] σ) (none, rx_D [p0, p1, p2, p3, 7] o) := by
  intro n
  induction n with
  | zero => intro _ _ _ h; cases h
  | succ n ih =>
  intro v1 v2 σ h
  refine rx_walk [21, 23, 65, 77, 108] 2000 (by decide) rx_e77 ?_
  rw [f_run_step_77] at h
  refine rr_if h (fun c85 h => ?_) (fun c85 h => ?_)
  · skip
    refine rr_callV h (fun y hy => f_run_hold_ok_r1 _ hy) (fun y1 hy1 h => ?_)
    cases h
    exact And.intro (rfl) rfl
  · skip
    refine rr_g h (fun c93 h => ?_)
    refine rr_if h (fun c95 h => ?_) (fun c95 h => ?_)
    · skip
      exact rx_sub (f_run_step_108_ok_r1w0 ih _ _ _ h) [0, 1, 2] rfl
    · skip
      refine rr_g h (fun c104 h => ?_)
      refine rr_callV h (fun y hy => f_run_fulfil_ok_r1 _ hy) (fun y2 hy2 h => ?_)
      exact rx_sub (f_run_step_108_ok_r1w0 ih _ _ _ h) [0, 1, 2] rfl
set_option maxRecDepth 100000 in
set_option maxHeartbeats 4000000 in
theorem f_run_step_65_ok_r1w0 {p0 p1 p2 p3 : Nat} {o : rx_St} {k23 : Int32 → Int32 → rx_St → Option (rx_St)} (hk23 : ∀ (v1 : Int32) (v2 : Int32) (σ : rx_St), k23 v1 v2 σ = some o → rx_AtP none 77 23 [(0, .ref 64), (1, .int v1), (2, .int v2)] [] (rx_D [p0, p1, p2, p3, 7] σ) (none, rx_D [p0, p1, p2, p3, 7] o)) : ∀ (v1 : Int32) (v2 : Int32) (σ : rx_St), f_run_step_65 1 0 k23 v1 v2 σ = some o → rx_AtP none 77 65 [(0, .ref 64), (1, .int v1), (2, .int v2)] [] (rx_D [p0, p1, p2, p3, 7] σ) (none, rx_D [p0, p1, p2, p3, 7] o) := by
  intro v1 v2 σ h
  refine rx_walk [21, 23, 65, 77, 108] 2000 (by decide) rx_e77 ?_
  unfold f_run_step_65 at h
  exact rx_sub (hk23 _ _ _ h) [1, 2, 0] rfl
set_option maxRecDepth 100000 in
set_option maxHeartbeats 4000000 in
theorem f_run_step_23_ok_r1w0 {p0 p1 p2 p3 : Nat} {o : rx_St} : ∀ (n : Nat) (v1 : Int32) (v2 : Int32) (σ : rx_St), f_run_step_23 1 0 n v1 v2 σ = some o → rx_AtP none 77 23 [(0, .ref 64), (1, .int v1), (2, .int v2)] [] (rx_D [p0, p1, p2, p3, 7] σ) (none, rx_D [p0, p1, p2, p3, 7] o) := by
  intro n
  induction n with
  | zero => intro _ _ _ h; cases h
  | succ n ih =>
  intro v1 v2 σ h
  refine rx_walk [21, 23, 65, 77, 108] 2000 (by decide) rx_e77 ?_
  rw [f_run_step_23] at h
  refine rr_if h (fun c31 h => ?_) (fun c31 h => ?_)
  · skip
    refine rr_callV h (fun y hy => f_run_putInOrder_ok_r1 _ hy) (fun y1 hy1 h => ?_)
    exact rx_sub (f_run_step_77_ok_r1w0 rx_fu _ _ _ h) [1, 2, 0] rfl
  · skip
    refine rr_g h (fun c39 h => ?_)
    refine rr_if h (fun c40 h => ?_) (fun c40 h => ?_)
    · skip
      refine rr_callV h (fun y hy => f_cho_choose_ok_r1w0 _ hy) (fun y2 hy2 h => ?_)
      exact rx_sub (f_run_step_65_ok_r1w0 ih _ _ _ h) [0, 1, 2] rfl
    · skip
      refine rr_g h (fun c52 h => ?_)
      exact rx_sub (f_run_step_65_ok_r1w0 ih _ _ _ h) [0, 1, 2] rfl
set_option maxRecDepth 100000 in
set_option maxHeartbeats 4000000 in
theorem f_run_step_21_ok_r1w0 {p0 p1 p2 p3 : Nat} {o : rx_St} : ∀ (v1 : Int32) (σ : rx_St), f_run_step_21 1 0 v1 σ = some o → rx_AtP none 77 21 [(0, .ref 64), (1, .int v1)] [] (rx_D [p0, p1, p2, p3, 7] σ) (none, rx_D [p0, p1, p2, p3, 7] o) := by
  intro v1 σ h
  refine rx_walk [21, 23, 65, 77, 108] 2000 (by decide) rx_e77 ?_
  unfold f_run_step_21 at h
  exact rx_sub (f_run_step_23_ok_r1w0 rx_fu _ _ _ h) [1, 2, 0] rfl
set_option maxRecDepth 100000 in
set_option maxHeartbeats 4000000 in
theorem f_run_step_ok_r1w0 {p0 p1 p2 p3 : Nat} {a0 : Int32} {σ : rx_St} : ∀ o, f_run_step 1 0 a0 σ = some o → rx_OK 77 [.ref 64, .int a0] 162 [] [p0, p1, p2, p3, 7] σ (none, rx_D [p0, p1, p2, p3, 7] o) := by
  intro o h
  refine rx_OK_of (by decide) (Nat.le_of_ble_eq_true rfl) ?_
  refine rx_walk [21, 23, 65, 77, 108] 2000 (by decide) rx_e77 ?_
  unfold f_run_step at h
  refine rr_if h (fun c10 h => ?_) (fun c10 h => ?_)
  · skip
    exact rx_sub (f_run_step_21_ok_r1w0 _ _ h) [0, 1] rfl
  · skip
    refine rr_callV h (fun y hy => f_cho_look_ok_r1w0 _ hy) (fun y1 hy1 h => ?_)
    exact rx_sub (f_run_step_21_ok_r1w0 _ _ h) [0, 1] rfl
set_option maxRecDepth 100000 in
theorem rx_e76 : rx_Ext none 76 := rx_Ext_plain (by decide +kernel)
set_option maxRecDepth 100000 in
set_option maxHeartbeats 4000000 in
theorem f_run_goOn_5_ok_r0w1 {p0 p1 p2 p3 : Nat} {o : rx_St} : ∀ (n : Nat) (v1 : Int32) (v2 : Int32) (σ : rx_St), f_run_goOn_5 0 1 n v1 v2 σ = some o → rx_AtP none 76 5 [(0, .ref 57), (1, .int v1), (2, .int v2)] [] (rx_D [p0, p1, p2, p3, 21] σ) (none, rx_D [p0, p1, p2, p3, 21] o) := by
  intro n
  induction n with
  | zero => intro _ _ _ h; cases h
  | succ n ih =>
  intro v1 v2 σ h
  refine rx_walk [5] 2000 (by decide) rx_e76 ?_
  rw [f_run_goOn_5] at h
  refine rr_if h (fun c7 h => ?_) (fun c7 h => ?_)
  · skip
    cases h
    exact And.intro (rfl) rfl
  · skip
    refine rr_callV h (fun y hy => f_run_step_ok_r0w1 _ hy) (fun y1 hy1 h => ?_)
    exact rx_sub (ih _ _ _ h) [1, 2, 0] rfl
set_option maxRecDepth 100000 in
set_option maxHeartbeats 4000000 in
theorem f_run_goOn_ok_r0w1 {p0 p1 p2 p3 : Nat} {a0 : Int32} {σ : rx_St} : ∀ o, f_run_goOn 0 1 a0 σ = some o → rx_OK 76 [.ref 57, .int a0] 162 [] [p0, p1, p2, p3, 21] σ (none, rx_D [p0, p1, p2, p3, 21] o) := by
  intro o h
  refine rx_OK_of (by decide) (Nat.le_of_ble_eq_true rfl) ?_
  refine rx_walk [5] 2000 (by decide) rx_e76 ?_
  unfold f_run_goOn at h
  exact rx_sub (f_run_goOn_5_ok_r0w1 rx_fu _ _ _ h) [1, 2, 0] rfl
set_option maxRecDepth 100000 in
set_option maxHeartbeats 4000000 in
theorem f_run_goOn_5_ok_r0w0 {p0 p1 p2 p3 : Nat} {o : rx_St} : ∀ (n : Nat) (v1 : Int32) (v2 : Int32) (σ : rx_St), f_run_goOn_5 0 0 n v1 v2 σ = some o → rx_AtP none 76 5 [(0, .ref 57), (1, .int v1), (2, .int v2)] [] (rx_D [p0, p1, p2, p3, 7] σ) (none, rx_D [p0, p1, p2, p3, 7] o) := by
  intro n
  induction n with
  | zero => intro _ _ _ h; cases h
  | succ n ih =>
  intro v1 v2 σ h
  refine rx_walk [5] 2000 (by decide) rx_e76 ?_
  rw [f_run_goOn_5] at h
  refine rr_if h (fun c7 h => ?_) (fun c7 h => ?_)
  · skip
    cases h
    exact And.intro (rfl) rfl
  · skip
    refine rr_callV h (fun y hy => f_run_step_ok_r0w0 _ hy) (fun y1 hy1 h => ?_)
    exact rx_sub (ih _ _ _ h) [1, 2, 0] rfl
set_option maxRecDepth 100000 in
set_option maxHeartbeats 4000000 in
theorem f_run_goOn_ok_r0w0 {p0 p1 p2 p3 : Nat} {a0 : Int32} {σ : rx_St} : ∀ o, f_run_goOn 0 0 a0 σ = some o → rx_OK 76 [.ref 57, .int a0] 162 [] [p0, p1, p2, p3, 7] σ (none, rx_D [p0, p1, p2, p3, 7] o) := by
  intro o h
  refine rx_OK_of (by decide) (Nat.le_of_ble_eq_true rfl) ?_
  refine rx_walk [5] 2000 (by decide) rx_e76 ?_
  unfold f_run_goOn at h
  exact rx_sub (f_run_goOn_5_ok_r0w0 rx_fu _ _ _ h) [1, 2, 0] rfl
set_option maxRecDepth 100000 in
theorem rx_e84 : rx_Ext none 84 := rx_Ext_plain (by decide +kernel)
set_option maxRecDepth 100000 in
set_option maxHeartbeats 4000000 in
theorem f_run_total_57_ok_r0 {P : List Nat} {o : Int32} {k5 : Int32 → Int32 → Int32 → Int32 → rx_St → Option (Int32)} (hk5 : ∀ (v1 : Int32) (v2 : Int32) (v3 : Int32) (v4 : Int32) (σ : rx_St), k5 v1 v2 v3 v4 σ = some o → rx_AtP none 84 5 [(0, .ref 57), (1, .int v1), (2, .int v2), (3, .int v3), (4, .int v4)] [] (rx_D P σ) (some (.int o), rx_D P σ)) : ∀ (v1 : Int32) (v2 : Int32) (v3 : Int32) (v4 : Int32) (σ : rx_St), f_run_total_57 0 k5 v1 v2 v3 v4 σ = some o → rx_AtP none 84 57 [(0, .ref 57), (1, .int v1), (2, .int v2), (3, .int v3), (4, .int v4)] [] (rx_D P σ) (some (.int o), rx_D P σ) := by
  intro v1 v2 v3 v4 σ h
  refine rx_walk [5, 57] 2000 (by decide) rx_e84 ?_
  unfold f_run_total_57 at h
  exact rx_sub (hk5 _ _ _ _ _ h) [1, 2, 3, 4, 0] rfl
set_option maxRecDepth 100000 in
set_option maxHeartbeats 4000000 in
theorem f_run_total_5_ok_r0 {P : List Nat} {o : Int32} : ∀ (n : Nat) (v1 : Int32) (v2 : Int32) (v3 : Int32) (v4 : Int32) (σ : rx_St), f_run_total_5 0 n v1 v2 v3 v4 σ = some o → rx_AtP none 84 5 [(0, .ref 57), (1, .int v1), (2, .int v2), (3, .int v3), (4, .int v4)] [] (rx_D P σ) (some (.int o), rx_D P σ) := by
  intro n
  induction n with
  | zero => intro _ _ _ _ _ h; cases h
  | succ n ih =>
  intro v1 v2 v3 v4 σ h
  refine rx_walk [5, 57] 2000 (by decide) rx_e84 ?_
  rw [f_run_total_5] at h
  refine rr_if h (fun c14 h => ?_) (fun c14 h => ?_)
  · skip
    cases h
    exact And.intro (trivial) rfl
  · skip
    refine rr_g h (fun c26 h => ?_)
    refine rr_if h (fun c28 h => ?_) (fun c28 h => ?_)
    · skip
      refine rr_g h (fun c43 h => ?_)
      refine rr_g h (fun c53 h => ?_)
      exact rx_sub (f_run_total_57_ok_r0 ih _ _ _ _ _ h) [1, 2, 3, 0, 4] rfl
    · skip
      exact rx_sub (f_run_total_57_ok_r0 ih _ _ _ _ _ h) [0, 1, 2, 3, 4] rfl
set_option maxRecDepth 100000 in
set_option maxHeartbeats 4000000 in
theorem f_run_total_ok_r0 {P : List Nat} {a0 : Int32} {a1 : Int32} {σ : rx_St} : ∀ o, f_run_total 0 a0 a1 σ = some o → rx_OK 84 [.ref 57, .int a0, .int a1] 162 [] P σ (some (.int o), rx_D P σ) := by
  intro o h
  refine rx_OK_of (by decide) (Nat.le_of_ble_eq_true rfl) ?_
  refine rx_walk [5, 57] 2000 (by decide) rx_e84 ?_
  unfold f_run_total at h
  exact rx_sub (f_run_total_5_ok_r0 rx_fu _ _ _ _ _ h) [2, 3, 4, 1, 0] rfl
set_option maxRecDepth 100000 in
theorem rx_e259 : rx_Ext none 259 := rx_Ext_plain (by decide +kernel)
set_option maxRecDepth 100000 in
set_option maxHeartbeats 4000000 in
theorem f_j_bitCount_ok {P : List Nat} {σ : rx_St} {a0 : Int32} : ∀ o, f_j_bitCount a0 = o → rx_OK 259 [.int a0] 162 [] P σ (some (.int o), rx_D P σ) := by
  intro o h
  refine rx_OK_of (by decide) (Nat.le_of_ble_eq_true rfl) ?_
  refine rx_walk [] 2000 (by decide) rx_e259 ?_
  unfold f_j_bitCount at h
  cases h
  exact And.intro (trivial) rfl
set_option maxRecDepth 100000 in
theorem rx_e3 : rx_Ext none 3 := rx_Ext_plain (by decide +kernel)
set_option maxRecDepth 100000 in
set_option maxHeartbeats 4000000 in
theorem f_cau_factorial_4_ok {P : List Nat} {σ : rx_St} {o : Int64} : ∀ (n : Nat) (v0 : Int32) (v1 : Int64) (v3 : Int32), f_cau_factorial_4 n v0 v1 v3 = some o → rx_AtP none 3 4 [(0, .int v0), (1, .long v1), (3, .int v3)] [] (rx_D P σ) (some (.long o), rx_D P σ) := by
  intro n
  induction n with
  | zero => intro _ _ _ h; cases h
  | succ n ih =>
  intro v0 v1 v3 h
  refine rx_walk [4] 2000 (by decide) rx_e3 ?_
  rw [f_cau_factorial_4] at h
  refine rr_if h (fun c6 h => ?_) (fun c6 h => ?_)
  · skip
    cases h
    exact And.intro (rfl) rfl
  · skip
    exact rx_sub (ih _ _ _ h) [2, 1, 0] rfl
set_option maxRecDepth 100000 in
set_option maxHeartbeats 4000000 in
theorem f_cau_factorial_ok {P : List Nat} {σ : rx_St} {a0 : Int32} : ∀ o, f_cau_factorial a0 = some o → rx_OK 3 [.int a0] 162 [] P σ (some (.long o), rx_D P σ) := by
  intro o h
  refine rx_OK_of (by decide) (Nat.le_of_ble_eq_true rfl) ?_
  refine rx_walk [4] 2000 (by decide) rx_e3 ?_
  unfold f_cau_factorial at h
  exact rx_sub (f_cau_factorial_4_ok rx_fu _ _ _ h) [2, 1, 0] rfl
set_option maxRecDepth 100000 in
theorem rx_e2 : rx_Ext none 2 := rx_Ext_plain (by decide +kernel)
set_option maxRecDepth 100000 in
set_option maxHeartbeats 4000000 in
theorem f_cau_sumOverOrders_186_ok_w1 {p0 p1 p2 p3 : Nat} {o : Int64 × rx_St} {k110 : Int32 → Int64 → Int32 → rx_St → Option (Int64 × rx_St)} (hk110 : ∀ (v1 : Int32) (v6 : Int64) (v8 : Int32) (σ : rx_St), k110 v1 v6 v8 σ = some o → rx_AtP none 2 110 [(0, .ref 72), (1, .int v1), (6, .long v6), (8, .int v8)] [] (rx_D [p0, p1, p2, p3, 21] σ) (some (.long o.1), rx_D [p0, p1, p2, p3, 21] o.2)) : ∀ (v1 : Int32) (v6 : Int64) (v8 : Int32) (σ : rx_St), f_cau_sumOverOrders_186 1 k110 v1 v6 v8 σ = some o → rx_AtP none 2 186 [(0, .ref 72), (1, .int v1), (6, .long v6), (8, .int v8)] [] (rx_D [p0, p1, p2, p3, 21] σ) (some (.long o.1), rx_D [p0, p1, p2, p3, 21] o.2) := by
  intro v1 v6 v8 σ h
  refine rx_walk [3, 25, 66, 110, 186] 2000 (by decide) rx_e2 ?_
  unfold f_cau_sumOverOrders_186 at h
  exact rx_sub (hk110 _ _ _ _ h) [1, 2, 3, 0] rfl
set_option maxRecDepth 100000 in
set_option maxHeartbeats 4000000 in
theorem f_cau_sumOverOrders_110_ok_w1 {p0 p1 p2 p3 : Nat} {o : Int64 × rx_St} : ∀ (n : Nat) (v1 : Int32) (v6 : Int64) (v8 : Int32) (σ : rx_St), f_cau_sumOverOrders_110 1 n v1 v6 v8 σ = some o → rx_AtP none 2 110 [(0, .ref 72), (1, .int v1), (6, .long v6), (8, .int v8)] [] (rx_D [p0, p1, p2, p3, 21] σ) (some (.long o.1), rx_D [p0, p1, p2, p3, 21] o.2) := by
  intro n
  induction n with
  | zero => intro _ _ _ _ h; cases h
  | succ n ih =>
  intro v1 v6 v8 σ h
  refine rx_walk [3, 25, 66, 110, 186] 2000 (by decide) rx_e2 ?_
  rw [f_cau_sumOverOrders_110] at h
  refine rr_if h (fun c118 h => ?_) (fun c118 h => ?_)
  · skip
    cases h
    exact And.intro (rfl) rfl
  · skip
    refine rr_if h (fun c127 h => ?_) (fun c127 h => ?_)
    · skip
      refine rr_callT (f_j_bitCount_ok _ rfl) ?_
      refine rr_callPL h (fun y hy => f_cau_factorial_ok _ hy) (fun y2 hy2 h => ?_)
      refine rr_callPL h (fun y hy => f_cau_factorial_ok _ hy) (fun y3 hy3 h => ?_)
      refine rr_g h (fun c171 h => ?_)
      refine rr_g h (fun c179 h => ?_)
      exact rx_sub (f_cau_sumOverOrders_186_ok_w1 ih _ _ _ _ h) [3, 4, 0, 5] rfl
    · skip
      exact rx_sub (f_cau_sumOverOrders_186_ok_w1 ih _ _ _ _ h) [0, 1, 2, 3] rfl
set_option maxRecDepth 100000 in
set_option maxHeartbeats 4000000 in
theorem f_cau_sumOverOrders_66_ok_w1 {p0 p1 p2 p3 : Nat} {o : Int64 × rx_St} {k3 : Int32 → Int32 → Int32 → Int32 → Int32 → Int32 → rx_St → Option (Int64 × rx_St)} {k25 : Int32 → Int32 → Int32 → Int32 → Int32 → Int32 → Int32 → rx_St → Option (Int64 × rx_St)} (hk3 : ∀ (v1 : Int32) (v2 : Int32) (v3 : Int32) (v4 : Int32) (v5 : Int32) (v6 : Int32) (σ : rx_St), k3 v1 v2 v3 v4 v5 v6 σ = some o → rx_AtP none 2 3 [(0, .ref 72), (1, .int v1), (2, .int v2), (3, .int v3), (4, .int v4), (5, .int v5), (6, .int v6)] [] (rx_D [p0, p1, p2, p3, 21] σ) (some (.long o.1), rx_D [p0, p1, p2, p3, 21] o.2)) (hk25 : ∀ (v1 : Int32) (v2 : Int32) (v3 : Int32) (v4 : Int32) (v5 : Int32) (v6 : Int32) (v7 : Int32) (σ : rx_St), k25 v1 v2 v3 v4 v5 v6 v7 σ = some o → rx_AtP none 2 25 [(0, .ref 72), (1, .int v1), (2, .int v2), (3, .int v3), (4, .int v4), (5, .int v5), (6, .int v6), (7, .int v7)] [] (rx_D [p0, p1, p2, p3, 21] σ) (some (.long o.1), rx_D [p0, p1, p2, p3, 21] o.2)) : ∀ (v1 : Int32) (v2 : Int32) (v3 : Int32) (v4 : Int32) (v5 : Int32) (v6 : Int32) (v7 : Int32) (σ : rx_St), f_cau_sumOverOrders_66 1 k3 k25 v1 v2 v3 v4 v5 v6 v7 σ = some o → rx_AtP none 2 66 [(0, .ref 72), (1, .int v1), (2, .int v2), (3, .int v3), (4, .int v4), (5, .int v5), (6, .int v6), (7, .int v7)] [] (rx_D [p0, p1, p2, p3, 21] σ) (some (.long o.1), rx_D [p0, p1, p2, p3, 21] o.2) := by
  intro v1 v2 v3 v4 v5 v6 v7 σ h
  refine rx_walk [3, 25, 66, 110, 186] 2000 (by decide) rx_e2 ?_
  unfold f_cau_sumOverOrders_66 at h
  exact rx_sub (hk25 _ _ _ _ _ _ _ _ h) [1, 2, 3, 4, 5, 6, 7, 0] rfl
set_option maxRecDepth 100000 in
set_option maxHeartbeats 4000000 in
theorem f_cau_sumOverOrders_25_ok_w1 {p0 p1 p2 p3 : Nat} {o : Int64 × rx_St} {k3 : Int32 → Int32 → Int32 → Int32 → Int32 → Int32 → rx_St → Option (Int64 × rx_St)} (hk3 : ∀ (v1 : Int32) (v2 : Int32) (v3 : Int32) (v4 : Int32) (v5 : Int32) (v6 : Int32) (σ : rx_St), k3 v1 v2 v3 v4 v5 v6 σ = some o → rx_AtP none 2 3 [(0, .ref 72), (1, .int v1), (2, .int v2), (3, .int v3), (4, .int v4), (5, .int v5), (6, .int v6)] [] (rx_D [p0, p1, p2, p3, 21] σ) (some (.long o.1), rx_D [p0, p1, p2, p3, 21] o.2)) : ∀ (n : Nat) (v1 : Int32) (v2 : Int32) (v3 : Int32) (v4 : Int32) (v5 : Int32) (v6 : Int32) (v7 : Int32) (σ : rx_St), f_cau_sumOverOrders_25 1 k3 n v1 v2 v3 v4 v5 v6 v7 σ = some o → rx_AtP none 2 25 [(0, .ref 72), (1, .int v1), (2, .int v2), (3, .int v3), (4, .int v4), (5, .int v5), (6, .int v6), (7, .int v7)] [] (rx_D [p0, p1, p2, p3, 21] σ) (some (.long o.1), rx_D [p0, p1, p2, p3, 21] o.2) := by
  intro n
  induction n with
  | zero => intro _ _ _ _ _ _ _ _ h; cases h
  | succ n ih =>
  intro v1 v2 v3 v4 v5 v6 v7 σ h
  refine rx_walk [3, 25, 66, 110, 186] 2000 (by decide) rx_e2 ?_
  rw [f_cau_sumOverOrders_25] at h
  refine rr_if h (fun c31 h => ?_) (fun c31 h => ?_)
  · skip
    refine rr_callV h (fun y hy => f_run_goOn_ok_r0w1 _ hy) (fun y1 hy1 h => ?_)
    refine rr_callP h (fun y hy => f_run_total_ok_r0 _ hy) (fun y2 hy2 h => ?_)
    refine rr_g h (fun c97 h => ?_)
    exact rx_sub (hk3 _ _ _ _ _ _ _ h) [1, 2, 3, 4, 5, 6, 0] rfl
  · skip
    refine rr_if h (fun c41 h => ?_) (fun c41 h => ?_)
    · skip
      exact rx_sub (f_cau_sumOverOrders_66_ok_w1 hk3 ih _ _ _ _ _ _ _ _ h) [0, 1, 2, 3, 4, 5, 6, 7] rfl
    · skip
      refine rr_g h (fun c57 h => ?_)
      refine rr_g h (fun c64 h => ?_)
      refine rr_g h (fun c65 h => ?_)
      exact rx_sub (f_cau_sumOverOrders_66_ok_w1 hk3 ih _ _ _ _ _ _ _ _ h) [0, 1, 2, 3, 4, 5, 6, 7] rfl
set_option maxRecDepth 100000 in
set_option maxHeartbeats 4000000 in
theorem f_cau_sumOverOrders_3_ok_w1 {p0 p1 p2 p3 : Nat} {o : Int64 × rx_St} : ∀ (n : Nat) (v1 : Int32) (v2 : Int32) (v3 : Int32) (v4 : Int32) (v5 : Int32) (v6 : Int32) (σ : rx_St), f_cau_sumOverOrders_3 1 n v1 v2 v3 v4 v5 v6 σ = some o → rx_AtP none 2 3 [(0, .ref 72), (1, .int v1), (2, .int v2), (3, .int v3), (4, .int v4), (5, .int v5), (6, .int v6)] [] (rx_D [p0, p1, p2, p3, 21] σ) (some (.long o.1), rx_D [p0, p1, p2, p3, 21] o.2) := by
  intro n
  induction n with
  | zero => intro _ _ _ _ _ _ _ h; cases h
  | succ n ih =>
  intro v1 v2 v3 v4 v5 v6 σ h
  refine rx_walk [3, 25, 66, 110, 186] 2000 (by decide) rx_e2 ?_
  rw [f_cau_sumOverOrders_3] at h
  refine rr_if h (fun c11 h => ?_) (fun c11 h => ?_)
  · skip
    exact rx_sub (f_cau_sumOverOrders_110_ok_w1 rx_fu _ _ _ _ h) [2, 3, 1, 0] rfl
  · skip
    refine rr_callV h (fun y hy => f_run_restart_ok_r0w1 _ hy) (fun y1 hy1 h => ?_)
    exact rx_sub (f_cau_sumOverOrders_25_ok_w1 ih rx_fu _ _ _ _ _ _ _ _ h) [1, 2, 3, 4, 5, 6, 7, 0] rfl
set_option maxRecDepth 100000 in
set_option maxHeartbeats 4000000 in
theorem f_cau_sumOverOrders_ok_w1 {p0 p1 p2 p3 : Nat} {a0 : Int32} {a1 : Int32} {a2 : Int32} {a3 : Int32} {a4 : Int32} {σ : rx_St} : ∀ o, f_cau_sumOverOrders 1 a0 a1 a2 a3 a4 σ = some o → rx_OK 2 [.ref 72, .int a0, .int a1, .int a2, .int a3, .int a4] 162 [] [p0, p1, p2, p3, 21] σ (some (.long o.1), rx_D [p0, p1, p2, p3, 21] o.2) := by
  intro o h
  refine rx_OK_of (by decide) (Nat.le_of_ble_eq_true rfl) ?_
  refine rx_walk [3, 25, 66, 110, 186] 2000 (by decide) rx_e2 ?_
  unfold f_cau_sumOverOrders at h
  exact rx_sub (f_cau_sumOverOrders_3_ok_w1 rx_fu _ _ _ _ _ _ _ h) [1, 2, 3, 4, 5, 6, 0] rfl
set_option maxRecDepth 100000 in
set_option maxHeartbeats 4000000 in
theorem f_cau_sumOverOrders_186_ok_w0 {p0 p1 p2 p3 : Nat} {o : Int64 × rx_St} {k110 : Int32 → Int64 → Int32 → rx_St → Option (Int64 × rx_St)} (hk110 : ∀ (v1 : Int32) (v6 : Int64) (v8 : Int32) (σ : rx_St), k110 v1 v6 v8 σ = some o → rx_AtP none 2 110 [(0, .ref 72), (1, .int v1), (6, .long v6), (8, .int v8)] [] (rx_D [p0, p1, p2, p3, 7] σ) (some (.long o.1), rx_D [p0, p1, p2, p3, 7] o.2)) : ∀ (v1 : Int32) (v6 : Int64) (v8 : Int32) (σ : rx_St), f_cau_sumOverOrders_186 0 k110 v1 v6 v8 σ = some o → rx_AtP none 2 186 [(0, .ref 72), (1, .int v1), (6, .long v6), (8, .int v8)] [] (rx_D [p0, p1, p2, p3, 7] σ) (some (.long o.1), rx_D [p0, p1, p2, p3, 7] o.2) := by
  intro v1 v6 v8 σ h
  refine rx_walk [3, 25, 66, 110, 186] 2000 (by decide) rx_e2 ?_
  unfold f_cau_sumOverOrders_186 at h
  exact rx_sub (hk110 _ _ _ _ h) [1, 2, 3, 0] rfl
set_option maxRecDepth 100000 in
set_option maxHeartbeats 4000000 in
theorem f_cau_sumOverOrders_110_ok_w0 {p0 p1 p2 p3 : Nat} {o : Int64 × rx_St} : ∀ (n : Nat) (v1 : Int32) (v6 : Int64) (v8 : Int32) (σ : rx_St), f_cau_sumOverOrders_110 0 n v1 v6 v8 σ = some o → rx_AtP none 2 110 [(0, .ref 72), (1, .int v1), (6, .long v6), (8, .int v8)] [] (rx_D [p0, p1, p2, p3, 7] σ) (some (.long o.1), rx_D [p0, p1, p2, p3, 7] o.2) := by
  intro n
  induction n with
  | zero => intro _ _ _ _ h; cases h
  | succ n ih =>
  intro v1 v6 v8 σ h
  refine rx_walk [3, 25, 66, 110, 186] 2000 (by decide) rx_e2 ?_
  rw [f_cau_sumOverOrders_110] at h
  refine rr_if h (fun c118 h => ?_) (fun c118 h => ?_)
  · skip
    cases h
    exact And.intro (rfl) rfl
  · skip
    refine rr_if h (fun c127 h => ?_) (fun c127 h => ?_)
    · skip
      refine rr_callT (f_j_bitCount_ok _ rfl) ?_
      refine rr_callPL h (fun y hy => f_cau_factorial_ok _ hy) (fun y2 hy2 h => ?_)
      refine rr_callPL h (fun y hy => f_cau_factorial_ok _ hy) (fun y3 hy3 h => ?_)
      refine rr_g h (fun c171 h => ?_)
      refine rr_g h (fun c179 h => ?_)
      exact rx_sub (f_cau_sumOverOrders_186_ok_w0 ih _ _ _ _ h) [3, 4, 0, 5] rfl
    · skip
      exact rx_sub (f_cau_sumOverOrders_186_ok_w0 ih _ _ _ _ h) [0, 1, 2, 3] rfl
set_option maxRecDepth 100000 in
set_option maxHeartbeats 4000000 in
theorem f_cau_sumOverOrders_66_ok_w0 {p0 p1 p2 p3 : Nat} {o : Int64 × rx_St} {k3 : Int32 → Int32 → Int32 → Int32 → Int32 → Int32 → rx_St → Option (Int64 × rx_St)} {k25 : Int32 → Int32 → Int32 → Int32 → Int32 → Int32 → Int32 → rx_St → Option (Int64 × rx_St)} (hk3 : ∀ (v1 : Int32) (v2 : Int32) (v3 : Int32) (v4 : Int32) (v5 : Int32) (v6 : Int32) (σ : rx_St), k3 v1 v2 v3 v4 v5 v6 σ = some o → rx_AtP none 2 3 [(0, .ref 72), (1, .int v1), (2, .int v2), (3, .int v3), (4, .int v4), (5, .int v5), (6, .int v6)] [] (rx_D [p0, p1, p2, p3, 7] σ) (some (.long o.1), rx_D [p0, p1, p2, p3, 7] o.2)) (hk25 : ∀ (v1 : Int32) (v2 : Int32) (v3 : Int32) (v4 : Int32) (v5 : Int32) (v6 : Int32) (v7 : Int32) (σ : rx_St), k25 v1 v2 v3 v4 v5 v6 v7 σ = some o → rx_AtP none 2 25 [(0, .ref 72), (1, .int v1), (2, .int v2), (3, .int v3), (4, .int v4), (5, .int v5), (6, .int v6), (7, .int v7)] [] (rx_D [p0, p1, p2, p3, 7] σ) (some (.long o.1), rx_D [p0, p1, p2, p3, 7] o.2)) : ∀ (v1 : Int32) (v2 : Int32) (v3 : Int32) (v4 : Int32) (v5 : Int32) (v6 : Int32) (v7 : Int32) (σ : rx_St), f_cau_sumOverOrders_66 0 k3 k25 v1 v2 v3 v4 v5 v6 v7 σ = some o → rx_AtP none 2 66 [(0, .ref 72), (1, .int v1), (2, .int v2), (3, .int v3), (4, .int v4), (5, .int v5), (6, .int v6), (7, .int v7)] [] (rx_D [p0, p1, p2, p3, 7] σ) (some (.long o.1), rx_D [p0, p1, p2, p3, 7] o.2) := by
  intro v1 v2 v3 v4 v5 v6 v7 σ h
  refine rx_walk [3, 25, 66, 110, 186] 2000 (by decide) rx_e2 ?_
  unfold f_cau_sumOverOrders_66 at h
  exact rx_sub (hk25 _ _ _ _ _ _ _ _ h) [1, 2, 3, 4, 5, 6, 7, 0] rfl
set_option maxRecDepth 100000 in
set_option maxHeartbeats 4000000 in
theorem f_cau_sumOverOrders_25_ok_w0 {p0 p1 p2 p3 : Nat} {o : Int64 × rx_St} {k3 : Int32 → Int32 → Int32 → Int32 → Int32 → Int32 → rx_St → Option (Int64 × rx_St)} (hk3 : ∀ (v1 : Int32) (v2 : Int32) (v3 : Int32) (v4 : Int32) (v5 : Int32) (v6 : Int32) (σ : rx_St), k3 v1 v2 v3 v4 v5 v6 σ = some o → rx_AtP none 2 3 [(0, .ref 72), (1, .int v1), (2, .int v2), (3, .int v3), (4, .int v4), (5, .int v5), (6, .int v6)] [] (rx_D [p0, p1, p2, p3, 7] σ) (some (.long o.1), rx_D [p0, p1, p2, p3, 7] o.2)) : ∀ (n : Nat) (v1 : Int32) (v2 : Int32) (v3 : Int32) (v4 : Int32) (v5 : Int32) (v6 : Int32) (v7 : Int32) (σ : rx_St), f_cau_sumOverOrders_25 0 k3 n v1 v2 v3 v4 v5 v6 v7 σ = some o → rx_AtP none 2 25 [(0, .ref 72), (1, .int v1), (2, .int v2), (3, .int v3), (4, .int v4), (5, .int v5), (6, .int v6), (7, .int v7)] [] (rx_D [p0, p1, p2, p3, 7] σ) (some (.long o.1), rx_D [p0, p1, p2, p3, 7] o.2) := by
  intro n
  induction n with
  | zero => intro _ _ _ _ _ _ _ _ h; cases h
  | succ n ih =>
  intro v1 v2 v3 v4 v5 v6 v7 σ h
  refine rx_walk [3, 25, 66, 110, 186] 2000 (by decide) rx_e2 ?_
  rw [f_cau_sumOverOrders_25] at h
  refine rr_if h (fun c31 h => ?_) (fun c31 h => ?_)
  · skip
    refine rr_callV h (fun y hy => f_run_goOn_ok_r0w0 _ hy) (fun y1 hy1 h => ?_)
    refine rr_callP h (fun y hy => f_run_total_ok_r0 _ hy) (fun y2 hy2 h => ?_)
    refine rr_g h (fun c97 h => ?_)
    exact rx_sub (hk3 _ _ _ _ _ _ _ h) [1, 2, 3, 4, 5, 6, 0] rfl
  · skip
    refine rr_if h (fun c41 h => ?_) (fun c41 h => ?_)
    · skip
      exact rx_sub (f_cau_sumOverOrders_66_ok_w0 hk3 ih _ _ _ _ _ _ _ _ h) [0, 1, 2, 3, 4, 5, 6, 7] rfl
    · skip
      refine rr_g h (fun c57 h => ?_)
      refine rr_g h (fun c64 h => ?_)
      refine rr_g h (fun c65 h => ?_)
      exact rx_sub (f_cau_sumOverOrders_66_ok_w0 hk3 ih _ _ _ _ _ _ _ _ h) [0, 1, 2, 3, 4, 5, 6, 7] rfl
set_option maxRecDepth 100000 in
set_option maxHeartbeats 4000000 in
theorem f_cau_sumOverOrders_3_ok_w0 {p0 p1 p2 p3 : Nat} {o : Int64 × rx_St} : ∀ (n : Nat) (v1 : Int32) (v2 : Int32) (v3 : Int32) (v4 : Int32) (v5 : Int32) (v6 : Int32) (σ : rx_St), f_cau_sumOverOrders_3 0 n v1 v2 v3 v4 v5 v6 σ = some o → rx_AtP none 2 3 [(0, .ref 72), (1, .int v1), (2, .int v2), (3, .int v3), (4, .int v4), (5, .int v5), (6, .int v6)] [] (rx_D [p0, p1, p2, p3, 7] σ) (some (.long o.1), rx_D [p0, p1, p2, p3, 7] o.2) := by
  intro n
  induction n with
  | zero => intro _ _ _ _ _ _ _ h; cases h
  | succ n ih =>
  intro v1 v2 v3 v4 v5 v6 σ h
  refine rx_walk [3, 25, 66, 110, 186] 2000 (by decide) rx_e2 ?_
  rw [f_cau_sumOverOrders_3] at h
  refine rr_if h (fun c11 h => ?_) (fun c11 h => ?_)
  · skip
    exact rx_sub (f_cau_sumOverOrders_110_ok_w0 rx_fu _ _ _ _ h) [2, 3, 1, 0] rfl
  · skip
    refine rr_callV h (fun y hy => f_run_restart_ok_r0w0 _ hy) (fun y1 hy1 h => ?_)
    exact rx_sub (f_cau_sumOverOrders_25_ok_w0 ih rx_fu _ _ _ _ _ _ _ _ h) [1, 2, 3, 4, 5, 6, 7, 0] rfl
set_option maxRecDepth 100000 in
set_option maxHeartbeats 4000000 in
theorem f_cau_sumOverOrders_ok_w0 {p0 p1 p2 p3 : Nat} {a0 : Int32} {a1 : Int32} {a2 : Int32} {a3 : Int32} {a4 : Int32} {σ : rx_St} : ∀ o, f_cau_sumOverOrders 0 a0 a1 a2 a3 a4 σ = some o → rx_OK 2 [.ref 72, .int a0, .int a1, .int a2, .int a3, .int a4] 162 [] [p0, p1, p2, p3, 7] σ (some (.long o.1), rx_D [p0, p1, p2, p3, 7] o.2) := by
  intro o h
  refine rx_OK_of (by decide) (Nat.le_of_ble_eq_true rfl) ?_
  refine rx_walk [3, 25, 66, 110, 186] 2000 (by decide) rx_e2 ?_
  unfold f_cau_sumOverOrders at h
  exact rx_sub (f_cau_sumOverOrders_3_ok_w0 rx_fu _ _ _ _ _ _ _ h) [1, 2, 3, 4, 5, 6, 0] rfl
set_option maxRecDepth 100000 in
theorem rx_e89 : rx_Ext none 89 := rx_Ext_plain (by decide +kernel)
set_option maxRecDepth 100000 in
set_option maxHeartbeats 4000000 in
theorem f_tap_valueOf_ok {P : List Nat} {a0 : Int32} {σ : rx_St} : ∀ o, f_tap_valueOf a0 σ = some o → rx_OK 89 [.ref 1, .int a0] 162 [] P σ (some (.long o), rx_D P σ) := by
  intro o h
  refine rx_OK_of (by decide) (Nat.le_of_ble_eq_true rfl) ?_
  refine rx_walk [] 2000 (by decide) rx_e89 ?_
  unfold f_tap_valueOf at h
  refine rr_if h (fun c1 h => ?_) (fun c1 h => ?_)
  · skip
    cases h
    exact And.intro (rfl) rfl
  · skip
    refine rr_if h (fun c10 h => ?_) (fun c10 h => ?_)
    · skip
      cases h
      exact And.intro (rfl) rfl
    · skip
      refine rr_g h (fun c18 h => ?_)
      cases h
      exact And.intro (rfl) rfl
set_option maxRecDepth 100000 in
theorem rx_e11 : rx_Ext none 11 := rx_Ext_plain (by decide +kernel)
set_option maxRecDepth 100000 in
set_option maxHeartbeats 4000000 in
theorem f_chk_settingNamed_2_ok_w0 {p0 p1 p2 p4 : Nat} {o : Int32} : ∀ (n : Nat) (v1 : Int64) (v3 : Int32) (σ : rx_St), f_chk_settingNamed_2 0 n v1 v3 σ = some o → rx_AtP none 11 2 [(0, .ref 37), (1, .long v1), (3, .int v3)] [] (rx_D [p0, p1, p2, 7, p4] σ) (some (.int o), rx_D [p0, p1, p2, 7, p4] σ) := by
  intro n
  induction n with
  | zero => intro _ _ _ h; cases h
  | succ n ih =>
  intro v1 v3 σ h
  refine rx_walk [2] 2000 (by decide) rx_e11 ?_
  rw [f_chk_settingNamed_2] at h
  refine rr_if h (fun c10 h => ?_) (fun c10 h => ?_)
  · skip
    cases h
    exact And.intro (trivial) rfl
  · skip
    refine rr_g h (fun c25 h => ?_)
    refine rr_callPL h (fun y hy => f_tap_valueOf_ok _ hy) (fun y1 hy1 h => ?_)
    refine rr_if h (fun c31 h => ?_) (fun c31 h => ?_)
    · skip
      cases h
      exact And.intro (trivial) rfl
    · skip
      exact rx_sub (ih _ _ _ h) [1, 2, 0] rfl
set_option maxRecDepth 100000 in
set_option maxHeartbeats 4000000 in
theorem f_chk_settingNamed_ok_w0 {p0 p1 p2 p4 : Nat} {a0 : Int64} {σ : rx_St} : ∀ o, f_chk_settingNamed 0 a0 σ = some o → rx_OK 11 [.ref 37, .long a0] 162 [] [p0, p1, p2, 7, p4] σ (some (.int o), rx_D [p0, p1, p2, 7, p4] σ) := by
  intro o h
  refine rx_OK_of (by decide) (Nat.le_of_ble_eq_true rfl) ?_
  refine rx_walk [2] 2000 (by decide) rx_e11 ?_
  unfold f_chk_settingNamed at h
  exact rx_sub (f_chk_settingNamed_2_ok_w0 rx_fu _ _ _ h) [1, 2, 0] rfl
set_option maxRecDepth 100000 in
set_option maxHeartbeats 4000000 in
theorem f_chk_settingNamed_2_ok_w1 {p0 p1 p2 p4 : Nat} {o : Int32} : ∀ (n : Nat) (v1 : Int64) (v3 : Int32) (σ : rx_St), f_chk_settingNamed_2 1 n v1 v3 σ = some o → rx_AtP none 11 2 [(0, .ref 37), (1, .long v1), (3, .int v3)] [] (rx_D [p0, p1, p2, 21, p4] σ) (some (.int o), rx_D [p0, p1, p2, 21, p4] σ) := by
  intro n
  induction n with
  | zero => intro _ _ _ h; cases h
  | succ n ih =>
  intro v1 v3 σ h
  refine rx_walk [2] 2000 (by decide) rx_e11 ?_
  rw [f_chk_settingNamed_2] at h
  refine rr_if h (fun c10 h => ?_) (fun c10 h => ?_)
  · skip
    cases h
    exact And.intro (trivial) rfl
  · skip
    refine rr_g h (fun c25 h => ?_)
    refine rr_callPL h (fun y hy => f_tap_valueOf_ok _ hy) (fun y1 hy1 h => ?_)
    refine rr_if h (fun c31 h => ?_) (fun c31 h => ?_)
    · skip
      cases h
      exact And.intro (trivial) rfl
    · skip
      exact rx_sub (ih _ _ _ h) [1, 2, 0] rfl
set_option maxRecDepth 100000 in
set_option maxHeartbeats 4000000 in
theorem f_chk_settingNamed_ok_w1 {p0 p1 p2 p4 : Nat} {a0 : Int64} {σ : rx_St} : ∀ o, f_chk_settingNamed 1 a0 σ = some o → rx_OK 11 [.ref 37, .long a0] 162 [] [p0, p1, p2, 21, p4] σ (some (.int o), rx_D [p0, p1, p2, 21, p4] σ) := by
  intro o h
  refine rx_OK_of (by decide) (Nat.le_of_ble_eq_true rfl) ?_
  refine rx_walk [2] 2000 (by decide) rx_e11 ?_
  unfold f_chk_settingNamed at h
  exact rx_sub (f_chk_settingNamed_2_ok_w1 rx_fu _ _ _ h) [1, 2, 0] rfl
set_option maxRecDepth 100000 in
theorem rx_e88 : rx_Ext none 88 := rx_Ext_plain (by decide +kernel)
set_option maxRecDepth 100000 in
set_option maxHeartbeats 4000000 in
theorem f_tap_placeOf_ok {P : List Nat} {a0 : Int32} {σ : rx_St} : ∀ o, f_tap_placeOf a0 σ = some o → rx_OK 88 [.ref 1, .int a0] 162 [] P σ (some (.int o), rx_D P σ) := by
  intro o h
  refine rx_OK_of (by decide) (Nat.le_of_ble_eq_true rfl) ?_
  refine rx_walk [] 2000 (by decide) rx_e88 ?_
  unfold f_tap_placeOf at h
  refine rr_if h (fun c1 h => ?_) (fun c1 h => ?_)
  · skip
    cases h
    exact And.intro (trivial) rfl
  · skip
    refine rr_if h (fun c10 h => ?_) (fun c10 h => ?_)
    · skip
      cases h
      exact And.intro (trivial) rfl
    · skip
      refine rr_g h (fun c18 h => ?_)
      cases h
      exact And.intro (trivial) rfl
set_option maxRecDepth 100000 in
theorem rx_e7 : rx_Ext none 7 := rx_Ext_plain (by decide +kernel)
set_option maxRecDepth 100000 in
set_option maxHeartbeats 4000000 in
theorem f_chk_find_40_ok {P : List Nat} {o : rx_St} : ∀ (v1 : Int32) (v3 : Int32) (σ : rx_St), f_chk_find_40 v1 v3 σ = some o → rx_AtP none 7 40 [(0, .ref 37), (1, .int v1), (3, .int v3)] [] (rx_D P σ) (none, rx_D P o) := by
  intro v1 v3 σ h
  refine rx_walk [40] 2000 (by decide) rx_e7 ?_
  unfold f_chk_find_40 at h
  cases h
  exact And.intro (rfl) rfl
set_option maxRecDepth 100000 in
set_option maxHeartbeats 4000000 in
theorem f_chk_find_ok {P : List Nat} {a0 : Int32} {a1 : Int32} {σ : rx_St} : ∀ o, f_chk_find a0 a1 σ = some o → rx_OK 7 [.ref 37, .int a0, .int a1] 162 [] P σ (none, rx_D P o) := by
  intro o h
  refine rx_OK_of (by decide) (Nat.le_of_ble_eq_true rfl) ?_
  refine rx_walk [40] 2000 (by decide) rx_e7 ?_
  unfold f_chk_find at h
  refine rr_callP h (fun y hy => f_tap_placeOf_ok _ hy) (fun y1 hy1 h => ?_)
  refine rr_if h (fun c13 h => ?_) (fun c13 h => ?_)
  · skip
    exact rx_sub (f_chk_find_40_ok _ _ _ h) [1, 2, 0] rfl
  · skip
    refine rr_if h (fun c21 h => ?_) (fun c21 h => ?_)
    · skip
      exact rx_sub (f_chk_find_40_ok _ _ _ h) [1, 2, 0] rfl
    · skip
      refine rr_if h (fun c29 h => ?_) (fun c29 h => ?_)
      · skip
        refine rr_if h (fun c37 h => ?_) (fun c37 h => ?_)
        · skip
          cases h
          exact And.intro (rfl) rfl
        · skip
          exact rx_sub (f_chk_find_40_ok _ _ _ h) [1, 2, 0] rfl
      · skip
        cases h
        exact And.intro (rfl) rfl
set_option maxRecDepth 100000 in
theorem rx_e8 : rx_Ext none 8 := rx_Ext_plain (by decide +kernel)
set_option maxRecDepth 100000 in
set_option maxHeartbeats 4000000 in
theorem f_chk_checkSettings_51_ok_w0 {p0 p1 p2 p4 : Nat} {o : rx_St} {k2 : Int32 → rx_St → Option (rx_St)} (hk2 : ∀ (v1 : Int32) (σ : rx_St), k2 v1 σ = some o → rx_AtP none 8 2 [(0, .ref 37), (1, .int v1)] [] (rx_D [p0, p1, p2, 7, p4] σ) (none, rx_D [p0, p1, p2, 7, p4] o)) : ∀ (v1 : Int32) (σ : rx_St), f_chk_checkSettings_51 0 k2 v1 σ = some o → rx_AtP none 8 51 [(0, .ref 37), (1, .int v1)] [] (rx_D [p0, p1, p2, 7, p4] σ) (none, rx_D [p0, p1, p2, 7, p4] o) := by
  intro v1 σ h
  refine rx_walk [2, 51] 2000 (by decide) rx_e8 ?_
  unfold f_chk_checkSettings_51 at h
  exact rx_sub (hk2 _ _ h) [1, 0] rfl
set_option maxRecDepth 100000 in
set_option maxHeartbeats 4000000 in
theorem f_chk_checkSettings_2_ok_w0 {p0 p1 p2 p4 : Nat} {o : rx_St} : ∀ (n : Nat) (v1 : Int32) (σ : rx_St), f_chk_checkSettings_2 0 n v1 σ = some o → rx_AtP none 8 2 [(0, .ref 37), (1, .int v1)] [] (rx_D [p0, p1, p2, 7, p4] σ) (none, rx_D [p0, p1, p2, 7, p4] o) := by
  intro n
  induction n with
  | zero => intro _ _ h; cases h
  | succ n ih =>
  intro v1 σ h
  refine rx_walk [2, 51] 2000 (by decide) rx_e8 ?_
  rw [f_chk_checkSettings_2] at h
  refine rr_if h (fun c10 h => ?_) (fun c10 h => ?_)
  · skip
    cases h
    exact And.intro (rfl) rfl
  · skip
    refine rr_g h (fun c26 h => ?_)
    refine rr_callPL h (fun y hy => f_tap_valueOf_ok _ hy) (fun y1 hy1 h => ?_)
    refine rr_callP h (fun y hy => f_chk_settingNamed_ok_w0 _ hy) (fun y2 hy2 h => ?_)
    refine rr_if h (fun c34 h => ?_) (fun c34 h => ?_)
    · skip
      exact rx_sub (f_chk_checkSettings_51_ok_w0 ih _ _ h) [0, 1] rfl
    · skip
      refine rr_g h (fun c47 h => ?_)
      refine rr_callV h (fun y hy => f_chk_find_ok _ hy) (fun y3 hy3 h => ?_)
      exact rx_sub (f_chk_checkSettings_51_ok_w0 ih _ _ h) [0, 1] rfl
set_option maxRecDepth 100000 in
set_option maxHeartbeats 4000000 in
theorem f_chk_checkSettings_ok_w0 {p0 p1 p2 p4 : Nat} {σ : rx_St} : ∀ o, f_chk_checkSettings 0 σ = some o → rx_OK 8 [.ref 37] 162 [] [p0, p1, p2, 7, p4] σ (none, rx_D [p0, p1, p2, 7, p4] o) := by
  intro o h
  refine rx_OK_of (by decide) (Nat.le_of_ble_eq_true rfl) ?_
  refine rx_walk [2, 51] 2000 (by decide) rx_e8 ?_
  unfold f_chk_checkSettings at h
  exact rx_sub (f_chk_checkSettings_2_ok_w0 rx_fu _ _ h) [1, 0] rfl
set_option maxRecDepth 100000 in
set_option maxHeartbeats 4000000 in
theorem f_chk_checkSettings_51_ok_w1 {p0 p1 p2 p4 : Nat} {o : rx_St} {k2 : Int32 → rx_St → Option (rx_St)} (hk2 : ∀ (v1 : Int32) (σ : rx_St), k2 v1 σ = some o → rx_AtP none 8 2 [(0, .ref 37), (1, .int v1)] [] (rx_D [p0, p1, p2, 21, p4] σ) (none, rx_D [p0, p1, p2, 21, p4] o)) : ∀ (v1 : Int32) (σ : rx_St), f_chk_checkSettings_51 1 k2 v1 σ = some o → rx_AtP none 8 51 [(0, .ref 37), (1, .int v1)] [] (rx_D [p0, p1, p2, 21, p4] σ) (none, rx_D [p0, p1, p2, 21, p4] o) := by
  intro v1 σ h
  refine rx_walk [2, 51] 2000 (by decide) rx_e8 ?_
  unfold f_chk_checkSettings_51 at h
  exact rx_sub (hk2 _ _ h) [1, 0] rfl
set_option maxRecDepth 100000 in
set_option maxHeartbeats 4000000 in
theorem f_chk_checkSettings_2_ok_w1 {p0 p1 p2 p4 : Nat} {o : rx_St} : ∀ (n : Nat) (v1 : Int32) (σ : rx_St), f_chk_checkSettings_2 1 n v1 σ = some o → rx_AtP none 8 2 [(0, .ref 37), (1, .int v1)] [] (rx_D [p0, p1, p2, 21, p4] σ) (none, rx_D [p0, p1, p2, 21, p4] o) := by
  intro n
  induction n with
  | zero => intro _ _ h; cases h
  | succ n ih =>
  intro v1 σ h
  refine rx_walk [2, 51] 2000 (by decide) rx_e8 ?_
  rw [f_chk_checkSettings_2] at h
  refine rr_if h (fun c10 h => ?_) (fun c10 h => ?_)
  · skip
    cases h
    exact And.intro (rfl) rfl
  · skip
    refine rr_g h (fun c26 h => ?_)
    refine rr_callPL h (fun y hy => f_tap_valueOf_ok _ hy) (fun y1 hy1 h => ?_)
    refine rr_callP h (fun y hy => f_chk_settingNamed_ok_w1 _ hy) (fun y2 hy2 h => ?_)
    refine rr_if h (fun c34 h => ?_) (fun c34 h => ?_)
    · skip
      exact rx_sub (f_chk_checkSettings_51_ok_w1 ih _ _ h) [0, 1] rfl
    · skip
      refine rr_g h (fun c47 h => ?_)
      refine rr_callV h (fun y hy => f_chk_find_ok _ hy) (fun y3 hy3 h => ?_)
      exact rx_sub (f_chk_checkSettings_51_ok_w1 ih _ _ h) [0, 1] rfl
set_option maxRecDepth 100000 in
set_option maxHeartbeats 4000000 in
theorem f_chk_checkSettings_ok_w1 {p0 p1 p2 p4 : Nat} {σ : rx_St} : ∀ o, f_chk_checkSettings 1 σ = some o → rx_OK 8 [.ref 37] 162 [] [p0, p1, p2, 21, p4] σ (none, rx_D [p0, p1, p2, 21, p4] o) := by
  intro o h
  refine rx_OK_of (by decide) (Nat.le_of_ble_eq_true rfl) ?_
  refine rx_walk [2, 51] 2000 (by decide) rx_e8 ?_
  unfold f_chk_checkSettings at h
  exact rx_sub (f_chk_checkSettings_2_ok_w1 rx_fu _ _ h) [1, 0] rfl
set_option maxRecDepth 100000 in
theorem rx_e12 : rx_Ext none 12 := rx_Ext_plain (by decide +kernel)
set_option maxRecDepth 100000 in
set_option maxHeartbeats 4000000 in
theorem f_chk_kindNamed_2_ok_w0 {p0 p1 p2 p4 : Nat} {o : Int32} : ∀ (n : Nat) (v1 : Int64) (v3 : Int32) (σ : rx_St), f_chk_kindNamed_2 0 n v1 v3 σ = some o → rx_AtP none 12 2 [(0, .ref 37), (1, .long v1), (3, .int v3)] [] (rx_D [p0, p1, p2, 7, p4] σ) (some (.int o), rx_D [p0, p1, p2, 7, p4] σ) := by
  intro n
  induction n with
  | zero => intro _ _ _ h; cases h
  | succ n ih =>
  intro v1 v3 σ h
  refine rx_walk [2] 2000 (by decide) rx_e12 ?_
  rw [f_chk_kindNamed_2] at h
  refine rr_if h (fun c10 h => ?_) (fun c10 h => ?_)
  · skip
    cases h
    exact And.intro (trivial) rfl
  · skip
    refine rr_g h (fun c25 h => ?_)
    refine rr_callPL h (fun y hy => f_tap_valueOf_ok _ hy) (fun y1 hy1 h => ?_)
    refine rr_if h (fun c31 h => ?_) (fun c31 h => ?_)
    · skip
      cases h
      exact And.intro (trivial) rfl
    · skip
      exact rx_sub (ih _ _ _ h) [1, 2, 0] rfl
set_option maxRecDepth 100000 in
set_option maxHeartbeats 4000000 in
theorem f_chk_kindNamed_ok_w0 {p0 p1 p2 p4 : Nat} {a0 : Int64} {σ : rx_St} : ∀ o, f_chk_kindNamed 0 a0 σ = some o → rx_OK 12 [.ref 37, .long a0] 162 [] [p0, p1, p2, 7, p4] σ (some (.int o), rx_D [p0, p1, p2, 7, p4] σ) := by
  intro o h
  refine rx_OK_of (by decide) (Nat.le_of_ble_eq_true rfl) ?_
  refine rx_walk [2] 2000 (by decide) rx_e12 ?_
  unfold f_chk_kindNamed at h
  exact rx_sub (f_chk_kindNamed_2_ok_w0 rx_fu _ _ _ h) [1, 2, 0] rfl
set_option maxRecDepth 100000 in
set_option maxHeartbeats 4000000 in
theorem f_chk_kindNamed_2_ok_w1 {p0 p1 p2 p4 : Nat} {o : Int32} : ∀ (n : Nat) (v1 : Int64) (v3 : Int32) (σ : rx_St), f_chk_kindNamed_2 1 n v1 v3 σ = some o → rx_AtP none 12 2 [(0, .ref 37), (1, .long v1), (3, .int v3)] [] (rx_D [p0, p1, p2, 21, p4] σ) (some (.int o), rx_D [p0, p1, p2, 21, p4] σ) := by
  intro n
  induction n with
  | zero => intro _ _ _ h; cases h
  | succ n ih =>
  intro v1 v3 σ h
  refine rx_walk [2] 2000 (by decide) rx_e12 ?_
  rw [f_chk_kindNamed_2] at h
  refine rr_if h (fun c10 h => ?_) (fun c10 h => ?_)
  · skip
    cases h
    exact And.intro (trivial) rfl
  · skip
    refine rr_g h (fun c25 h => ?_)
    refine rr_callPL h (fun y hy => f_tap_valueOf_ok _ hy) (fun y1 hy1 h => ?_)
    refine rr_if h (fun c31 h => ?_) (fun c31 h => ?_)
    · skip
      cases h
      exact And.intro (trivial) rfl
    · skip
      exact rx_sub (ih _ _ _ h) [1, 2, 0] rfl
set_option maxRecDepth 100000 in
set_option maxHeartbeats 4000000 in
theorem f_chk_kindNamed_ok_w1 {p0 p1 p2 p4 : Nat} {a0 : Int64} {σ : rx_St} : ∀ o, f_chk_kindNamed 1 a0 σ = some o → rx_OK 12 [.ref 37, .long a0] 162 [] [p0, p1, p2, 21, p4] σ (some (.int o), rx_D [p0, p1, p2, 21, p4] σ) := by
  intro o h
  refine rx_OK_of (by decide) (Nat.le_of_ble_eq_true rfl) ?_
  refine rx_walk [2] 2000 (by decide) rx_e12 ?_
  unfold f_chk_kindNamed at h
  exact rx_sub (f_chk_kindNamed_2_ok_w1 rx_fu _ _ _ h) [1, 2, 0] rfl
set_option maxRecDepth 100000 in
theorem rx_e9 : rx_Ext none 9 := rx_Ext_plain (by decide +kernel)
set_option maxRecDepth 100000 in
set_option maxHeartbeats 4000000 in
theorem f_chk_checkKinds_61_ok_w0 {p0 p1 p2 p4 : Nat} {o : rx_St} {k2 : Int32 → rx_St → Option (rx_St)} (hk2 : ∀ (v1 : Int32) (σ : rx_St), k2 v1 σ = some o → rx_AtP none 9 2 [(0, .ref 37), (1, .int v1)] [] (rx_D [p0, p1, p2, 7, p4] σ) (none, rx_D [p0, p1, p2, 7, p4] o)) : ∀ (v1 : Int32) (σ : rx_St), f_chk_checkKinds_61 0 k2 v1 σ = some o → rx_AtP none 9 61 [(0, .ref 37), (1, .int v1)] [] (rx_D [p0, p1, p2, 7, p4] σ) (none, rx_D [p0, p1, p2, 7, p4] o) := by
  intro v1 σ h
  refine rx_walk [2, 47, 61] 2000 (by decide) rx_e9 ?_
  unfold f_chk_checkKinds_61 at h
  exact rx_sub (hk2 _ _ h) [1, 0] rfl
set_option maxRecDepth 100000 in
set_option maxHeartbeats 4000000 in
theorem f_chk_checkKinds_47_ok_w0 {p0 p1 p2 p4 : Nat} {o : rx_St} {k2 : Int32 → rx_St → Option (rx_St)} (hk2 : ∀ (v1 : Int32) (σ : rx_St), k2 v1 σ = some o → rx_AtP none 9 2 [(0, .ref 37), (1, .int v1)] [] (rx_D [p0, p1, p2, 7, p4] σ) (none, rx_D [p0, p1, p2, 7, p4] o)) : ∀ (v1 : Int32) (σ : rx_St), f_chk_checkKinds_47 0 k2 v1 σ = some o → rx_AtP none 9 47 [(0, .ref 37), (1, .int v1)] [] (rx_D [p0, p1, p2, 7, p4] σ) (none, rx_D [p0, p1, p2, 7, p4] o) := by
  intro v1 σ h
  refine rx_walk [2, 47, 61] 2000 (by decide) rx_e9 ?_
  unfold f_chk_checkKinds_47 at h
  refine rr_g h (fun c57 h => ?_)
  refine rr_callV h (fun y hy => f_chk_find_ok _ hy) (fun y1 hy1 h => ?_)
  exact rx_sub (f_chk_checkKinds_61_ok_w0 hk2 _ _ h) [0, 1] rfl
set_option maxRecDepth 100000 in
set_option maxHeartbeats 4000000 in
theorem f_chk_checkKinds_2_ok_w0 {p0 p1 p2 p4 : Nat} {o : rx_St} : ∀ (n : Nat) (v1 : Int32) (σ : rx_St), f_chk_checkKinds_2 0 n v1 σ = some o → rx_AtP none 9 2 [(0, .ref 37), (1, .int v1)] [] (rx_D [p0, p1, p2, 7, p4] σ) (none, rx_D [p0, p1, p2, 7, p4] o) := by
  intro n
  induction n with
  | zero => intro _ _ h; cases h
  | succ n ih =>
  intro v1 σ h
  refine rx_walk [2, 47, 61] 2000 (by decide) rx_e9 ?_
  rw [f_chk_checkKinds_2] at h
  refine rr_if h (fun c10 h => ?_) (fun c10 h => ?_)
  · skip
    cases h
    exact And.intro (rfl) rfl
  · skip
    refine rr_g h (fun c25 h => ?_)
    refine rr_callPL h (fun y hy => f_tap_valueOf_ok _ hy) (fun y1 hy1 h => ?_)
    refine rr_callP h (fun y hy => f_chk_settingNamed_ok_w0 _ hy) (fun y2 hy2 h => ?_)
    refine rr_if h (fun c35 h => ?_) (fun c35 h => ?_)
    · skip
      exact rx_sub (f_chk_checkKinds_47_ok_w0 ih _ _ h) [1, 2] rfl
    · skip
      refine rr_callP h (fun y hy => f_chk_kindNamed_ok_w0 _ hy) (fun y3 hy3 h => ?_)
      refine rr_if h (fun c44 h => ?_) (fun c44 h => ?_)
      · skip
        exact rx_sub (f_chk_checkKinds_61_ok_w0 ih _ _ h) [1, 2] rfl
      · skip
        exact rx_sub (f_chk_checkKinds_47_ok_w0 ih _ _ h) [1, 2] rfl
set_option maxRecDepth 100000 in
set_option maxHeartbeats 4000000 in
theorem f_chk_checkKinds_ok_w0 {p0 p1 p2 p4 : Nat} {σ : rx_St} : ∀ o, f_chk_checkKinds 0 σ = some o → rx_OK 9 [.ref 37] 162 [] [p0, p1, p2, 7, p4] σ (none, rx_D [p0, p1, p2, 7, p4] o) := by
  intro o h
  refine rx_OK_of (by decide) (Nat.le_of_ble_eq_true rfl) ?_
  refine rx_walk [2, 47, 61] 2000 (by decide) rx_e9 ?_
  unfold f_chk_checkKinds at h
  exact rx_sub (f_chk_checkKinds_2_ok_w0 rx_fu _ _ h) [1, 0] rfl
set_option maxRecDepth 100000 in
set_option maxHeartbeats 4000000 in
theorem f_chk_checkKinds_61_ok_w1 {p0 p1 p2 p4 : Nat} {o : rx_St} {k2 : Int32 → rx_St → Option (rx_St)} (hk2 : ∀ (v1 : Int32) (σ : rx_St), k2 v1 σ = some o → rx_AtP none 9 2 [(0, .ref 37), (1, .int v1)] [] (rx_D [p0, p1, p2, 21, p4] σ) (none, rx_D [p0, p1, p2, 21, p4] o)) : ∀ (v1 : Int32) (σ : rx_St), f_chk_checkKinds_61 1 k2 v1 σ = some o → rx_AtP none 9 61 [(0, .ref 37), (1, .int v1)] [] (rx_D [p0, p1, p2, 21, p4] σ) (none, rx_D [p0, p1, p2, 21, p4] o) := by
  intro v1 σ h
  refine rx_walk [2, 47, 61] 2000 (by decide) rx_e9 ?_
  unfold f_chk_checkKinds_61 at h
  exact rx_sub (hk2 _ _ h) [1, 0] rfl
set_option maxRecDepth 100000 in
set_option maxHeartbeats 4000000 in
theorem f_chk_checkKinds_47_ok_w1 {p0 p1 p2 p4 : Nat} {o : rx_St} {k2 : Int32 → rx_St → Option (rx_St)} (hk2 : ∀ (v1 : Int32) (σ : rx_St), k2 v1 σ = some o → rx_AtP none 9 2 [(0, .ref 37), (1, .int v1)] [] (rx_D [p0, p1, p2, 21, p4] σ) (none, rx_D [p0, p1, p2, 21, p4] o)) : ∀ (v1 : Int32) (σ : rx_St), f_chk_checkKinds_47 1 k2 v1 σ = some o → rx_AtP none 9 47 [(0, .ref 37), (1, .int v1)] [] (rx_D [p0, p1, p2, 21, p4] σ) (none, rx_D [p0, p1, p2, 21, p4] o) := by
  intro v1 σ h
  refine rx_walk [2, 47, 61] 2000 (by decide) rx_e9 ?_
  unfold f_chk_checkKinds_47 at h
  refine rr_g h (fun c57 h => ?_)
  refine rr_callV h (fun y hy => f_chk_find_ok _ hy) (fun y1 hy1 h => ?_)
  exact rx_sub (f_chk_checkKinds_61_ok_w1 hk2 _ _ h) [0, 1] rfl
set_option maxRecDepth 100000 in
set_option maxHeartbeats 4000000 in
theorem f_chk_checkKinds_2_ok_w1 {p0 p1 p2 p4 : Nat} {o : rx_St} : ∀ (n : Nat) (v1 : Int32) (σ : rx_St), f_chk_checkKinds_2 1 n v1 σ = some o → rx_AtP none 9 2 [(0, .ref 37), (1, .int v1)] [] (rx_D [p0, p1, p2, 21, p4] σ) (none, rx_D [p0, p1, p2, 21, p4] o) := by
  intro n
  induction n with
  | zero => intro _ _ h; cases h
  | succ n ih =>
  intro v1 σ h
  refine rx_walk [2, 47, 61] 2000 (by decide) rx_e9 ?_
  rw [f_chk_checkKinds_2] at h
  refine rr_if h (fun c10 h => ?_) (fun c10 h => ?_)
  · skip
    cases h
    exact And.intro (rfl) rfl
  · skip
    refine rr_g h (fun c25 h => ?_)
    refine rr_callPL h (fun y hy => f_tap_valueOf_ok _ hy) (fun y1 hy1 h => ?_)
    refine rr_callP h (fun y hy => f_chk_settingNamed_ok_w1 _ hy) (fun y2 hy2 h => ?_)
    refine rr_if h (fun c35 h => ?_) (fun c35 h => ?_)
    · skip
      exact rx_sub (f_chk_checkKinds_47_ok_w1 ih _ _ h) [1, 2] rfl
    · skip
      refine rr_callP h (fun y hy => f_chk_kindNamed_ok_w1 _ hy) (fun y3 hy3 h => ?_)
      refine rr_if h (fun c44 h => ?_) (fun c44 h => ?_)
      · skip
        exact rx_sub (f_chk_checkKinds_61_ok_w1 ih _ _ h) [1, 2] rfl
      · skip
        exact rx_sub (f_chk_checkKinds_47_ok_w1 ih _ _ h) [1, 2] rfl
set_option maxRecDepth 100000 in
set_option maxHeartbeats 4000000 in
theorem f_chk_checkKinds_ok_w1 {p0 p1 p2 p4 : Nat} {σ : rx_St} : ∀ o, f_chk_checkKinds 1 σ = some o → rx_OK 9 [.ref 37] 162 [] [p0, p1, p2, 21, p4] σ (none, rx_D [p0, p1, p2, 21, p4] o) := by
  intro o h
  refine rx_OK_of (by decide) (Nat.le_of_ble_eq_true rfl) ?_
  refine rx_walk [2, 47, 61] 2000 (by decide) rx_e9 ?_
  unfold f_chk_checkKinds at h
  exact rx_sub (f_chk_checkKinds_2_ok_w1 rx_fu _ _ h) [1, 0] rfl
