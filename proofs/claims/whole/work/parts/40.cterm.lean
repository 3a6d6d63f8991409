/-! THE CLASS: what is read while a ONE chooses; LOTS; the leaves of an E -/
theorem tc_lot {seed o t w : Int32} {n : Nat} (h1 : 1 ≤ n) (h2 : n < 2147483648) : f_c_dealLot seed o t w (nI n) = some (tw_lot seed o t w (nI n)) := by
  obtain ⟨m, hm⟩ : ∃ m, rx_fu = m + 4 := ⟨99996, rfl⟩
  unfold f_c_dealLot
  rw [hm, f_c_dealLot_6]
  simp (disch := omega) only [tw_L, tw_gN, tw_cl, tw_le, tw_lt, tw_eq, nI_add, pk_mul, tw_sub, tw_B0, tw_B1, tw_nb0, tw_nb1, tw_r1s, tw_r1n, if_true, if_false, Nat.le_refl, Nat.reduceEqDiff, Nat.reduceLeDiff, Nat.reduceLT, reduceIte, f_c_dealLot_32]
  rw [f_c_dealLot_6]
  simp (disch := omega) only [tw_L, tw_gN, tw_cl, tw_le, tw_lt, tw_eq, nI_add, pk_mul, tw_sub, tw_B0, tw_B1, tw_nb0, tw_nb1, tw_r1s, tw_r1n, if_true, if_false, Nat.le_refl, Nat.reduceEqDiff, Nat.reduceLeDiff, Nat.reduceLT, reduceIte, f_c_dealLot_32]
  rw [f_c_dealLot_6]
  simp (disch := omega) only [tw_L, tw_gN, tw_cl, tw_le, tw_lt, tw_eq, nI_add, pk_mul, tw_sub, tw_B0, tw_B1, tw_nb0, tw_nb1, tw_r1s, tw_r1n, if_true, if_false, Nat.le_refl, Nat.reduceEqDiff, Nat.reduceLeDiff, Nat.reduceLT, reduceIte, f_c_dealLot_32]
  rw [f_c_dealLot_6]
  simp (disch := omega) only [tw_L, tw_gN, tw_cl, tw_le, tw_lt, tw_eq, nI_add, pk_mul, tw_sub, tw_B0, tw_B1, tw_nb0, tw_nb1, tw_r1s, tw_r1n, if_true, if_false, Nat.le_refl, Nat.reduceEqDiff, Nat.reduceLeDiff, Nat.reduceLT, reduceIte]
  rw [if_pos (by omega), tw_cE (by omega)]
  rfl
/-- the class's places of what a TICK is chosen by, for the RUN r -/
def tc_env (r : Nat) (W : tw_Wo) (N : tw_N) (E : tw_E) (R : tw_R) (σ : rx_St) : Prop :=
  (σ.1 38 2 = nI N.1 ∧ N.1 ≤ 20) ∧ (∀ q, q < N.1 → (σ.1 40 q = nI (N.2.1 q) ∧ N.2.1 q < W.2.length) ∧ σ.1 42 q = nI (N.2.2 q) ∧ (σ.1 (60 + 7 * r) q = nI (R.2.1 q) ∧ R.2.1 q < 10) ∧ σ.1 (61 + 7 * r) q = tw_B (R.2.2 q) ∧ ∀ v, v < 6 → σ.1 (59 + 7 * r) (6 * q + v) = R.1 (6 * q + v)) ∧
  (∀ i, i < W.1.length → σ.1 (58 + 7 * r) i = E.1 i) ∧ σ.1 (57 + 7 * r) 9 = E.2.1 ∧ σ.1 (57 + 7 * r) 10 = nI E.2.2 ∧ tw_wok W ∧ r ≤ 1
/-- places written while a ONE chooses -/
def tc_S1 (q j : Nat) : Prop := q = 55 ∨ q = 51 ∧ 6 ≤ j ∧ j ≤ 8
def tc_S2 (q j : Nat) : Prop := q = 55 ∨ q = 56 ∨ q = 51 ∧ 6 ≤ j ∧ j ≤ 9 ∨ 45 ≤ q ∧ q ≤ 50
theorem tc_env.fr {r : Nat} {W : tw_Wo} {N : tw_N} {E : tw_E} {R : tw_R} {σ σ' : rx_St} (e : tc_env r W N E R σ) (h : ∀ q j, (57 ≤ q ∨ 38 ≤ q ∧ q ≤ 42) → σ'.1 q j = σ.1 q j) : tc_env r W N E R σ' := by
  obtain ⟨⟨h1, h2⟩, h3, h4, h5, h6, h7, h8⟩ := e
  refine ⟨⟨?_, h2⟩, fun q hq => ?_, fun i hi => ?_, ?_, ?_, h7, h8⟩
  · rw [h _ _ (by omega)]; exact h1
  · obtain ⟨⟨g1, g2⟩, g3, ⟨g4, g5⟩, g6, g7⟩ := h3 q hq
    refine ⟨⟨?_, g2⟩, ?_, ⟨?_, g5⟩, ?_, fun v hv => ?_⟩
    · rw [h _ _ (by omega)]; exact g1
    · rw [h _ _ (by omega)]; exact g3
    · rw [h _ _ (by omega)]; exact g4
    · rw [h _ _ (by omega)]; exact g6
    · rw [h _ _ (by omega)]; exact g7 v hv
  · rw [h _ _ (by omega)]; exact h4 i hi
  · rw [h _ _ (by omega)]; exact h5
  · rw [h _ _ (by omega)]; exact h6
theorem tc_env.f2 {r : Nat} {W : tw_Wo} {N : tw_N} {E : tw_E} {R : tw_R} {σ σ' : rx_St} (e : tc_env r W N E R σ) (h : tw_fr tc_S2 σ σ') : tc_env r W N E R σ' := e.fr (fun q j a => h.i (by unfold tc_S2; omega))
theorem tc_S12 : ∀ q j, tc_S1 q j → tc_S2 q j := fun q j h => by unfold tc_S1 at h; unfold tc_S2; omega
/-- what here, all, sum are told by -/
def tc_tab (W : tw_Wo) (N : tw_N) (R : tw_R) (σ : rx_St) : Prop :=
  (∀ p, p < 10 → σ.1 52 p = tw_sum (fun q => !R.2.2 q && R.2.1 q == p) (fun q => nI (N.2.2 q)) N.1) ∧ (∀ k, k < W.2.length → σ.1 53 k = tw_all N R k) ∧
  ∀ k v p, k < W.2.length → v < tw_vc W k → p < 10 → σ.1 54 ((6 * k + v) * 10 + p) = tw_sum (fun q => !R.2.2 q && (N.2.1 q == k && R.2.1 q == p)) (fun q => R.1 (6 * q + v) * nI (N.2.2 q)) N.1
theorem tc_tab.fr {W : tw_Wo} {N : tw_N} {R : tw_R} {σ σ' : rx_St} (h : tc_tab W N R σ) (f : ∀ q j, 52 ≤ q → q ≤ 54 → σ'.1 q j = σ.1 q j) : tc_tab W N R σ' :=
  ⟨fun p hp => by rw [f _ _ (by omega) (by omega)]; exact h.1 p hp, fun k hk => by rw [f _ _ (by omega) (by omega)]; exact h.2.1 k hk, fun k v p a b c => by rw [f _ _ (by omega) (by omega)]; exact h.2.2 k v p a b c⟩
/-- the class's number of an operation -/
def tc_op : Nat → Nat
  | 0 => 24
  | 1 => 39
  | 2 => 40
  | 3 => 17
  | 4 => 18
  | 5 => 19
  | 6 => 20
  | 7 => 21
  | 8 => 22
  | 9 => 27
  | 10 => 28
  | 11 => 29
  | _ => 30
def tc_needs (k : Nat) : Prop := k = 4 ∨ k = 7 ∨ k = 8
def tc_code (w : Nat) (cnt : Bool) (σ : rx_St) : Nat → List tw_Op → Prop
  | _, [] => True
  | p, x :: c => (σ.1 (18 + 14 * w) p = nI (tc_op x.1) ∧ (x.1 = 0 ∨ x.1 = 1 ∨ x.1 = 2 ∨ 6 ≤ x.1 ∧ x.1 ≤ 8 → σ.1 (19 + 14 * w) p = nI x.2.1) ∧ (x.1 = 7 → σ.1 (20 + 14 * w) p = nI x.2.2) ∧ (tc_needs x.1 → cnt = true)) ∧ tc_code w cnt σ (p + 1) c
theorem tc_code.fr {w : Nat} {cnt : Bool} {σ σ' : rx_St} (h : ∀ q j, 18 + 14 * w ≤ q → q ≤ 20 + 14 * w → σ'.1 q j = σ.1 q j) : ∀ (c : List tw_Op) (p : Nat), tc_code w cnt σ p c → tc_code w cnt σ' p c
  | [], _, _ => trivial
  | x :: c, p, ⟨⟨h1, h2, h3, h4⟩, h5⟩ => ⟨⟨by rw [h _ _ (by omega) (by omega)]; exact h1, fun z => by rw [h _ _ (by omega) (by omega)]; exact h2 z, fun z => by rw [h _ _ (by omega) (by omega)]; exact h3 z, h4⟩, tc_code.fr h c (p + 1) h5⟩
def tc_st (σ : rx_St) : List Int32 → Prop
  | [] => True
  | x :: s => σ.1 55 s.length = x ∧ tc_st σ s
theorem tc_st.fr {σ σ' : rx_St} : ∀ (s : List Int32), (∀ j, j < s.length → σ'.1 55 j = σ.1 55 j) → tc_st σ s → tc_st σ' s
  | [], _, _ => trivial
  | x :: s, h, ⟨h1, h2⟩ => ⟨by rw [h _ (by rw [List.length_cons]; omega)]; exact h1, tc_st.fr s (fun j hj => h j (by rw [List.length_cons]; omega)) h2⟩
/-- the chooser's own state: values, a division by 0, LOTS so far -/
def tc_inv (σ : rx_St) (s : List Int32) (br : Bool) (lots : Nat) : Prop := (σ.1 51 6 = nI s.length ∧ s.length ≤ 16) ∧ tc_st σ s ∧ σ.1 51 7 = tw_B br ∧ σ.1 51 8 = nI lots
section TC
variable {r : Nat} {W : tw_Wo} {N : tw_N} {E : tw_E} {R : tw_R}
theorem tc_pop {σ : rx_St} {x : Int32} {s : List Int32} {br : Bool} {lots : Nat} (h : tc_inv σ (x :: s) br lots) : ∃ σ', f_cho_pop σ = some (x, σ') ∧ tw_fr tc_S1 σ σ' ∧ tc_inv σ' s br lots := by
  obtain ⟨⟨h1, h2⟩, ⟨h3, h4⟩, h5, h6⟩ := h
  rw [List.length_cons] at h1 h2
  unfold f_cho_pop
  simp (disch := omega) only [tw_L, tw_gN, tw_cl, tw_le, tw_lt, tw_eq, nI_add, pk_mul, tw_sub, tw_B0, tw_B1, tw_nb0, tw_nb1, tw_r1s, tw_r1n, if_true, if_false, Nat.le_refl, Nat.reduceEqDiff, Nat.reduceLeDiff, Nat.reduceLT, reduceIte, h1]
  rw [if_neg (by omega), if_pos (by omega)]
  simp (disch := omega) only [tw_L, tw_gN, tw_cl, tw_le, tw_lt, tw_eq, nI_add, pk_mul, tw_sub, tw_B0, tw_B1, tw_nb0, tw_nb1, tw_r1s, tw_r1n, if_true, if_false, Nat.le_refl, Nat.reduceEqDiff, Nat.reduceLeDiff, Nat.reduceLT, reduceIte, Nat.add_sub_cancel]
  refine ⟨_, by rw [h3], tw_fr.rf.si (by unfold tc_S1; omega), ⟨tw_r1s _ _ _ _, by omega⟩, tc_st.fr s (fun j hj => tw_r1n _ _ (by omega)) h4, by rw [tw_r1n _ _ (by omega)]; exact h5, by rw [tw_r1n _ _ (by omega)]; exact h6⟩
theorem tc_push {σ : rx_St} {s : List Int32} {br : Bool} {lots : Nat} (h : tc_inv σ s br lots) (hs : s.length < 16) (x : Int32) : ∃ σ', f_cho_push x σ = some σ' ∧ tw_fr tc_S1 σ σ' ∧ tc_inv σ' (x :: s) br lots := by
  obtain ⟨⟨h1, h2⟩, h4, h5, h6⟩ := h
  unfold f_cho_push
  simp (disch := omega) only [tw_L, tw_gN, tw_cl, tw_le, tw_lt, tw_eq, nI_add, pk_mul, tw_sub, tw_B0, tw_B1, tw_nb0, tw_nb1, tw_r1s, tw_r1n, if_true, if_false, Nat.le_refl, Nat.reduceEqDiff, Nat.reduceLeDiff, Nat.reduceLT, reduceIte, h1]
  rw [if_neg (by omega), if_neg (by omega)]
  refine ⟨_, rfl, (tw_fr.rf.si (by unfold tc_S1; omega)).si (by unfold tc_S1; omega), ⟨by rw [tw_r1s, List.length_cons], by rw [List.length_cons]; omega⟩, ⟨?_, ?_⟩, ?_, ?_⟩
  · rw [tw_r1n _ _ (by omega), tw_r1s]
  · exact tc_st.fr s (fun j hj => by rw [tw_r1n _ _ (by omega), tw_r1n _ _ (by omega)]) h4
  · rw [tw_r1n _ _ (by omega), tw_r1n _ _ (by omega)]; exact h5
  · rw [tw_r1n _ _ (by omega), tw_r1n _ _ (by omega)]; exact h6
theorem tc_unit {cnt : Bool} {σ : rx_St} (he : tc_env r W N E R σ) {o lots : Nat} {s : List Int32} {br : Bool} (ho : σ.1 51 9 = nI o) (hon : o < N.1) (htab : cnt = true → tc_tab W N R σ) (x : tw_Op) {a b : Int32} (ha : x.1 = 0 ∨ x.1 = 1 ∨ x.1 = 2 ∨ 6 ≤ x.1 ∧ x.1 ≤ 8 → a = nI x.2.1) (hb : x.1 = 7 → b = nI x.2.2) (hc : tc_needs x.1 → cnt = true) (hx : x.1 < 9) (hok : tw_opok W (tw_vc W (N.2.1 o)) x) (hi : tc_inv σ s br lots) :
    ∃ σ', f_cho_unit r (nI (tc_op x.1)) a b σ = some ((tw_leaf N E R o lots x).1, σ') ∧ tw_fr tc_S1 σ σ' ∧ tc_inv σ' s br (tw_leaf N E R o lots x).2 := by
  obtain ⟨k, xa, xb⟩ := x
  obtain ⟨q0, q1, q2, q6, q7, q8⟩ := hok
  obtain ⟨⟨e1, e2⟩, e3, e4, e5, e6, e7, e8⟩ := id he
  obtain ⟨⟨g1, g2⟩, g3, ⟨g4, g5⟩, g6, g7⟩ := e3 o hon
  dsimp only at ha hb hc hx q0 q1 q2 q6 q7 q8
  have hv6 := (e7.2.2 _ g2).1
  have hs6 := e7.1
  have hk5 := e7.2.1
  unfold f_cho_unit
  match k, hx with
  | 0, _ =>
    simp (disch := omega) only [tw_L, tw_gN, tw_cl, tw_le, tw_lt, tw_eq, nI_add, pk_mul, tw_sub, tw_B0, tw_B1, tw_nb0, tw_nb1, tw_r1s, tw_r1n, if_true, if_false, Nat.le_refl, Nat.reduceEqDiff, Nat.reduceLeDiff, Nat.reduceLT, reduceIte, ho, tc_op, ha (by omega)]
    exact ⟨σ, rfl, tw_fr.rf, hi⟩
  | 1, _ =>
    have := q1 rfl
    simp (disch := omega) only [tw_L, tw_gN, tw_cl, tw_le, tw_lt, tw_eq, nI_add, pk_mul, tw_sub, tw_B0, tw_B1, tw_nb0, tw_nb1, tw_r1s, tw_r1n, if_true, if_false, Nat.le_refl, Nat.reduceEqDiff, Nat.reduceLeDiff, Nat.reduceLT, reduceIte, ho, tc_op, ha (by omega), f_c_cell_59]
    rw [if_neg (by omega), if_neg (by omega), Option.bind_some]
    refine ⟨σ, ?_, tw_fr.rf, hi⟩
    rw [show o * 6 + xa = 6 * o + xa by omega, g7 xa (by omega)]
    rfl
  | 2, _ =>
    have := q2 rfl
    simp (disch := omega) only [tw_L, tw_gN, tw_cl, tw_le, tw_lt, tw_eq, nI_add, pk_mul, tw_sub, tw_B0, tw_B1, tw_nb0, tw_nb1, tw_r1s, tw_r1n, if_true, if_false, Nat.le_refl, Nat.reduceEqDiff, Nat.reduceLeDiff, Nat.reduceLT, reduceIte, ho, tc_op, ha (by omega), f_c_cell_58]
    rw [if_neg (by omega), if_neg (by omega), Option.bind_some, e4 xa this]
    exact ⟨σ, rfl, tw_fr.rf, hi⟩
  | 3, _ =>
    simp (disch := omega) only [tw_L, tw_gN, tw_cl, tw_le, tw_lt, tw_eq, nI_add, pk_mul, tw_sub, tw_B0, tw_B1, tw_nb0, tw_nb1, tw_r1s, tw_r1n, if_true, if_false, Nat.le_refl, Nat.reduceEqDiff, Nat.reduceLeDiff, Nat.reduceLT, reduceIte, ho, tc_op, e6]
    exact ⟨σ, rfl, tw_fr.rf, hi⟩
  | 4, _ =>
    obtain ⟨t1, t2, t3⟩ := htab (hc (Or.inl rfl))
    simp (disch := omega) only [tw_L, tw_gN, tw_cl, tw_le, tw_lt, tw_eq, nI_add, pk_mul, tw_sub, tw_B0, tw_B1, tw_nb0, tw_nb1, tw_r1s, tw_r1n, if_true, if_false, Nat.le_refl, Nat.reduceEqDiff, Nat.reduceLeDiff, Nat.reduceLT, reduceIte, ho, tc_op, g4, f_c_cell_52]
    rw [if_neg (by omega), if_neg (by omega), Option.bind_some, t1 _ g5]
    exact ⟨σ, rfl, tw_fr.rf, hi⟩
  | 5, _ =>
    simp (disch := omega) only [tw_L, tw_gN, tw_cl, tw_le, tw_lt, tw_eq, nI_add, pk_mul, tw_sub, tw_B0, tw_B1, tw_nb0, tw_nb1, tw_r1s, tw_r1n, if_true, if_false, Nat.le_refl, Nat.reduceEqDiff, Nat.reduceLeDiff, Nat.reduceLT, reduceIte, ho, tc_op, g4]
    exact ⟨σ, rfl, tw_fr.rf, hi⟩
  | 6, _ =>
    obtain ⟨u1, u2⟩ := q6 rfl
    obtain ⟨⟨i1, i2⟩, i3, i4, i5⟩ := hi
    simp (disch := omega) only [tw_L, tw_gN, tw_cl, tw_le, tw_lt, tw_eq, nI_add, pk_mul, tw_sub, tw_B0, tw_B1, tw_nb0, tw_nb1, tw_r1s, tw_r1n, if_true, if_false, Nat.le_refl, Nat.reduceEqDiff, Nat.reduceLeDiff, Nat.reduceLT, reduceIte, ho, tc_op, e5, e6, i5, ha (by omega), tc_lot u1 (by omega : xa < 2147483648), Option.bind_some, Nat.add_sub_cancel]
    refine ⟨_, rfl, tw_fr.rf.si (by unfold tc_S1; omega), ⟨by rw [tw_r1n _ _ (by omega)]; exact i1, i2⟩, tc_st.fr s (fun j hj => tw_r1n _ _ (by omega)) i3, by rw [tw_r1n _ _ (by omega)]; exact i4, by rw [tw_r1s]; rfl⟩
  | 7, _ =>
    obtain ⟨t1, t2, t3⟩ := htab (hc (Or.inr (Or.inl rfl)))
    obtain ⟨u1, u2⟩ := q7 rfl
    have u6 := (e7.2.2 _ u1).1
    simp (disch := omega) only [tw_L, tw_gN, tw_cl, tw_le, tw_lt, tw_eq, nI_add, pk_mul, tw_sub, tw_B0, tw_B1, tw_nb0, tw_nb1, tw_r1s, tw_r1n, if_true, if_false, Nat.le_refl, Nat.reduceEqDiff, Nat.reduceLeDiff, Nat.reduceLT, reduceIte, ho, tc_op, g4, ha (by omega), hb rfl, f_c_cell_54]
    rw [if_neg (by omega), if_neg (by omega), Option.bind_some]
    have := t3 xa xb _ u1 u2 g5
    rw [show (xa * 6 + xb) * 10 + R.2.1 o = (6 * xa + xb) * 10 + R.2.1 o by omega, this]
    exact ⟨σ, rfl, tw_fr.rf, hi⟩
  | 8, _ =>
    obtain ⟨t1, t2, t3⟩ := htab (hc (Or.inr (Or.inr rfl)))
    have u1 := q8 rfl
    simp (disch := omega) only [tw_L, tw_gN, tw_cl, tw_le, tw_lt, tw_eq, nI_add, pk_mul, tw_sub, tw_B0, tw_B1, tw_nb0, tw_nb1, tw_r1s, tw_r1n, if_true, if_false, Nat.le_refl, Nat.reduceEqDiff, Nat.reduceLeDiff, Nat.reduceLT, reduceIte, ho, tc_op, ha (by omega), f_c_cell_53]
    rw [if_neg (by omega), if_neg (by omega), Option.bind_some, t2 _ u1]
    exact ⟨σ, rfl, tw_fr.rf, hi⟩
end TC
