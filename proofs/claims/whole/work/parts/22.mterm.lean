/-! THE MODEL'S E's: what is read while a ONE chooses, and the value of an E -/
def tm_env (W : tw_Wo) (N : tw_N) (E : tw_E) (R : tw_R) (σ : rx_St) : Prop :=
  (σ.1 87 60 = nI N.1 ∧ N.1 ≤ 20) ∧ (∀ q, q < N.1 → (σ.1 130 q = nI (N.2.1 q) ∧ N.2.1 q < W.2.length) ∧ σ.1 132 q = nI (N.2.2 q) ∧ (σ.1 136 q = nI (R.2.1 q) ∧ R.2.1 q < 10) ∧ σ.1 137 q = tw_B (R.2.2 q) ∧ ∀ v, v < tw_vc W (N.2.1 q) → σ.1 135 (6 * q + v) = R.1 (6 * q + v)) ∧
  (∀ i, i < W.1.length → σ.1 134 i = E.1 i) ∧ σ.1 87 78 = E.2.1 ∧ σ.1 87 79 = nI E.2.2 ∧ tw_wok W
/-- places written while a ONE chooses -/
def tm_S0 (q j : Nat) : Prop := q = 87 ∧ j = 81
def tm_S1 (q j : Nat) : Prop := q = 146 ∨ q = 87 ∧ (j = 81 ∨ j = 83)
def tm_S2 (q j : Nat) : Prop := tm_S1 q j ∨ q = 87 ∧ j = 80 ∨ 138 ≤ q ∧ q ≤ 143
theorem tm_env.fr {W : tw_Wo} {N : tw_N} {E : tw_E} {R : tw_R} {σ σ' : rx_St} (e : tm_env W N E R σ) (h : tw_fr tm_S2 σ σ') : tm_env W N E R σ' := by
  obtain ⟨⟨h1, h2⟩, h3, h4, h5, h6, h7⟩ := e
  refine ⟨⟨?_, h2⟩, fun q hq => ?_, fun i hi => ?_, ?_, ?_, h7⟩
  · rw [h.i (by unfold tm_S2 tm_S1; omega)]; exact h1
  · obtain ⟨⟨g1, g2⟩, g3, ⟨g4, g5⟩, g6, g7⟩ := h3 q hq
    refine ⟨⟨?_, g2⟩, ?_, ⟨?_, g5⟩, ?_, fun v hv => ?_⟩
    · rw [h.i (by unfold tm_S2 tm_S1; omega)]; exact g1
    · rw [h.i (by unfold tm_S2 tm_S1; omega)]; exact g3
    · rw [h.i (by unfold tm_S2 tm_S1; omega)]; exact g4
    · rw [h.i (by unfold tm_S2 tm_S1; omega)]; exact g6
    · rw [h.i (by unfold tm_S2 tm_S1; omega)]; exact g7 v hv
  · rw [h.i (by unfold tm_S2 tm_S1; omega)]; exact h4 i hi
  · rw [h.i (by unfold tm_S2 tm_S1; omega)]; exact h5
  · rw [h.i (by unfold tm_S2 tm_S1; omega)]; exact h6
theorem tm_S01 : ∀ q j, tm_S0 q j → tm_S1 q j := fun _ _ h => Or.inr ⟨h.1, Or.inl h.2⟩
theorem tm_S12 : ∀ q j, tm_S1 q j → tm_S2 q j := fun _ _ h => Or.inl h
section TM
variable {W : tw_Wo} {N : tw_N} {E : tw_E} {R : tw_R}
theorem tm_sumOf_l {σ : rx_St} (e : tm_env W N E R σ) {o k v : Nat} (ho : σ.1 87 80 = nI o) (hon : o < N.1) (hk : k < W.2.length) (hv : v < tw_vc W k) :
    ∀ fuel i, i ≤ N.1 → N.1 - i < fuel → f_m_sumOf_5 fuel (nI k) (nI v) (tw_sum (fun q => !R.2.2 q && (N.2.1 q == k && R.2.1 q == R.2.1 o)) (fun q => R.1 (6 * q + v) * nI (N.2.2 q)) i) (nI i) σ = some (tw_sumv N R o k v) := by
  obtain ⟨⟨h1, h2⟩, h3, -, -, -, h7⟩ := e
  obtain ⟨-, -, ⟨o1, o2⟩, -⟩ := h3 o hon
  have hW := h7.2.1
  have hv6 := (h7.2.2 k hk).1
  intro fuel
  induction fuel with
  | zero => intro i _ h; exact absurd h (Nat.not_lt_zero _)
  | succ m ih =>
    intro i hi hf
    rw [f_m_sumOf_5]
    by_cases hin : i = N.1
    · subst hin
      simp (disch := omega) only [tw_L, tw_gN, tw_cl, tw_le, tw_lt, tw_eq, nI_add, pk_mul, tw_sub, tw_B0, tw_B1, tw_nb0, tw_nb1, tw_r1s, tw_r1n, if_true, if_false, Nat.le_refl, Nat.reduceEqDiff, Nat.reduceLeDiff, Nat.reduceLT, reduceIte, h1]
      rfl
    · obtain ⟨⟨g1, g2⟩, g3, ⟨g4, g5⟩, g6, g7⟩ := h3 i (by omega)
      have ih' := ih (i + 1) (by omega) (by omega)
      rw [tw_sum] at ih'
      simp (disch := omega) only [tw_L, tw_gN, tw_cl, tw_le, tw_lt, tw_eq, nI_add, pk_mul, tw_sub, tw_B0, tw_B1, tw_nb0, tw_nb1, tw_r1s, tw_r1n, if_true, if_false, Nat.le_refl, Nat.reduceEqDiff, Nat.reduceLeDiff, Nat.reduceLT, reduceIte, h1, ho, g1, g3, g4, g6, o1, f_m_sumOf_77]
      rw [if_neg (by omega)]
      cases hg : R.2.2 i with
      | true =>
        simp only [hg, Bool.not_true, Bool.false_and, Bool.false_eq_true, if_false] at ih'
        rw [if_neg (by decide)]
        exact ih'
      | false =>
        rw [if_pos rfl]
        by_cases hq : N.2.1 i = k
        · rw [if_pos hq]
          by_cases hs : R.2.1 i = R.2.1 o
          · rw [if_pos hs, g7 v (by rw [hq]; exact hv)]
            simp only [hg, hq, hs, Bool.not_false, beq_self_eq_true, Bool.and_self, if_true] at ih'
            exact ih'
          · rw [if_neg hs]
            simp only [hg, hq, Bool.not_false, beq_self_eq_true, Bool.true_and, beq_iff_eq, hs, if_false] at ih'
            exact ih'
        · rw [if_neg hq]
          simp only [hg, Bool.not_false, Bool.true_and, Bool.and_eq_true, beq_iff_eq, hq, false_and, if_false] at ih'
          exact ih'
theorem tm_sumOf {σ : rx_St} (e : tm_env W N E R σ) {o k v : Nat} (ho : σ.1 87 80 = nI o) (hon : o < N.1) (hk : k < W.2.length) (hv : v < tw_vc W k) : f_m_sumOf (nI k) (nI v) σ = some (tw_sumv N R o k v) := by
  have h2 := e.1.2
  exact tm_sumOf_l e ho hon hk hv rx_fu 0 (Nat.zero_le _) (by unfold rx_fu; omega)
theorem tm_manyK_l {σ : rx_St} (e : tm_env W N E R σ) {k : Nat} (hk : k < W.2.length) :
    ∀ fuel i, i ≤ N.1 → N.1 - i < fuel → f_m_manyOf_4 fuel (nI k) (tw_sum (fun q => !R.2.2 q && N.2.1 q == k) (fun q => nI (N.2.2 q)) i) (nI i) σ = some (tw_all N R k) := by
  obtain ⟨⟨h1, h2⟩, h3, -, -, -, h7⟩ := e
  have hW := h7.2.1
  intro fuel
  induction fuel with
  | zero => intro i _ h; exact absurd h (Nat.not_lt_zero _)
  | succ m ih =>
    intro i hi hf
    rw [f_m_manyOf_4]
    by_cases hin : i = N.1
    · subst hin
      simp (disch := omega) only [tw_L, tw_gN, tw_cl, tw_le, tw_lt, tw_eq, nI_add, pk_mul, tw_sub, tw_B0, tw_B1, tw_nb0, tw_nb1, tw_r1s, tw_r1n, if_true, if_false, Nat.le_refl, Nat.reduceEqDiff, Nat.reduceLeDiff, Nat.reduceLT, reduceIte, h1]
      rfl
    · obtain ⟨⟨g1, g2⟩, g3, ⟨g4, g5⟩, g6, g7⟩ := h3 i (by omega)
      have ih' := ih (i + 1) (by omega) (by omega)
      rw [tw_sum] at ih'
      simp (disch := omega) only [tw_L, tw_gN, tw_cl, tw_le, tw_lt, tw_eq, nI_add, pk_mul, tw_sub, tw_B0, tw_B1, tw_nb0, tw_nb1, tw_r1s, tw_r1n, if_true, if_false, Nat.le_refl, Nat.reduceEqDiff, Nat.reduceLeDiff, Nat.reduceLT, reduceIte, h1, g1, g3, g6, f_m_manyOf_66, f_m_manyOf_57, tw_m1]
      rw [if_neg (by omega)]
      cases hg : R.2.2 i with
      | true =>
        simp only [hg, Bool.not_true, Bool.false_and, Bool.false_eq_true, if_false] at ih'
        rw [if_neg (by decide)]
        exact ih'
      | false =>
        rw [if_pos rfl]
        by_cases hq : N.2.1 i = k
        · rw [if_pos hq]
          simp only [hg, hq, Bool.not_false, beq_self_eq_true, Bool.and_self, if_true] at ih'
          exact ih'
        · rw [if_neg hq]
          simp only [hg, Bool.not_false, Bool.true_and, beq_iff_eq, hq, if_false] at ih'
          exact ih'
theorem tm_manyH_l {σ : rx_St} (e : tm_env W N E R σ) {o : Nat} (ho : σ.1 87 80 = nI o) (hon : o < N.1) :
    ∀ fuel i, i ≤ N.1 → N.1 - i < fuel → f_m_manyOf_4 fuel (-nI 1) (tw_sum (fun q => !R.2.2 q && R.2.1 q == R.2.1 o) (fun q => nI (N.2.2 q)) i) (nI i) σ = some (tw_here N R o) := by
  obtain ⟨⟨h1, h2⟩, h3, -, -, -, h7⟩ := e
  obtain ⟨-, -, ⟨o1, o2⟩, -⟩ := h3 o hon
  intro fuel
  induction fuel with
  | zero => intro i _ h; exact absurd h (Nat.not_lt_zero _)
  | succ m ih =>
    intro i hi hf
    rw [f_m_manyOf_4]
    by_cases hin : i = N.1
    · subst hin
      simp (disch := omega) only [tw_L, tw_gN, tw_cl, tw_le, tw_lt, tw_eq, nI_add, pk_mul, tw_sub, tw_B0, tw_B1, tw_nb0, tw_nb1, tw_r1s, tw_r1n, if_true, if_false, Nat.le_refl, Nat.reduceEqDiff, Nat.reduceLeDiff, Nat.reduceLT, reduceIte, h1]
      rfl
    · obtain ⟨⟨g1, g2⟩, g3, ⟨g4, g5⟩, g6, g7⟩ := h3 i (by omega)
      have ih' := ih (i + 1) (by omega) (by omega)
      rw [tw_sum] at ih'
      simp (disch := omega) only [tw_L, tw_gN, tw_cl, tw_le, tw_lt, tw_eq, nI_add, pk_mul, tw_sub, tw_B0, tw_B1, tw_nb0, tw_nb1, tw_r1s, tw_r1n, if_true, if_false, Nat.le_refl, Nat.reduceEqDiff, Nat.reduceLeDiff, Nat.reduceLT, reduceIte, h1, ho, g1, g3, g4, o1, g6, f_m_manyOf_66, f_m_manyOf_57]
      rw [if_neg (by omega)]
      cases hg : R.2.2 i with
      | true =>
        simp only [hg, Bool.not_true, Bool.false_and, Bool.false_eq_true, if_false] at ih'
        rw [if_neg (by decide)]
        exact ih'
      | false =>
        rw [if_pos rfl]
        by_cases hq : R.2.1 i = R.2.1 o
        · rw [if_pos hq]
          simp only [hg, hq, Bool.not_false, beq_self_eq_true, Bool.and_self, if_true] at ih'
          exact ih'
        · rw [if_neg hq]
          simp only [hg, Bool.not_false, Bool.true_and, beq_iff_eq, hq, if_false] at ih'
          exact ih'
theorem tm_manyK {σ : rx_St} (e : tm_env W N E R σ) {k : Nat} (hk : k < W.2.length) : f_m_manyOf (nI k) σ = some (tw_all N R k) := by
  have h2 := e.1.2
  exact tm_manyK_l e hk rx_fu 0 (Nat.zero_le _) (by unfold rx_fu; omega)
theorem tm_manyH {σ : rx_St} (e : tm_env W N E R σ) {o : Nat} (ho : σ.1 87 80 = nI o) (hon : o < N.1) : f_m_manyOf (-nI 1) σ = some (tw_here N R o) := by
  have h2 := e.1.2
  exact tm_manyH_l e ho hon rx_fu 0 (Nat.zero_le _) (by unfold rx_fu; omega)
theorem tm_lotOf {a b c d n : Int32} (hn : ¬ n = nI 0) : f_m_lotOf a b c d n = some (tw_lot a b c d n) := by
  unfold f_m_lotOf tw_lot
  exact tw_cE hn
theorem tm_nextLot {σ : rx_St} (e : tm_env W N E R σ) {o lots : Nat} {n : Int32} (ho : σ.1 87 80 = nI o) (hl : σ.1 87 81 = nI lots) (hn : ¬ n = nI 0) :
    f_m_nextLot n σ = some (tw_lot E.2.1 (nI o) (nI E.2.2) (nI lots) n, rx_si σ 87 81 (nI (lots + 1))) := by
  obtain ⟨-, -, -, h5, h6, -⟩ := e
  unfold f_m_nextLot
  simp (disch := omega) only [tw_L, tw_gN, tw_cl, tw_le, tw_lt, tw_eq, nI_add, pk_mul, tw_sub, tw_B0, tw_B1, tw_nb0, tw_nb1, tw_r1s, tw_r1n, if_true, if_false, Nat.le_refl, Nat.reduceEqDiff, Nat.reduceLeDiff, Nat.reduceLT, reduceIte, ho, hl, h5, h6, tm_lotOf hn, Option.bind_some, Nat.add_sub_cancel]
theorem tm_leaf {σ : rx_St} (e : tm_env W N E R σ) {o lots p : Nat} (ho : σ.1 87 80 = nI o) (hon : o < N.1) (hp : p < 1400) (x : tw_Op) (h1 : σ.1 120 p = nI x.1) (h2 : σ.1 121 p = nI x.2.1) (h3 : σ.1 122 p = nI x.2.2) (hx : x.1 < 9) (hok : tw_opok W (tw_vc W (N.2.1 o)) x) (hl : σ.1 87 81 = nI lots) :
    tw_ok (f_m_leafOf (nI p) σ) (fun y => y.1 = (tw_leaf N E R o lots x).1 ∧ tw_fr tm_S0 σ y.2 ∧ y.2.1 87 81 = nI (tw_leaf N E R o lots x).2) := by
  obtain ⟨k, a, b⟩ := x
  obtain ⟨q0, q1, q2, q6, q7, q8⟩ := hok
  obtain ⟨⟨e1, e2⟩, e3, e4, e5, e6, e7⟩ := id e
  obtain ⟨⟨g1, g2⟩, g3, ⟨g4, g5⟩, g6, g7⟩ := e3 o hon
  dsimp only at h1 h2 h3 hx q0 q1 q2 q6 q7 q8
  have hv6 := (e7.2.2 _ g2).1
  have hs6 := e7.1
  have hk5 := e7.2.1
  unfold f_m_leafOf
  match k, hx with
  | 0, _ =>
    simp (disch := omega) only [tw_L, tw_gN, tw_cl, tw_le, tw_lt, tw_eq, nI_add, pk_mul, tw_sub, tw_B0, tw_B1, tw_nb0, tw_nb1, tw_r1s, tw_r1n, if_true, if_false, Nat.le_refl, Nat.reduceEqDiff, Nat.reduceLeDiff, Nat.reduceLT, reduceIte, h1, h2, h3, tw_some]
    exact ⟨rfl, tw_fr.rf, hl⟩
  | 1, _ =>
    have := q1 rfl
    simp (disch := omega) only [tw_L, tw_gN, tw_cl, tw_le, tw_lt, tw_eq, nI_add, pk_mul, tw_sub, tw_B0, tw_B1, tw_nb0, tw_nb1, tw_r1s, tw_r1n, if_true, if_false, Nat.le_refl, Nat.reduceEqDiff, Nat.reduceLeDiff, Nat.reduceLT, reduceIte, h1, h2, h3, ho, tw_some]
    exact ⟨g7 a this, tw_fr.rf, hl⟩
  | 2, _ =>
    have := q2 rfl
    simp (disch := omega) only [tw_L, tw_gN, tw_cl, tw_le, tw_lt, tw_eq, nI_add, pk_mul, tw_sub, tw_B0, tw_B1, tw_nb0, tw_nb1, tw_r1s, tw_r1n, if_true, if_false, Nat.le_refl, Nat.reduceEqDiff, Nat.reduceLeDiff, Nat.reduceLT, reduceIte, h1, h2, h3, ho, tw_some]
    exact ⟨e4 a this, tw_fr.rf, hl⟩
  | 3, _ =>
    simp (disch := omega) only [tw_L, tw_gN, tw_cl, tw_le, tw_lt, tw_eq, nI_add, pk_mul, tw_sub, tw_B0, tw_B1, tw_nb0, tw_nb1, tw_r1s, tw_r1n, if_true, if_false, Nat.le_refl, Nat.reduceEqDiff, Nat.reduceLeDiff, Nat.reduceLT, reduceIte, h1, h2, h3, ho, tw_some]
    exact ⟨e6, tw_fr.rf, hl⟩
  | 4, _ =>
    simp (disch := omega) only [tw_L, tw_gN, tw_cl, tw_le, tw_lt, tw_eq, nI_add, pk_mul, tw_sub, tw_B0, tw_B1, tw_nb0, tw_nb1, tw_r1s, tw_r1n, if_true, if_false, Nat.le_refl, Nat.reduceEqDiff, Nat.reduceLeDiff, Nat.reduceLT, reduceIte, h1, h2, h3, tm_manyH e ho hon, Option.bind_some, tw_some]
    exact ⟨rfl, tw_fr.rf, hl⟩
  | 5, _ =>
    simp (disch := omega) only [tw_L, tw_gN, tw_cl, tw_le, tw_lt, tw_eq, nI_add, pk_mul, tw_sub, tw_B0, tw_B1, tw_nb0, tw_nb1, tw_r1s, tw_r1n, if_true, if_false, Nat.le_refl, Nat.reduceEqDiff, Nat.reduceLeDiff, Nat.reduceLT, reduceIte, h1, h2, h3, ho, tw_some]
    exact ⟨g4, tw_fr.rf, hl⟩
  | 6, _ =>
    have := q6 rfl
    simp (disch := omega) only [tw_L, tw_gN, tw_cl, tw_le, tw_lt, tw_eq, nI_add, pk_mul, tw_sub, tw_B0, tw_B1, tw_nb0, tw_nb1, tw_r1s, tw_r1n, if_true, if_false, Nat.le_refl, Nat.reduceEqDiff, Nat.reduceLeDiff, Nat.reduceLT, reduceIte, h1, h2, h3, tw_some]
    rw [tm_nextLot e ho hl (by rw [tw_eq (by omega) (by omega)]; omega), Option.bind_some, tw_some]
    refine ⟨rfl, tw_fr.rf.si (by unfold tm_S0; omega), ?_⟩
    rw [tw_r1s]; rfl
  | 7, _ =>
    obtain ⟨t1, t2⟩ := q7 rfl
    simp (disch := omega) only [tw_L, tw_gN, tw_cl, tw_le, tw_lt, tw_eq, nI_add, pk_mul, tw_sub, tw_B0, tw_B1, tw_nb0, tw_nb1, tw_r1s, tw_r1n, if_true, if_false, Nat.le_refl, Nat.reduceEqDiff, Nat.reduceLeDiff, Nat.reduceLT, reduceIte, h1, h2, h3, tm_sumOf e ho hon t1 t2, Option.bind_some, tw_some]
    exact ⟨rfl, tw_fr.rf, hl⟩
  | 8, _ =>
    have t1 := q8 rfl
    simp (disch := omega) only [tw_L, tw_gN, tw_cl, tw_le, tw_lt, tw_eq, nI_add, pk_mul, tw_sub, tw_B0, tw_B1, tw_nb0, tw_nb1, tw_r1s, tw_r1n, if_true, if_false, Nat.le_refl, Nat.reduceEqDiff, Nat.reduceLeDiff, Nat.reduceLT, reduceIte, h1, h2, h3, tm_manyK e t1, Option.bind_some, tw_some]
    exact ⟨rfl, tw_fr.rf, hl⟩
end TM
