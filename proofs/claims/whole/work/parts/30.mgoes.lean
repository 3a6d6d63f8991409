/-! THE MODEL'S RUNS: from the beginning, t TICKS; FIGURES -/
/-- the model's rows of ONES as they begin -/
def tm_T (W : tw_Wo) (N : tw_N) (pl : Nat → Nat) (bg : Nat → Int32) (dl : Bool) (σ : rx_St) : Prop :=
  (σ.1 87 60 = nI N.1 ∧ N.1 ≤ 20) ∧ (∀ q, q < N.1 → (σ.1 130 q = nI (N.2.1 q) ∧ N.2.1 q < W.2.length) ∧ σ.1 132 q = nI (N.2.2 q) ∧ (σ.1 131 q = nI (pl q) ∧ pl q < 10) ∧ ∀ v, v < tw_vc W (N.2.1 q) → σ.1 133 (6 * q + v) = bg (6 * q + v)) ∧ σ.1 87 65 = tw_B dl ∧ tw_wok W
def tm_S8 (q j : Nat) : Prop := 135 ≤ q ∧ q ≤ 146 ∨ q = 87 ∧ 78 ≤ j ∧ j ≤ 83
theorem tm_T.fr {W : tw_Wo} {N : tw_N} {pl : Nat → Nat} {bg : Nat → Int32} {dl : Bool} {σ σ' : rx_St} (h : tm_T W N pl bg dl σ) (f : ∀ q j, 130 ≤ q → q ≤ 133 → σ'.1 q j = σ.1 q j) (f2 : σ'.1 87 60 = σ.1 87 60) (f3 : σ'.1 87 65 = σ.1 87 65) : tm_T W N pl bg dl σ' := by
  obtain ⟨⟨h1, h2⟩, h3, h4, h5⟩ := h
  refine ⟨⟨by rw [f2]; exact h1, h2⟩, fun q hq => ?_, by rw [f3]; exact h4, h5⟩
  obtain ⟨⟨g1, g2⟩, g3, ⟨g4, g5⟩, g7⟩ := h3 q hq
  exact ⟨⟨by rw [f _ _ (by omega) (by omega)]; exact g1, g2⟩, by rw [f _ _ (by omega) (by omega)]; exact g3, ⟨by rw [f _ _ (by omega) (by omega)]; exact g4, g5⟩, fun v hv => by rw [f _ _ (by omega) (by omega)]; exact g7 v hv⟩
def tw_R0 (pl : Nat → Nat) (bg : Nat → Int32) : tw_R := (bg, pl, fun _ => false)
section TM9
variable {W : tw_Wo} {N : tw_N} {pl : Nat → Nat} {bg : Nat → Int32} {dl : Bool}
theorem tm_b38 {n : Nat} (hn : n ≤ 20) (σ0 : rx_St) (h1 : σ0.1 87 60 = nI n) : ∀ (fuel i : Nat) (σ : rx_St), i ≤ n → n - i < fuel → tw_fr (fun q _ => q = 136 ∨ q = 137) σ0 σ → (∀ j, j < i → σ.1 136 j = σ0.1 131 j ∧ σ.1 137 j = nI 0) →
    tw_ok (f_m_begins_38 fuel (nI i) σ) (fun σ' => tw_fr (fun q _ => q = 136 ∨ q = 137) σ0 σ' ∧ ∀ j, j < n → σ'.1 136 j = σ0.1 131 j ∧ σ'.1 137 j = nI 0) := by
  intro fuel
  induction fuel with
  | zero => intro i σ _ h; exact absurd h (Nat.not_lt_zero _)
  | succ m ih =>
    intro i σ hi hf f0 ha
    have r1 : σ.1 87 60 = nI n := (f0.i (show ¬ (87 = 136 ∨ 87 = 137) by decide)).trans h1
    rw [f_m_begins_38]
    simp (disch := omega) only [tw_L, tw_gN, tw_cl, tw_le, tw_lt, tw_eq, nI_add, pk_mul, tw_sub, tw_B0, tw_B1, tw_nb0, tw_nb1, tw_r1s, tw_r1n, if_true, if_false, Nat.le_refl, Nat.reduceEqDiff, Nat.reduceLeDiff, Nat.reduceLT, reduceIte, r1]
    by_cases hin : i = n
    · rw [if_pos (by omega), tw_some]
      exact ⟨f0, fun j hj => ha j (by omega)⟩
    · rw [if_neg (by omega), f0.i (show ¬ (131 = 136 ∨ 131 = 137) by decide)]
      refine ih (i + 1) _ (by omega) (by omega) ((f0.si (Or.inl rfl)).si (Or.inr rfl)) (fun j hj => ?_)
      by_cases e : j = i
      · subst e; exact ⟨by rw [tw_r1n _ _ (by omega), tw_r1s], by rw [tw_r1s]⟩
      · rw [tw_r1n _ _ (by omega), tw_r1n _ _ (by omega), tw_r1n _ _ (by omega), tw_r1n _ _ (by omega)]; exact ha j (by omega)
theorem tm_b7 {n : Nat} (hn : n ≤ 20) (σ0 : rx_St) (h1 : σ0.1 87 60 = nI n) : ∀ (fuel i : Nat) (σ : rx_St), i ≤ 6 * n → 6 * n - i < fuel → tw_fr (fun q _ => q = 135) σ0 σ → (∀ j, j < i → σ.1 135 j = σ0.1 133 j) →
    tw_ok (f_m_begins_7 fuel (nI i) σ) (fun σ' => tw_fr (fun q _ => q = 135 ∨ q = 136 ∨ q = 137) σ0 σ' ∧ (∀ j, j < 6 * n → σ'.1 135 j = σ0.1 133 j) ∧ ∀ j, j < n → σ'.1 136 j = σ0.1 131 j ∧ σ'.1 137 j = nI 0) := by
  intro fuel
  induction fuel with
  | zero => intro i σ _ h; exact absurd h (Nat.not_lt_zero _)
  | succ m ih =>
    intro i σ hi hf f0 ha
    have r1 : σ.1 87 60 = nI n := (f0.i (show ¬ 87 = 135 by decide)).trans h1
    rw [f_m_begins_7]
    simp (disch := omega) only [tw_L, tw_gN, tw_cl, tw_le, tw_lt, tw_eq, nI_add, pk_mul, tw_sub, tw_B0, tw_B1, tw_nb0, tw_nb1, tw_r1s, tw_r1n, if_true, if_false, Nat.le_refl, Nat.reduceEqDiff, Nat.reduceLeDiff, Nat.reduceLT, reduceIte, r1]
    by_cases hin : i = 6 * n
    · rw [if_pos (by omega)]
      refine tw_mono (tm_b38 hn σ r1 rx_fu 0 σ (Nat.zero_le _) (by unfold rx_fu; omega) tw_fr.rf (fun j hj => absurd hj (Nat.not_lt_zero _))) (fun σ' h => ⟨tw_fr.tn f0 h.1 (fun q j h => Or.inl h) (fun q j h => Or.inr h), fun j hj => ?_, fun j hj => ?_⟩)
      · rw [h.1.i (show ¬ (135 = 136 ∨ 135 = 137) by decide)]; exact ha j (by omega)
      · rw [(h.2 j hj).1, f0.i (show ¬ 131 = 135 by decide)]; exact ⟨rfl, (h.2 j hj).2⟩
    · rw [if_neg (by omega), f0.i (show ¬ 133 = 135 by decide)]
      refine ih (i + 1) _ (by omega) (by omega) (f0.si rfl) (fun j hj => ?_)
      by_cases e : j = i
      · subst e; rw [tw_r1s]
      · rw [tw_r1n _ _ (by omega)]; exact ha j (by omega)
theorem tm_begins {σ : rx_St} {st : Nat → Int32} {seed : Int32} {lv : Nat} (hT : tm_T W N pl bg dl σ) (hst : ∀ i, i < W.1.length → σ.1 134 i = st i) :
    tw_ok (f_m_begins seed σ) (fun σ' => tw_fr tm_S8 σ σ' ∧ ∀ x, tm_env W N (st, seed, x) (tw_R0 pl bg) (rx_si σ' 87 79 (nI x))) := by
  obtain ⟨⟨h1, h2⟩, h3, h4, h5⟩ := id hT
  unfold f_m_begins
  have f1 : tw_fr tm_S8 σ (rx_si σ 87 78 seed) := tw_fr.rf.si (by unfold tm_S8; omega)
  refine tw_mono (tm_b7 h2 (rx_si σ 87 78 seed) (by rw [tw_r1n _ _ (by omega)]; exact h1) rx_fu 0 _ (Nat.zero_le _) (by unfold rx_fu; omega) tw_fr.rf (fun j hj => absurd hj (Nat.not_lt_zero _))) (fun σ' h => ?_)
  obtain ⟨f2, k1, k2⟩ := h
  refine ⟨tw_fr.tn f1 f2 (fun q j h => h) (fun q j h => by unfold tm_S8; omega), fun x => ?_⟩
  have g : ∀ {q j : Nat}, q < 135 ∨ 137 < q → ¬ (q = 87 ∧ (j = 78 ∨ j = 79)) → (rx_si σ' 87 79 (nI x)).1 q j = σ.1 q j := fun {q j} a b => by
    rw [tw_r1n _ _ (by omega), f2.i (by omega), tw_r1n _ _ (by omega)]
  refine ⟨⟨by rw [g (by omega) (by omega)]; exact h1, h2⟩, fun q hq => ?_, fun i hi => by rw [g (by omega) (by omega)]; exact hst i hi, ?_, tw_r1s _ _ _ _, h5⟩
  · obtain ⟨⟨g1, g2⟩, g3, ⟨g4, g5⟩, g7⟩ := h3 q hq
    have hv6 := (h5.2.2 _ g2).1
    refine ⟨⟨by rw [g (by omega) (by omega)]; exact g1, g2⟩, by rw [g (by omega) (by omega)]; exact g3, ⟨?_, g5⟩, ?_, fun v hv => ?_⟩
    · rw [tw_r1n _ _ (by omega), (k2 q hq).1, tw_r1n _ _ (by omega)]; exact g4
    · rw [tw_r1n _ _ (by omega), (k2 q hq).2]; rfl
    · rw [tw_r1n _ _ (by omega), k1 _ (by omega), tw_r1n _ _ (by omega)]; exact g7 v hv
  · rw [tw_r1n _ _ (by omega), f2.i (by omega), tw_r1s]
theorem tm_env.tk {W : tw_Wo} {N : tw_N} {st : Nat → Int32} {seed : Int32} {x : Nat} {R : tw_R} {σ : rx_St} (he : tm_env W N (st, seed, x) R σ) (y : Nat) : tm_env W N (st, seed, y) R (rx_si σ 87 79 (nI y)) := by
  obtain ⟨⟨h1, h2⟩, h3, h4, h5, h6, h7⟩ := he
  refine ⟨⟨by rw [tw_r1n _ _ (by omega)]; exact h1, h2⟩, fun q hq => ?_, fun i hi => by rw [tw_r1n _ _ (by omega)]; exact h4 i hi, by rw [tw_r1n _ _ (by omega)]; exact h5, tw_r1s _ _ _ _, h7⟩
  obtain ⟨⟨g1, g2⟩, g3, ⟨g4, g5⟩, g6, g7⟩ := h3 q hq
  exact ⟨⟨by rw [tw_r1n _ _ (by omega)]; exact g1, g2⟩, by rw [tw_r1n _ _ (by omega)]; exact g3, ⟨by rw [tw_r1n _ _ (by omega)]; exact g4, g5⟩, by rw [tw_r1n _ _ (by omega)]; exact g6, fun v hv => by rw [tw_r1n _ _ (by omega)]; exact g7 v hv⟩
def tw_plain : Nat → Int32 := fun _ => -nI 1
theorem tm_goes_l {σ0 : rx_St} {st : Nat → Int32} {seed : Int32} {lv t : Nat} (ht : t ≤ 40) (hM : tm_MW W lv σ0) (hdl : σ0.1 87 65 = tw_B dl) (R0 : tw_R) : ∀ (fuel i : Nat) (σ : rx_St), i ≤ t → t - i < fuel → tw_fr tm_S8 σ0 σ → tm_env W N (st, seed, i) (tw_run W N dl st seed tw_plain R0 i) σ →
    tw_ok (f_m_goes_10 fuel (nI t) σ) (fun σ' => tw_fr tm_S8 σ0 σ' ∧ tm_env W N (st, seed, t) (tw_run W N dl st seed tw_plain R0 t) σ') := by
  intro fuel
  induction fuel with
  | zero => intro i σ _ h; exact absurd h (Nat.not_lt_zero _)
  | succ m ih =>
    intro i σ hi hf f0 he
    have r1 : σ.1 87 79 = nI i := he.2.2.2.2.1
    rw [f_m_goes_10]
    simp (disch := omega) only [tw_L, tw_gN, tw_cl, tw_le, tw_lt, tw_eq, nI_add, pk_mul, tw_sub, tw_B0, tw_B1, tw_nb0, tw_nb1, tw_r1s, tw_r1n, if_true, if_false, Nat.le_refl, Nat.reduceEqDiff, Nat.reduceLeDiff, Nat.reduceLT, reduceIte, r1]
    by_cases hin : i = t
    · subst hin
      rw [if_pos (Nat.le_refl _), tw_some]
      exact ⟨f0, he⟩
    · rw [if_neg (by omega)]
      have hM1 : tm_MW W lv σ := hM.fr (fun q j a b => f0.i (by unfold tm_S8; omega)) (f0.i (by unfold tm_S8; omega))
      refine tw_b (tm_tick (out := -nI 1) he hM1 (by rw [f0.i (by unfold tm_S8; omega)]; exact hdl)) (fun σ1 h => ?_)
      obtain ⟨f1, e1⟩ := h
      have r2 : σ1.1 87 79 = nI i := e1.2.2.2.2.1
      simp (disch := omega) only [tw_L, tw_gN, tw_cl, tw_le, tw_lt, tw_eq, nI_add, pk_mul, tw_sub, tw_B0, tw_B1, tw_nb0, tw_nb1, tw_r1s, tw_r1n, if_true, if_false, Nat.le_refl, Nat.reduceEqDiff, Nat.reduceLeDiff, Nat.reduceLT, reduceIte, r2]
      exact ih (i + 1) _ (by omega) (by omega) (tw_fr.si (tw_fr.tn f0 f1 (fun q j h => h) (fun q j h => by unfold tm_S7 at h; unfold tm_S8; omega)) (by unfold tm_S8; omega)) (e1.tk (i + 1))
theorem tm_goes {σ : rx_St} {st : Nat → Int32} {seed : Int32} {lv t : Nat} (ht : t ≤ 40) (hM : tm_MW W lv σ) (hT : tm_T W N pl bg dl σ) (hst : ∀ i, i < W.1.length → σ.1 134 i = st i) :
    tw_ok (f_m_goes seed (nI t) σ) (fun σ' => tw_fr tm_S8 σ σ' ∧ tm_env W N (st, seed, t) (tw_run W N dl st seed tw_plain (tw_R0 pl bg) t) σ') := by
  unfold f_m_goes
  refine tw_b (tm_begins (lv := lv) hT hst) (fun σ1 h => ?_)
  obtain ⟨f1, e1⟩ := h
  have f2 : tw_fr tm_S8 σ (rx_si σ1 87 79 (nI 0)) := f1.si (by unfold tm_S8; omega)
  exact tm_goes_l ht hM hT.2.2.1 (tw_R0 pl bg) rx_fu 0 _ (Nat.zero_le _) (by unfold rx_fu; omega) f2 (e1 0)
theorem tm_fig_l {E : tw_E} {R : tw_R} {σ : rx_St} (e : tm_env W N E R σ) {k v : Nat} (hk : k < W.2.length) (hv : v < tw_vc W k) :
    ∀ fuel i, i ≤ N.1 → N.1 - i < fuel → f_m_figureOf_12 fuel (nI k) (nI v) (tw_sum (fun q => N.2.1 q == k) (fun q => R.1 (6 * q + v) * nI (N.2.2 q)) i) (nI i) σ = some (tw_fig N R k v, σ) := by
  obtain ⟨⟨h1, h2⟩, h3, -, -, -, h7⟩ := e
  have hW := h7.2.1
  have hv6 := (h7.2.2 k hk).1
  intro fuel
  induction fuel with
  | zero => intro i _ h; exact absurd h (Nat.not_lt_zero _)
  | succ m ih =>
    intro i hi hf
    rw [f_m_figureOf_12]
    by_cases hin : i = N.1
    · subst hin
      simp (disch := omega) only [tw_L, tw_gN, tw_cl, tw_le, tw_lt, tw_eq, nI_add, pk_mul, tw_sub, tw_B0, tw_B1, tw_nb0, tw_nb1, tw_r1s, tw_r1n, if_true, if_false, Nat.le_refl, Nat.reduceEqDiff, Nat.reduceLeDiff, Nat.reduceLT, reduceIte, h1]
      rfl
    · obtain ⟨⟨g1, g2⟩, g3, ⟨g4, g5⟩, g6, g7⟩ := h3 i (by omega)
      have ih' := ih (i + 1) (by omega) (by omega)
      rw [tw_sum] at ih'
      simp (disch := omega) only [tw_L, tw_gN, tw_cl, tw_le, tw_lt, tw_eq, nI_add, pk_mul, tw_sub, tw_B0, tw_B1, tw_nb0, tw_nb1, tw_r1s, tw_r1n, if_true, if_false, Nat.le_refl, Nat.reduceEqDiff, Nat.reduceLeDiff, Nat.reduceLT, reduceIte, h1, g1, g3, f_m_figureOf_58]
      rw [if_neg (by omega)]
      by_cases hq : N.2.1 i = k
      · rw [if_pos hq, g7 v (by rw [hq]; exact hv)]
        simp only [hq, beq_self_eq_true, if_true] at ih'
        exact ih'
      · rw [if_neg hq]
        simp only [beq_iff_eq, hq, if_false] at ih'
        exact ih'
theorem tm_figureOf {σ : rx_St} {st : Nat → Int32} {seed : Int32} {lv t k v : Nat} (ht : t ≤ 40) (hM : tm_MW W lv σ) (hT : tm_T W N pl bg dl σ) (hst : ∀ i, i < W.1.length → σ.1 134 i = st i) (hk : k < W.2.length) (hv : v < tw_vc W k) :
    tw_ok (f_m_figureOf seed (nI t) (nI k) (nI v) σ) (fun y => y.1 = tw_fig N (tw_run W N dl st seed tw_plain (tw_R0 pl bg) t) k v ∧ tw_fr tm_S8 σ y.2) := by
  unfold f_m_figureOf
  refine tw_b (tm_goes ht hM hT hst) (fun σ1 h => ?_)
  have h20 := hT.1.2
  refine ⟨_, tm_fig_l h.2 hk hv rx_fu 0 (Nat.zero_le _) (by unfold rx_fu; omega), rfl, h.1⟩
theorem tm_takes_l (σ0 : rx_St) : ∀ (fuel i : Nat) (σ : rx_St), i ≤ 6 → 6 - i < fuel → tw_fr (fun q _ => q = 134) σ0 σ → (∀ j, j < i → σ.1 134 j = σ0.1 129 j) →
    tw_ok (f_m_takesNumbers_2 fuel (nI i) σ) (fun σ' => tw_fr (fun q _ => q = 134) σ0 σ' ∧ ∀ j, j < 6 → σ'.1 134 j = σ0.1 129 j) := by
  intro fuel
  induction fuel with
  | zero => intro i σ _ h; exact absurd h (Nat.not_lt_zero _)
  | succ m ih =>
    intro i σ hi hf f0 ha
    rw [f_m_takesNumbers_2]
    simp (disch := omega) only [tw_L, tw_gN, tw_cl, tw_le, tw_lt, tw_eq, nI_add, pk_mul, tw_sub, tw_B0, tw_B1, tw_nb0, tw_nb1, tw_r1s, tw_r1n, if_true, if_false, Nat.le_refl, Nat.reduceEqDiff, Nat.reduceLeDiff, Nat.reduceLT, reduceIte]
    by_cases hin : i = 6
    · subst hin
      rw [if_pos (by decide), tw_some]
      exact ⟨f0, ha⟩
    · rw [if_neg (by omega), f0.i (show ¬ 129 = 134 by decide)]
      refine ih (i + 1) _ (by omega) (by omega) (f0.si rfl) (fun j hj => ?_)
      by_cases e : j = i
      · subst e; rw [tw_r1s]
      · rw [tw_r1n _ _ (by omega)]; exact ha j (by omega)
theorem tm_takes (σ : rx_St) : tw_ok (f_m_takesNumbers σ) (fun σ' => tw_fr (fun q _ => q = 134) σ σ' ∧ ∀ j, j < 6 → σ'.1 134 j = σ.1 129 j) :=
  tm_takes_l σ rx_fu 0 σ (Nat.zero_le _) (by unfold rx_fu; omega) tw_fr.rf (fun j hj => absurd hj (Nat.not_lt_zero _))
end TM9
