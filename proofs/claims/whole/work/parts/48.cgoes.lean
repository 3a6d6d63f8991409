/-! THE CLASS'S RUNS: from the beginning, t TICKS; FIGURES -/
section TC9
variable {r w : Nat} {W : tw_Wo} {N : tw_N} {pl : Nat → Nat} {bg : Nat → Int32} {dl : Bool}
/-- the class's rows of ONES as they begin, SETTINGS as they are -/
def tc_T (W : tw_Wo) (N : tw_N) (pl : Nat → Nat) (bg : Nat → Int32) (dl : Bool) (σ : rx_St) : Prop :=
  (σ.1 38 2 = nI N.1 ∧ N.1 ≤ 20) ∧ (∀ q, q < N.1 → (σ.1 40 q = nI (N.2.1 q) ∧ N.2.1 q < W.2.length) ∧ σ.1 42 q = nI (N.2.2 q) ∧ (σ.1 41 q = nI (pl q) ∧ pl q < 10) ∧ ∀ v, v < 6 → σ.1 43 (6 * q + v) = bg (6 * q + v)) ∧ σ.1 38 7 = tw_B dl ∧ tw_wok W
theorem tc_T.fr {σ σ' : rx_St} (h : tc_T W N pl bg dl σ) (f : ∀ q j, 38 ≤ q → q ≤ 43 → (q = 38 → j = 2 ∨ j = 7) ∧ q ≠ 39 → σ'.1 q j = σ.1 q j) : tc_T W N pl bg dl σ' := by
  obtain ⟨⟨h1, h2⟩, h3, h4, h5⟩ := h
  refine ⟨⟨by rw [f _ _ (by omega) (by omega) (by omega)]; exact h1, h2⟩, fun q hq => ?_, by rw [f _ _ (by omega) (by omega) (by omega)]; exact h4, h5⟩
  obtain ⟨⟨g1, g2⟩, g3, ⟨g4, g5⟩, g7⟩ := h3 q hq
  exact ⟨⟨by rw [f _ _ (by omega) (by omega) (by omega)]; exact g1, g2⟩, by rw [f _ _ (by omega) (by omega) (by omega)]; exact g3, ⟨by rw [f _ _ (by omega) (by omega) (by omega)]; exact g4, g5⟩, fun v hv => by rw [f _ _ (by omega) (by omega) (by omega)]; exact g7 v hv⟩
/-- places written by a RUN -/
def tc_SR (r q j : Nat) : Prop := 57 + 7 * r ≤ q ∧ q ≤ 63 + 7 * r ∨ 45 ≤ q ∧ q ≤ 50 ∨ 52 ≤ q ∧ q ≤ 56 ∨ q = 51 ∧ 6 ≤ j ∧ j ≤ 9
theorem tc_S11R : ∀ q j, tc_S11 r q j → tc_SR r q j := fun q j h => by unfold tc_S11 tc_S10 tc_S4 tc_S2 at h; unfold tc_SR; omega
theorem tc_r90 {n : Nat} (hn : n ≤ 20) (hr : r ≤ 1) {σ0 : rx_St} (h1 : σ0.1 38 2 = nI n) (Q : rx_St → Prop) (hQ : ∀ σ', tw_fr (fun q _ => q = 59 + 7 * r) σ0 σ' → (∀ j, j < n * 6 → σ'.1 (59 + 7 * r) j = σ0.1 43 j) → Q σ') : tw_ok (f_run_restart_90 r w rx_fu (nI 0) σ0) Q := by
  refine tw_lp (fun fu i σ => f_run_restart_90 r w fu (nI i) σ) (fun i σ => tw_fr (fun q _ => q = 59 + 7 * r) σ0 σ ∧ ∀ j, j < i → σ.1 (59 + 7 * r) j = σ0.1 43 j) (n * 6) Q ?_ ?_ rx_fu 0 σ0 (by show _ < 100000; omega) (Nat.zero_le _) ⟨tw_fr.rf, fun j hj => absurd hj (Nat.not_lt_zero _)⟩
  · intro m i σ hi h0 next
    obtain ⟨f0, ha⟩ := h0
    have e1 : σ.1 38 2 = nI n := (f0.i (by omega)).trans h1
    have e2 : σ.1 43 i = σ0.1 43 i := f0.i (by omega)
    rw [f_run_restart_90]
    simp (disch := omega) only [tw_L, tw_gN, tw_cl, tw_le, tw_lt, tw_eq, nI_add, pk_mul, tw_sub, tw_B0, tw_B1, tw_nb0, tw_nb1, tw_r1s, tw_r1n, if_true, if_false, Nat.le_refl, Nat.reduceEqDiff, Nat.reduceLeDiff, Nat.reduceLT, reduceIte, e1, e2]
    rw [if_neg (by omega)]
    refine next _ ⟨f0.si rfl, fun j hj => ?_⟩
    rw [tw_r1]
    by_cases e : j = i
    · rw [if_pos ⟨rfl, e⟩, e]
    · rw [if_neg (fun h => e h.2)]; exact ha j (by omega)
  · intro m σ h0
    obtain ⟨f0, ha⟩ := h0
    have e1 : σ.1 38 2 = nI n := (f0.i (by omega)).trans h1
    rw [f_run_restart_90]
    simp (disch := omega) only [tw_L, tw_gN, tw_cl, tw_le, tw_lt, tw_eq, nI_add, pk_mul, tw_sub, tw_B0, tw_B1, tw_nb0, tw_nb1, tw_r1s, tw_r1n, if_true, if_false, Nat.le_refl, Nat.reduceEqDiff, Nat.reduceLeDiff, Nat.reduceLT, reduceIte, e1]
    rw [tw_some]
    exact hQ σ f0 ha
theorem tc_r49 {n : Nat} (hn : n ≤ 20) (hr : r ≤ 1) {σ0 : rx_St} (h1 : σ0.1 38 2 = nI n) (Q : rx_St → Prop) (hQ : ∀ σ', tw_fr (fun q _ => 59 + 7 * r ≤ q ∧ q ≤ 61 + 7 * r) σ0 σ' → (∀ j, j < n * 6 → σ'.1 (59 + 7 * r) j = σ0.1 43 j) → (∀ j, j < n → σ'.1 (60 + 7 * r) j = σ0.1 41 j ∧ σ'.1 (61 + 7 * r) j = nI 0) → Q σ') : tw_ok (f_run_restart_49 r w rx_fu (nI 0) σ0) Q := by
  refine tw_lp (fun fu i σ => f_run_restart_49 r w fu (nI i) σ) (fun i σ => tw_fr (fun q _ => q = 60 + 7 * r ∨ q = 61 + 7 * r) σ0 σ ∧ ∀ j, j < i → σ.1 (60 + 7 * r) j = σ0.1 41 j ∧ σ.1 (61 + 7 * r) j = nI 0) n Q ?_ ?_ rx_fu 0 σ0 (by show _ < 100000; omega) (Nat.zero_le _) ⟨tw_fr.rf, fun j hj => absurd hj (Nat.not_lt_zero _)⟩
  · intro m i σ hi h0 next
    obtain ⟨f0, ha⟩ := h0
    have e1 : σ.1 38 2 = nI n := (f0.i (by omega)).trans h1
    have e2 : σ.1 41 i = σ0.1 41 i := f0.i (by omega)
    rw [f_run_restart_49]
    simp (disch := omega) only [tw_L, tw_gN, tw_cl, tw_le, tw_lt, tw_eq, nI_add, pk_mul, tw_sub, tw_B0, tw_B1, tw_nb0, tw_nb1, tw_r1s, tw_r1n, if_true, if_false, Nat.le_refl, Nat.reduceEqDiff, Nat.reduceLeDiff, Nat.reduceLT, reduceIte, e1, e2]
    rw [if_neg (by omega)]
    refine next _ ⟨(f0.si (Or.inl rfl)).si (Or.inr rfl), fun j hj => ?_⟩
    by_cases e : j = i
    · rw [e]; exact ⟨by rw [tw_r1n _ _ (by omega), tw_r1s], tw_r1s _ _ _ _⟩
    · rw [tw_r1n _ _ (by omega), tw_r1n _ _ (by omega), tw_r1n _ _ (by omega), tw_r1n _ _ (by omega)]; exact ha j (by omega)
  · intro m σ h0
    obtain ⟨f0, ha⟩ := h0
    have e1 : σ.1 38 2 = nI n := (f0.i (by omega)).trans h1
    rw [f_run_restart_49]
    simp (disch := omega) only [tw_L, tw_gN, tw_cl, tw_le, tw_lt, tw_eq, nI_add, pk_mul, tw_sub, tw_B0, tw_B1, tw_nb0, tw_nb1, tw_r1s, tw_r1n, if_true, if_false, Nat.le_refl, Nat.reduceEqDiff, Nat.reduceLeDiff, Nat.reduceLT, reduceIte, e1]
    refine tc_r90 hn hr e1 Q (fun σ' f1 h2 => hQ σ' (tw_fr.tn f0 f1 (fun q j h => by omega) (fun q j h => by omega)) (fun j hj => ?_) (fun j hj => ?_))
    · rw [h2 j hj]; exact f0.i (by omega)
    · rw [f1.i (by omega), f1.i (by omega)]; exact ha j hj
theorem tc_r12 {n s : Nat} (hn : n ≤ 20) (hs : s ≤ 6) (hr : r ≤ 1) (hw : w ≤ 1) {σ0 : rx_St} (h1 : σ0.1 38 2 = nI n) (h0s : σ0.1 (7 + 14 * w) 0 = nI s) (Q : rx_St → Prop) (hQ : ∀ σ', tw_fr (fun q _ => 58 + 7 * r ≤ q ∧ q ≤ 61 + 7 * r) σ0 σ' → (∀ j, j < s → σ'.1 (58 + 7 * r) j = σ0.1 39 j) → (∀ j, j < n * 6 → σ'.1 (59 + 7 * r) j = σ0.1 43 j) → (∀ j, j < n → σ'.1 (60 + 7 * r) j = σ0.1 41 j ∧ σ'.1 (61 + 7 * r) j = nI 0) → Q σ') : tw_ok (f_run_restart_12 r w rx_fu (nI 0) σ0) Q := by
  refine tw_lp (fun fu i σ => f_run_restart_12 r w fu (nI i) σ) (fun i σ => tw_fr (fun q _ => q = 58 + 7 * r) σ0 σ ∧ ∀ j, j < i → σ.1 (58 + 7 * r) j = σ0.1 39 j) s Q ?_ ?_ rx_fu 0 σ0 (by show _ < 100000; omega) (Nat.zero_le _) ⟨tw_fr.rf, fun j hj => absurd hj (Nat.not_lt_zero _)⟩
  · intro m i σ hi h0 next
    obtain ⟨f0, ha⟩ := h0
    have e1 : σ.1 (7 + 14 * w) 0 = nI s := (f0.i (by omega)).trans h0s
    have e2 : σ.1 39 i = σ0.1 39 i := f0.i (by omega)
    rw [f_run_restart_12]
    simp (disch := omega) only [tw_L, tw_gN, tw_cl, tw_le, tw_lt, tw_eq, nI_add, pk_mul, tw_sub, tw_B0, tw_B1, tw_nb0, tw_nb1, tw_r1s, tw_r1n, if_true, if_false, Nat.le_refl, Nat.reduceEqDiff, Nat.reduceLeDiff, Nat.reduceLT, reduceIte, e1, e2]
    rw [if_neg (by omega)]
    refine next _ ⟨f0.si rfl, fun j hj => ?_⟩
    rw [tw_r1]
    by_cases e : j = i
    · rw [if_pos ⟨rfl, e⟩, e]
    · rw [if_neg (fun h => e h.2)]; exact ha j (by omega)
  · intro m σ h0
    obtain ⟨f0, ha⟩ := h0
    have e1 : σ.1 (7 + 14 * w) 0 = nI s := (f0.i (by omega)).trans h0s
    rw [f_run_restart_12]
    simp (disch := omega) only [tw_L, tw_gN, tw_cl, tw_le, tw_lt, tw_eq, nI_add, pk_mul, tw_sub, tw_B0, tw_B1, tw_nb0, tw_nb1, tw_r1s, tw_r1n, if_true, if_false, Nat.le_refl, Nat.reduceEqDiff, Nat.reduceLeDiff, Nat.reduceLT, reduceIte, e1]
    refine tc_r49 hn hr ((f0.i (by omega)).trans h1) Q (fun σ' f1 h2 h3 => hQ σ' (tw_fr.tn f0 f1 (fun q j h => by omega) (fun q j h => by omega)) (fun j hj => ?_) (fun j hj => ?_) (fun j hj => ?_))
    · rw [f1.i (by omega)]; exact ha j hj
    · rw [h2 j hj]; exact f0.i (by omega)
    · rw [(h3 j hj).1, (h3 j hj).2]; exact ⟨f0.i (by omega), rfl⟩
theorem tc_restart {σ : rx_St} {st : Nat → Int32} {seed : Int32} (hr : r ≤ 1) (hw : w ≤ 1) (hT : tc_T W N pl bg dl σ) (hs : σ.1 (7 + 14 * w) 0 = nI W.1.length) (hst : ∀ i, i < W.1.length → σ.1 39 i = st i) :
    tw_ok (f_run_restart r w seed σ) (fun σ' => tw_fr (fun q _ => 57 + 7 * r ≤ q ∧ q ≤ 61 + 7 * r) σ σ' ∧ tc_env r W N (st, seed, 0) (tw_R0 pl bg) σ') := by
  obtain ⟨⟨h1, h2⟩, h3, h4, h5⟩ := hT
  unfold f_run_restart
  have g : ∀ q j, q ≠ 57 + 7 * r → (rx_si (rx_si σ (57 + 7 * r) 9 seed) (57 + 7 * r) 10 (nI 0)).1 q j = σ.1 q j := fun q j h => by rw [tw_r1n _ _ (by omega), tw_r1n _ _ (by omega)]
  refine tc_r12 (σ0 := rx_si (rx_si σ (57 + 7 * r) 9 seed) (57 + 7 * r) 10 (nI 0)) h2 h5.1 hr hw (by rw [g _ _ (by omega)]; exact h1) (by rw [g _ _ (by omega)]; exact hs) _ (fun σ' f1 k1 k2 k3 => ⟨?_, ?_⟩)
  · exact tw_fr.tr (S := fun q _ => 57 + 7 * r ≤ q ∧ q ≤ 61 + 7 * r) ((tw_fr.rf.si (by omega)).si (by omega)) (f1.mn (fun q j h => by omega))
  · have gg : ∀ q j, q < 57 + 7 * r → σ'.1 q j = σ.1 q j := fun q j h => by rw [f1.i (by omega), g _ _ (by omega)]
    refine ⟨⟨by rw [gg _ _ (by omega)]; exact h1, h2⟩, fun q hq => ?_, fun i hi => ?_, ?_, ?_, h5, hr⟩
    · obtain ⟨⟨g1, g2⟩, g3, ⟨g4, g5⟩, g7⟩ := h3 q hq
      refine ⟨⟨by rw [gg _ _ (by omega)]; exact g1, g2⟩, by rw [gg _ _ (by omega)]; exact g3, ⟨?_, g5⟩, ?_, fun v hv => ?_⟩
      · rw [(k3 q hq).1, g _ _ (by omega)]; exact g4
      · rw [(k3 q hq).2]; rfl
      · rw [k2 _ (by omega), g _ _ (by omega)]; exact g7 v hv
    · rw [k1 i hi, g _ _ (by omega)]; exact hst i hi
    · rw [f1.i (by omega), tw_r1n _ _ (by omega), tw_r1s]
    · rw [f1.i (by omega), tw_r1s]
theorem tc_goPlain {σ : rx_St} {st : Nat → Int32} {seed : Int32} {t : Nat} (ht : t < 1000) (hr : r ≤ 1) (hw : w ≤ 1) (hT : tc_T W N pl bg dl σ) (hR : tc_WR w W σ) (hst : ∀ i, i < W.1.length → σ.1 39 i = st i) :
    tw_ok (f_run_goPlain r w seed (nI t) σ) (fun σ' => tw_fr (tc_SR r) σ σ' ∧ tc_env r W N (st, seed, t) (tw_run W N dl st seed tw_plain (tw_R0 pl bg) t) σ' ∧ ∀ t', t = t' + 1 → tc_all (tw_evs W N (st, seed, t') (tw_run W N dl st seed tw_plain (tw_R0 pl bg) t')) N.1 σ') := by
  have hs : σ.1 (7 + 14 * w) 0 = nI W.1.length := by obtain ⟨_, _, _, _, h⟩ := hR; exact h
  unfold f_run_goPlain f_run_goOn
  refine tw_b (tc_restart (w := w) hr hw hT hs hst) (fun σ1 h => ?_)
  obtain ⟨f1, e1⟩ := h
  have ht0 : σ1.1 (57 + 7 * r) 10 = nI 0 := e1.2.2.2.2.1
  rw [ht0]
  refine tw_b (tc_goOn (dl := dl) (σ0 := σ1) (R0 := tw_R0 pl bg) hw ht (hR.fr (fun q j a b => f1.i (by omega))) (by rw [f1.i (by omega)]; exact hT.2.2.1) rx_fu 0 σ1 (Nat.zero_le _) (by show _ < 100000; omega) e1 (fun t' e => absurd e (by omega)) tw_fr.rf) (fun σ2 h => ?_)
  rw [tw_some]
  exact ⟨tw_fr.tn f1 h.1 (fun q j h => by unfold tc_SR; omega) tc_S11R, h.2⟩
theorem tc_total {E : tw_E} {R : tw_R} {σ : rx_St} (e : tc_env r W N E R σ) {k v : Nat} (hk : k < W.2.length) (hv : v < 6) : f_run_total r (nI k) (nI v) σ = some (tw_fig N R k v) := by
  obtain ⟨⟨h1, h2⟩, h3, -, -, -, h7, -⟩ := e
  have hW := h7.2.1
  have main : ∀ fuel i, i ≤ N.1 → N.1 - i < fuel → f_run_total_5 r fuel (nI k) (nI v) (tw_sum (fun q => N.2.1 q == k) (fun q => R.1 (6 * q + v) * nI (N.2.2 q)) i) (nI i) σ = some (tw_fig N R k v) := by
    intro fuel
    induction fuel with
    | zero => intro i _ h; exact absurd h (Nat.not_lt_zero _)
    | succ m ih =>
      intro i hi hf
      rw [f_run_total_5]
      by_cases hin : i = N.1
      · subst hin
        simp (disch := omega) only [tw_L, tw_gN, tw_cl, tw_le, tw_lt, tw_eq, nI_add, pk_mul, tw_sub, tw_B0, tw_B1, tw_nb0, tw_nb1, tw_r1s, tw_r1n, if_true, if_false, Nat.le_refl, Nat.reduceEqDiff, Nat.reduceLeDiff, Nat.reduceLT, reduceIte, h1]
        rfl
      · obtain ⟨⟨g1, g2⟩, g3, ⟨g4, g5⟩, g6, g7⟩ := h3 i (by omega)
        have ih' := ih (i + 1) (by omega) (by omega)
        rw [tw_sum] at ih'
        simp (disch := omega) only [tw_L, tw_gN, tw_cl, tw_le, tw_lt, tw_eq, nI_add, pk_mul, tw_sub, tw_B0, tw_B1, tw_nb0, tw_nb1, tw_r1s, tw_r1n, if_true, if_false, Nat.le_refl, Nat.reduceEqDiff, Nat.reduceLeDiff, Nat.reduceLT, reduceIte, h1, g1, g3, f_run_total_57]
        rw [if_neg (by omega)]
        by_cases hq : N.2.1 i = k
        · rw [if_pos hq, show i * 6 + v = 6 * i + v by omega, g7 v hv]
          simp only [hq, beq_self_eq_true, if_true] at ih'
          exact ih'
        · rw [if_neg hq]
          simp only [beq_iff_eq, hq, if_false] at ih'
          exact ih'
  exact main rx_fu 0 (Nat.zero_le _) (by show _ < 100000; omega)
/-- a SETTING otherwise, in a RUN -/
theorem tc_env.st {σ : rx_St} {st : Nat → Int32} {seed : Int32} {t s : Nat} {R : tw_R} (he : tc_env r W N (st, seed, t) R σ) (x : Int32) : tc_env r W N (tw_updN st s x, seed, t) R (rx_si σ (58 + 7 * r) s x) := by
  obtain ⟨⟨h1, h2⟩, h3, h4, h5, h6, h7, h8⟩ := he
  refine ⟨⟨by rw [tw_r1n _ _ (by omega)]; exact h1, h2⟩, fun q hq => ?_, fun i hi => ?_, by rw [tw_r1n _ _ (by omega)]; exact h5, by rw [tw_r1n _ _ (by omega)]; exact h6, h7, h8⟩
  · obtain ⟨⟨g1, g2⟩, g3, ⟨g4, g5⟩, g6, g7⟩ := h3 q hq
    exact ⟨⟨by rw [tw_r1n _ _ (by omega)]; exact g1, g2⟩, by rw [tw_r1n _ _ (by omega)]; exact g3, ⟨by rw [tw_r1n _ _ (by omega)]; exact g4, g5⟩, by rw [tw_r1n _ _ (by omega)]; exact g6, fun v hv => by rw [tw_r1n _ _ (by omega)]; exact g7 v hv⟩
  · show _ = tw_updN st s x i
    unfold tw_updN
    rw [tw_r1]
    by_cases c : i = s
    · rw [if_pos ⟨rfl, c⟩, if_pos c]
    · rw [if_neg (fun h => c h.2), if_neg c]; exact h4 i hi
end TC9
