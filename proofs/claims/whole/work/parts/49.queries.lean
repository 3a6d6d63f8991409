/-! QUERIES: what ONES, FIGURES, TICKS are there, on both sides; state, at, figure, wishes -/
theorem tq_nn {x : Int32} (h : ¬ x < nI 0) : ∃ n, x = nI n ∧ n < 2147483648 := by
  have hx := tw_rng x
  have h0 : 0 ≤ x.toInt := by
    have := Int32.not_lt.mp h
    rw [Int32.le_iff_toInt_le, show (nI 0).toInt = 0 from rfl] at this
    exact this
  refine ⟨x.toInt.toNat, Int32.toInt_inj.mp ?_, by omega⟩
  rw [nI_toInt (by omega)]
  omega
theorem tq_time (x : Int32) : f_c_isTime x = nI 0 ∧ f_m_isTicks x = nI 0 ∨ ∃ t, t ≤ 40 ∧ x = nI t ∧ f_c_isTime x = nI 1 ∧ f_m_isTicks x = nI 1 := by
  have e : f_m_isTicks x = f_c_isTime x := rfl
  rw [e]
  by_cases h : x < nI 0
  · have : f_c_isTime x = nI 0 := by unfold f_c_isTime; exact if_pos h
    exact Or.inl ⟨this, this⟩
  · obtain ⟨n, rfl, hn⟩ := tq_nn h
    by_cases c : 40 < n
    · have : f_c_isTime (nI n) = nI 0 := by
        unfold f_c_isTime
        simp (disch := omega) only [tw_L, tw_gN, tw_cl, tw_le, tw_lt, tw_eq, nI_add, pk_mul, tw_sub, tw_B0, tw_B1, tw_nb0, tw_nb1, tw_r1s, tw_r1n, if_true, if_false, Nat.le_refl, Nat.reduceEqDiff, Nat.reduceLeDiff, Nat.reduceLT, reduceIte]
        rw [if_neg (by omega), if_pos c]
      exact Or.inl ⟨this, this⟩
    · have : f_c_isTime (nI n) = nI 1 := by
        unfold f_c_isTime
        simp (disch := omega) only [tw_L, tw_gN, tw_cl, tw_le, tw_lt, tw_eq, nI_add, pk_mul, tw_sub, tw_B0, tw_B1, tw_nb0, tw_nb1, tw_r1s, tw_r1n, if_true, if_false, Nat.le_refl, Nat.reduceEqDiff, Nat.reduceLeDiff, Nat.reduceLT, reduceIte]
        rw [if_neg (by omega), if_neg c]
      exact Or.inr ⟨n, by omega, rfl, this, this⟩
theorem tq_one (a : Int32) {σ σ' : rx_St} {n : Nat} (h : σ.1 38 2 = nI n) (h' : σ'.1 87 60 = nI n) (hn : n ≤ 20) : f_tow_hasOne a σ = nI 0 ∧ f_m_isOne a σ' = nI 0 ∨ ∃ o, o < n ∧ a = nI o ∧ f_tow_hasOne a σ = nI 1 ∧ f_m_isOne a σ' = nI 1 := by
  have e : f_m_isOne a σ' = f_tow_hasOne a σ := by unfold f_m_isOne f_tow_hasOne; rw [h, h']
  rw [e]
  by_cases c0 : a < nI 0
  · have : f_tow_hasOne a σ = nI 0 := by unfold f_tow_hasOne; exact if_pos c0
    exact Or.inl ⟨this, this⟩
  · obtain ⟨o, rfl, ho⟩ := tq_nn c0
    by_cases c : n ≤ o
    · have : f_tow_hasOne (nI o) σ = nI 0 := by
        unfold f_tow_hasOne
        simp (disch := omega) only [tw_L, tw_gN, tw_cl, tw_le, tw_lt, tw_eq, nI_add, pk_mul, tw_sub, tw_B0, tw_B1, tw_nb0, tw_nb1, tw_r1s, tw_r1n, if_true, if_false, Nat.le_refl, Nat.reduceEqDiff, Nat.reduceLeDiff, Nat.reduceLT, reduceIte, h]
        rw [if_neg (by omega), if_pos c]
      exact Or.inl ⟨this, this⟩
    · have : f_tow_hasOne (nI o) σ = nI 1 := by
        unfold f_tow_hasOne
        simp (disch := omega) only [tw_L, tw_gN, tw_cl, tw_le, tw_lt, tw_eq, nI_add, pk_mul, tw_sub, tw_B0, tw_B1, tw_nb0, tw_nb1, tw_r1s, tw_r1n, if_true, if_false, Nat.le_refl, Nat.reduceEqDiff, Nat.reduceLeDiff, Nat.reduceLT, reduceIte, h]
        rw [if_neg (by omega), if_neg c]
      exact Or.inr ⟨o, by omega, rfl, this, this⟩
theorem tq_ite0 {α : Type} {c : Prop} [Decidable c] {z y : α} (h : y = z) : (if c then z else y) = z := by rw [h]; exact ite_self _
section TQ
variable {w : Nat} {W : tw_Wo} {lv : Nat} {N : tw_N} {pl : Nat → Nat} {bg : Nat → Int32} {dl : Bool} {st : Nat → Int32}
/-- is it a VAR of a KIND: both sides say the same -/
theorem tq_var (a b : Int32) {σ σ' : rx_St} (hw : w ≤ 1) (hW : tw_wok W) (hc : tc_WN w W σ) (hm : tm_MW W lv σ') :
    f_wor_hasVar w a b σ = some (nI 0) ∧ (∀ x, f_m_isFigure x a b σ' = some (nI 0)) ∨ ∃ k v, k < W.2.length ∧ v < tw_vc W k ∧ a = nI k ∧ b = nI v ∧ f_wor_hasVar w a b σ = some (nI 1) ∧ ∀ t, t ≤ 40 → f_m_isFigure (nI t) a b σ' = some (nI 1) := by
  obtain ⟨m1, m2, m3, m4, m5, m6⟩ := hm
  have hk5 := hW.2.1
  by_cases ca : a < nI 0
  · refine Or.inl ⟨?_, fun x => ?_⟩
    · unfold f_wor_hasVar
      rw [show f_wor_hasKind w a σ = nI 0 by unfold f_wor_hasKind; exact if_pos ca]
      exact if_pos rfl
    · unfold f_m_isFigure
      rw [if_pos (show a < (0 : Int32) from ca)]
      exact ite_self _
  · obtain ⟨k, rfl, hk⟩ := tq_nn ca
    by_cases ck : W.2.length ≤ k
    · have e1 : f_wor_hasKind w (nI k) σ = nI 0 := by
        unfold f_wor_hasKind
        simp (disch := omega) only [tw_L, tw_gN, tw_cl, tw_le, tw_lt, tw_eq, nI_add, pk_mul, tw_sub, tw_B0, tw_B1, tw_nb0, tw_nb1, tw_r1s, tw_r1n, if_true, if_false, Nat.le_refl, Nat.reduceEqDiff, Nat.reduceLeDiff, Nat.reduceLT, reduceIte, hc.1]
        rw [if_neg (by omega), if_pos ck]
      refine Or.inl ⟨?_, fun x => ?_⟩
      · unfold f_wor_hasVar
        rw [e1]
        exact if_pos rfl
      · unfold f_m_isFigure
        refine tq_ite0 ?_
        simp (disch := omega) only [tw_L, tw_gN, tw_cl, tw_le, tw_lt, tw_eq, nI_add, pk_mul, tw_sub, tw_B0, tw_B1, tw_nb0, tw_nb1, tw_r1s, tw_r1n, if_true, if_false, Nat.le_refl, Nat.reduceEqDiff, Nat.reduceLeDiff, Nat.reduceLT, reduceIte, m2, m5]
        rw [if_neg (by omega), if_pos ck]
    · have hk : k < W.2.length := by omega
      have e1 : f_wor_hasKind w (nI k) σ = nI 1 := by
        unfold f_wor_hasKind
        simp (disch := omega) only [tw_L, tw_gN, tw_cl, tw_le, tw_lt, tw_eq, nI_add, pk_mul, tw_sub, tw_B0, tw_B1, tw_nb0, tw_nb1, tw_r1s, tw_r1n, if_true, if_false, Nat.le_refl, Nat.reduceEqDiff, Nat.reduceLeDiff, Nat.reduceLT, reduceIte, hc.1]
        rw [if_neg (by omega), if_neg ck]
      have e2 := hc.2 k hk
      have e3 : σ'.1 100 (5 * lv + k) = nI (tw_vc W k) := (m6 k hk).1
      have hv6 := (hW.2.2 k hk).1
      by_cases cb : b < nI 0
      · refine Or.inl ⟨?_, fun x => ?_⟩
        · unfold f_wor_hasVar
          rw [e1, if_neg (by decide)]
          exact if_pos cb
        · unfold f_m_isFigure
          refine tq_ite0 ?_
          rw [if_pos (show b < (0 : Int32) from cb)]
          simp (disch := omega) only [tw_L, tw_gN, tw_cl, tw_le, tw_lt, tw_eq, nI_add, pk_mul, tw_sub, tw_B0, tw_B1, tw_nb0, tw_nb1, tw_r1s, tw_r1n, if_true, if_false, Nat.le_refl, Nat.reduceEqDiff, Nat.reduceLeDiff, Nat.reduceLT, reduceIte, m2, m5]
          rw [if_neg (by omega), if_neg ck]
      · obtain ⟨v, rfl, hv⟩ := tq_nn cb
        by_cases cv : tw_vc W k ≤ v
        · refine Or.inl ⟨?_, fun x => ?_⟩
          · unfold f_wor_hasVar
            rw [e1, if_neg (by decide)]
            simp (disch := omega) only [tw_L, tw_gN, tw_cl, tw_le, tw_lt, tw_eq, nI_add, pk_mul, tw_sub, tw_B0, tw_B1, tw_nb0, tw_nb1, tw_r1s, tw_r1n, if_true, if_false, Nat.le_refl, Nat.reduceEqDiff, Nat.reduceLeDiff, Nat.reduceLT, reduceIte, e2]
            rw [if_neg (by omega), if_pos cv]
          · unfold f_m_isFigure
            refine tq_ite0 ?_
            simp (disch := omega) only [tw_L, tw_gN, tw_cl, tw_le, tw_lt, tw_eq, nI_add, pk_mul, tw_sub, tw_B0, tw_B1, tw_nb0, tw_nb1, tw_r1s, tw_r1n, if_true, if_false, Nat.le_refl, Nat.reduceEqDiff, Nat.reduceLeDiff, Nat.reduceLT, reduceIte, m2, m5, e3]
            rw [if_neg (by omega), if_neg ck, if_neg (by omega), if_pos cv]
        · refine Or.inr ⟨k, v, hk, by omega, rfl, rfl, ?_, fun t ht => ?_⟩
          · unfold f_wor_hasVar
            rw [e1, if_neg (by decide)]
            simp (disch := omega) only [tw_L, tw_gN, tw_cl, tw_le, tw_lt, tw_eq, nI_add, pk_mul, tw_sub, tw_B0, tw_B1, tw_nb0, tw_nb1, tw_r1s, tw_r1n, if_true, if_false, Nat.le_refl, Nat.reduceEqDiff, Nat.reduceLeDiff, Nat.reduceLT, reduceIte, e2]
            rw [if_neg (by omega), if_neg cv]
          · have et : f_m_isTicks (nI t) = nI 1 := by
              unfold f_m_isTicks
              simp (disch := omega) only [tw_L, tw_gN, tw_cl, tw_le, tw_lt, tw_eq, nI_add, pk_mul, tw_sub, tw_B0, tw_B1, tw_nb0, tw_nb1, tw_r1s, tw_r1n, if_true, if_false, Nat.le_refl, Nat.reduceEqDiff, Nat.reduceLeDiff, Nat.reduceLT, reduceIte]
              rw [if_neg (by omega), if_neg (by omega)]
            unfold f_m_isFigure
            rw [et]
            simp (disch := omega) only [tw_L, tw_gN, tw_cl, tw_le, tw_lt, tw_eq, nI_add, pk_mul, tw_sub, tw_B0, tw_B1, tw_nb0, tw_nb1, tw_r1s, tw_r1n, if_true, if_false, Nat.le_refl, Nat.reduceEqDiff, Nat.reduceLeDiff, Nat.reduceLT, reduceIte, m2, m5, e3]
            rw [if_neg (by omega), if_neg ck, if_neg (by omega), if_neg cv]
/-- THE WORLD and its ONES, in the class's rows and in the model's -/
def tq_T (w : Nat) (W : tw_Wo) (lv : Nat) (N : tw_N) (pl : Nat → Nat) (bg : Nat → Int32) (dl : Bool) (st : Nat → Int32) (σ : rx_St) : Prop :=
  (tc_T W N pl bg dl σ ∧ tc_WR w W σ ∧ ∀ i, i < W.1.length → σ.1 39 i = st i) ∧ (tm_T W N pl bg dl σ ∧ tm_MW W lv σ ∧ ∀ i, i < W.1.length → σ.1 129 i = st i) ∧ w ≤ 1
/-- places that queries write -/
def tq_S (q j : Nat) : Prop := 45 ≤ q ∧ q ≤ 50 ∨ 52 ≤ q ∧ q ≤ 70 ∨ q = 51 ∧ 6 ≤ j ∧ j ≤ 9 ∨ 134 ≤ q ∧ q ≤ 146 ∨ q = 87 ∧ (j = 0 ∨ 78 ≤ j ∧ j ≤ 83)
theorem tq_T.fr {σ σ' : rx_St} (h : tq_T w W lv N pl bg dl st σ) (f : tw_fr tq_S σ σ') : tq_T w W lv N pl bg dl st σ' := by
  obtain ⟨⟨h1, h2, h3⟩, ⟨h4, h5, h6⟩, h7⟩ := h
  have hs := h4.2.2.2.1
  exact ⟨⟨h1.fr (fun q j a b c => f.i (by unfold tq_S; omega)), h2.fr (fun q j a b => f.i (by unfold tq_S; omega)), fun i hi => by rw [f.i (by unfold tq_S; omega)]; exact h3 i hi⟩, ⟨h4.fr (fun q j a b => f.i (by unfold tq_S; omega)) (f.i (by unfold tq_S; omega)) (f.i (by unfold tq_S; omega)), h5.fr (fun q j a b => f.i (by unfold tq_S; omega)) (f.i (by unfold tq_S; omega)), fun i hi => by rw [f.i (by unfold tq_S; omega)]; exact h6 i hi⟩, h7⟩
theorem tq_SR : ∀ q j, tc_SR 0 q j → tq_S q j := fun q j h => by unfold tc_SR at h; unfold tq_S; omega
theorem tq_S8 : ∀ q j, tm_S8 q j → tq_S q j := fun q j h => by unfold tm_S8 at h; unfold tq_S; omega
theorem tq_thr {σ : rx_St} (h : tq_T w W lv N pl bg dl st σ) (x : Int32) : tq_T w W lv N pl bg dl st (rx_si σ 87 0 x) ∧ tw_fr tq_S σ (rx_si σ 87 0 x) := by
  have f : tw_fr tq_S σ (rx_si σ 87 0 x) := tw_fr.rf.si (by unfold tq_S; omega)
  exact ⟨h.fr f, f⟩
/-- the model takes the SETTINGS as they are, and goes -/
theorem tq_mgo {σ : rx_St} {seed : Int32} {t : Nat} (ht : t ≤ 40) (h : tq_T w W lv N pl bg dl st σ) :
    tw_ok (f_m_takesNumbers σ) (fun σ1 => tw_fr (fun q _ => q = 134) σ σ1 ∧ (∀ i, i < W.1.length → σ1.1 134 i = st i) ∧ tm_T W N pl bg dl σ1 ∧ tm_MW W lv σ1 ∧ tw_ok (f_m_goes seed (nI t) σ1) (fun σ' => tw_fr tm_S8 σ1 σ' ∧ tm_env W N (st, seed, t) (tw_run W N dl st seed tw_plain (tw_R0 pl bg) t) σ')) := by
  obtain ⟨-, ⟨h4, h5, h6⟩, h7⟩ := h
  refine tw_mono (tm_takes σ) (fun σ1 k => ?_)
  obtain ⟨f, g⟩ := k
  have hs6 := h4.2.2.2.1
  have hst : ∀ i, i < W.1.length → σ1.1 134 i = st i := fun i hi => by rw [g i (by omega)]; exact h6 i hi
  have t1 : tm_T W N pl bg dl σ1 := h4.fr (fun q j a b => f.i (by omega)) (f.i (by omega)) (f.i (by omega))
  have m1 : tm_MW W lv σ1 := h5.fr (fun q j a b => f.i (by omega)) (f.i (by omega))
  exact ⟨f, hst, t1, m1, tm_goes ht m1 t1 hst⟩
/-- what a query must do -/
def tq_ok {α : Type} (x : Option (α × rx_St)) (y : rx_St → Option (α × rx_St)) (σ : rx_St) : Prop := ∃ o1 o2, x = some o1 ∧ y o1.2 = some o2 ∧ o1.1 = o2.1 ∧ tw_fr tq_S σ o2.2
theorem tq_figure {σ : rx_St} (h : tq_T w W lv N pl bg dl st σ) (seed a1 a2 a3 : Int32) : tq_ok (f_c_figure w seed a1 a2 a3 σ) (f_m_figure seed a1 a2 a3) σ := by
  obtain ⟨⟨h1, h2, h3⟩, ⟨h4, h5, h6⟩, hw⟩ := id h
  have hWN : tc_WN w W σ := by obtain ⟨_, _, g, _⟩ := h2; exact g
  have hW := h4.2.2.2
  have thr := tq_thr h (nI 0)
  rcases tq_time a1 with ⟨c1, c2⟩ | ⟨t, ht, rfl, c1, c2⟩
  · refine ⟨((-1000000000 : Int32), σ), ((-1000000000 : Int32), rx_si σ 87 0 (nI 0)), ?_, ?_, rfl, thr.2⟩
    · unfold f_c_figure
      rw [c1]
      exact if_pos rfl
    · unfold f_m_figure f_m_isFigure
      rw [c2]
      rfl
  · rcases tq_var a2 a3 (σ := σ) (σ' := rx_si σ 87 0 (nI 0)) hw hW hWN thr.1.2.1.2.1 with ⟨d1, d2⟩ | ⟨k, v, hk, hv, rfl, rfl, d1, d2⟩
    · refine ⟨((-1000000000 : Int32), σ), ((-1000000000 : Int32), rx_si σ 87 0 (nI 0)), ?_, ?_, rfl, thr.2⟩
      · unfold f_c_figure
        rw [c1, d1]
        rfl
      · unfold f_m_figure
        show ((f_m_isFigure (nI t) a2 a3 (rx_si σ 87 0 (nI 0))).bind _) = _
        rw [d2]
        rfl
    · have hv6 := (hW.2.2 k hk).1
      obtain ⟨σ1, e1, f1, g1, -⟩ := tc_goPlain (r := 0) (seed := seed) (show t < 1000 by omega) (by omega) hw h1 h2 h3
      have e2 := tc_total g1 hk (show v < 6 by omega)
      have hT1 : tq_T w W lv N pl bg dl st σ1 := h.fr (f1.mn tq_SR)
      have thr1 := tq_thr hT1 (nI 0)
      obtain ⟨σ2, e3, f3, k1, k2, k3, -⟩ := tq_mgo (seed := seed) ht thr1.1
      obtain ⟨y, e4, y1, y2⟩ := tm_figureOf (seed := seed) ht k3 k2 k1 hk hv
      refine ⟨(tw_fig N (tw_run W N dl st seed tw_plain (tw_R0 pl bg) t) k v, σ1), y, ?_, ?_, y1.symm, ?_⟩
      · unfold f_c_figure
        rw [c1, d1, e1]
        show ((f_run_total 0 (nI k) (nI v) σ1).bind _) = _
        rw [e2]
        rfl
      · unfold f_m_figure
        have d3 : f_m_isFigure (nI t) (nI k) (nI v) (rx_si σ1 87 0 (nI 0)) = some (nI 1) := by
          rcases tq_var (nI k) (nI v) (σ := σ) (σ' := rx_si σ1 87 0 (nI 0)) hw hW hWN thr1.1.2.1.2.1 with ⟨z1, -⟩ | ⟨_, _, _, _, _, _, _, z2⟩
          · rw [d1] at z1
            exact absurd (Option.some.inj z1) (by decide)
          · exact z2 t ht
        show ((f_m_isFigure (nI t) (nI k) (nI v) (rx_si σ1 87 0 (nI 0))).bind _) = _
        rw [d3, Option.bind_some, if_neg (show ¬ nI 1 = (0 : Int32) by decide)]
        have e3' : f_m_takesNumbers (rx_si (tw_fig N (tw_run W N dl st seed tw_plain (tw_R0 pl bg) t) k v, σ1).2 87 0 (0 : Int32)) = some σ2 := e3
        rw [e3', Option.bind_some, e4, Option.bind_some]
      · exact (((f1.mn tq_SR).tr thr1.2).tr (f3.mn (fun q j h => by unfold tq_S; omega))).tr (y2.mn tq_S8)
end TQ
