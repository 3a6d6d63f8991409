/-! QUERIES: state, at, wishes, lot -/
section TQ2
variable {w : Nat} {W : tw_Wo} {lv : Nat} {N : tw_N} {pl : Nat → Nat} {bg : Nat → Int32} {dl : Bool} {st : Nat → Int32}
/-- is it a VAR of a ONE: both sides say the same -/
theorem tq_ovar (a b : Int32) {σ σ' : rx_St} (h : tq_T w W lv N pl bg dl st σ) (h' : tq_T w W lv N pl bg dl st σ') :
    f_tow_oneHasVar w a b σ = some (nI 0) ∧ f_m_isVar a b σ' = some (nI 0) ∨ ∃ o v, o < N.1 ∧ v < tw_vc W (N.2.1 o) ∧ a = nI o ∧ b = nI v ∧ f_tow_oneHasVar w a b σ = some (nI 1) ∧ f_m_isVar a b σ' = some (nI 1) := by
  obtain ⟨⟨h1, h2, h3⟩, -, hw⟩ := h
  obtain ⟨-, ⟨h4, h5, h6⟩, -⟩ := h'
  obtain ⟨⟨c1, c2⟩, c3, c4, c5⟩ := id h1
  obtain ⟨⟨m1, m2⟩, m3, m4, m5⟩ := id h4
  obtain ⟨n1, n2, n3, n4, n5, n6⟩ := id h5
  have hWN : tc_WN w W σ := by obtain ⟨_, _, g, _⟩ := h2; exact g
  have hk5 := m5.2.1
  rcases tq_one a (σ := σ) (σ' := σ') c1 m1 c2 with ⟨d1, d2⟩ | ⟨o, ho, rfl, d1, d2⟩
  · refine Or.inl ⟨?_, ?_⟩
    · unfold f_tow_oneHasVar
      rw [d1]
      exact if_pos rfl
    · unfold f_m_isVar
      rw [d2]
      exact if_pos rfl
  · obtain ⟨⟨g1, g2⟩, g3, ⟨g4, g5⟩, g7⟩ := c3 o ho
    obtain ⟨⟨q1, q2⟩, q3, ⟨q4, q5⟩, q7⟩ := m3 o ho
    have e3 : σ'.1 100 (5 * lv + N.2.1 o) = nI (tw_vc W (N.2.1 o)) := (n6 _ g2).1
    have hv6 := (m5.2.2 _ g2).1
    have model : ∀ v, v < 2147483648 → f_m_isVar (nI o) (nI v) σ' = some (if tw_vc W (N.2.1 o) ≤ v then nI 0 else nI 1) := by
      intro v hv
      unfold f_m_isVar
      rw [d2, if_neg (by decide)]
      simp (disch := omega) only [tw_L, tw_gN, tw_cl, tw_le, tw_lt, tw_eq, nI_add, pk_mul, tw_sub, tw_B0, tw_B1, tw_nb0, tw_nb1, tw_r1s, tw_r1n, if_true, if_false, Nat.le_refl, Nat.reduceEqDiff, Nat.reduceLeDiff, Nat.reduceLT, reduceIte, n2, q1, e3]
      rw [if_neg (by omega)]
      by_cases c : tw_vc W (N.2.1 o) ≤ v
      · rw [if_pos c, if_pos c]
      · rw [if_neg c, if_neg c]
    rcases tq_var (nI (N.2.1 o)) b (σ := σ) (σ' := σ') hw m5 hWN h5 with ⟨z1, z2⟩ | ⟨k, v, hk, hv, e1, rfl, z1, z2⟩
    · refine Or.inl ⟨?_, ?_⟩
      · unfold f_tow_oneHasVar
        rw [d1, if_neg (by decide)]
        simp (disch := omega) only [tw_L, tw_gN, tw_cl, tw_le, tw_lt, tw_eq, nI_add, pk_mul, tw_sub, tw_B0, tw_B1, tw_nb0, tw_nb1, tw_r1s, tw_r1n, if_true, if_false, Nat.le_refl, Nat.reduceEqDiff, Nat.reduceLeDiff, Nat.reduceLT, reduceIte, g1, z1, Option.bind_some]
      · by_cases cb : b < nI 0
        · unfold f_m_isVar
          rw [d2, if_neg (by decide)]
          exact if_pos cb
        · obtain ⟨v, rfl, hv⟩ := tq_nn cb
          rw [model v hv]
          by_cases c : tw_vc W (N.2.1 o) ≤ v
          · rw [if_pos c]
          · exfalso
            have hh := hWN.2 _ g2
            have e1 : f_wor_hasVar w (nI (N.2.1 o)) (nI v) σ = some (nI 1) := by
              have ek : f_wor_hasKind w (nI (N.2.1 o)) σ = nI 1 := by
                unfold f_wor_hasKind
                simp (disch := omega) only [tw_L, tw_gN, tw_cl, tw_le, tw_lt, tw_eq, nI_add, pk_mul, tw_sub, tw_B0, tw_B1, tw_nb0, tw_nb1, tw_r1s, tw_r1n, if_true, if_false, Nat.le_refl, Nat.reduceEqDiff, Nat.reduceLeDiff, Nat.reduceLT, reduceIte, hWN.1]
                rw [if_neg (by omega), if_neg (by omega)]
              unfold f_wor_hasVar
              rw [ek, if_neg (by decide)]
              simp (disch := omega) only [tw_L, tw_gN, tw_cl, tw_le, tw_lt, tw_eq, nI_add, pk_mul, tw_sub, tw_B0, tw_B1, tw_nb0, tw_nb1, tw_r1s, tw_r1n, if_true, if_false, Nat.le_refl, Nat.reduceEqDiff, Nat.reduceLeDiff, Nat.reduceLT, reduceIte, hh]
              rw [if_neg (by omega), if_neg c]
            rw [z1] at e1
            exact absurd (Option.some.inj e1) (by decide)
    · have hkk : N.2.1 o = k := by
        have := (nI_eq (a := N.2.1 o) (b := k) (by omega) (by omega)).mp e1
        exact this
      subst hkk
      refine Or.inr ⟨o, v, ho, hv, rfl, rfl, ?_, ?_⟩
      · unfold f_tow_oneHasVar
        rw [d1, if_neg (by decide)]
        simp (disch := omega) only [tw_L, tw_gN, tw_cl, tw_le, tw_lt, tw_eq, nI_add, pk_mul, tw_sub, tw_B0, tw_B1, tw_nb0, tw_nb1, tw_r1s, tw_r1n, if_true, if_false, Nat.le_refl, Nat.reduceEqDiff, Nat.reduceLeDiff, Nat.reduceLT, reduceIte, g1, z1, Option.bind_some]
      · rw [model v (by omega), if_neg (by omega)]
theorem tq_state {σ : rx_St} (h : tq_T w W lv N pl bg dl st σ) (seed a1 a2 a3 : Int32) : tq_ok (f_c_state w seed a1 a2 a3 σ) (f_m_state seed a1 a2 a3) σ := by
  obtain ⟨⟨h1, h2, h3⟩, ⟨h4, h5, h6⟩, hw⟩ := id h
  have hW := h4.2.2.2
  have thr := tq_thr h (nI 0)
  have h20 := h1.1.2
  rcases tq_time a1 with ⟨c1, c2⟩ | ⟨t, ht, rfl, c1, c2⟩
  · refine ⟨((-1000000 : Int32), σ), ((-1000000 : Int32), rx_si σ 87 0 (nI 0)), ?_, ?_, rfl, thr.2⟩
    · unfold f_c_state
      rw [c1]
      exact if_pos rfl
    · unfold f_m_state
      rw [c2]
      exact if_pos rfl
  · rcases tq_ovar a2 a3 h thr.1 with ⟨d1, d2⟩ | ⟨o, v, ho, hv, rfl, rfl, d1, d2⟩
    · refine ⟨((-1000000 : Int32), σ), ((-1000000 : Int32), rx_si σ 87 0 (nI 0)), ?_, ?_, rfl, thr.2⟩
      · unfold f_c_state
        rw [c1, if_neg (by decide), d1, Option.bind_some]
        exact if_pos rfl
      · unfold f_m_state
        rw [c2]
        show (if nI 1 = (0 : Int32) then _ else (f_m_isVar a2 a3 (rx_si σ 87 0 (nI 0))).bind _) = _
        rw [if_neg (by decide), d2, Option.bind_some]
        exact if_pos rfl
    · have g2 := (h1.2.1 o ho).1.2
      have hv6 := (hW.2.2 _ g2).1
      obtain ⟨σ1, e1, f1, g1, -⟩ := tc_goPlain (r := 0) (seed := seed) (show t < 1000 by omega) (by omega) hw h1 h2 h3
      have hT1 : tq_T w W lv N pl bg dl st σ1 := h.fr (f1.mn tq_SR)
      have thr1 := tq_thr hT1 (nI 0)
      obtain ⟨σ2, e3, f3, k1, k2, k3, σ3, e4, f4, g4⟩ := tq_mgo (seed := seed) ht thr1.1
      have r1 := (g1.2.1 o ho).2.2.2.2 v (by omega)
      have r2 := (g4.2.1 o ho).2.2.2.2 v hv
      refine ⟨(σ1.1 59 (6 * o + v), σ1), (σ3.1 135 (6 * o + v), σ3), ?_, ?_, r1.trans r2.symm, ?_⟩
      · unfold f_c_state
        rw [c1, if_neg (by decide), d1, Option.bind_some, if_neg (by decide), e1, Option.bind_some]
        simp (disch := omega) only [tw_L, tw_gN, tw_cl, tw_le, tw_lt, tw_eq, nI_add, pk_mul, tw_sub, tw_B0, tw_B1, tw_nb0, tw_nb1, tw_r1s, tw_r1n, if_true, if_false, Nat.le_refl, Nat.reduceEqDiff, Nat.reduceLeDiff, Nat.reduceLT, reduceIte]
        rw [show o * 6 + v = 6 * o + v by omega]
      · rcases tq_ovar (nI o) (nI v) h thr1.1 with ⟨z1, -⟩ | ⟨_, _, _, _, _, _, _, z2⟩
        · rw [d1] at z1
          exact absurd (Option.some.inj z1) (by decide)
        · unfold f_m_state
          rw [c2]
          show (if nI 1 = (0 : Int32) then _ else (f_m_isVar (nI o) (nI v) (rx_si σ1 87 0 (nI 0))).bind _) = _
          rw [if_neg (by decide), z2, Option.bind_some, if_neg (show ¬ nI 1 = (0 : Int32) by decide)]
          have e3' : f_m_takesNumbers (rx_si (σ1.1 59 (6 * o + v), σ1).2 87 0 (0 : Int32)) = some σ2 := e3
          rw [e3', Option.bind_some, e4, Option.bind_some]
          simp (disch := omega) only [tw_L, tw_gN, tw_cl, tw_le, tw_lt, tw_eq, nI_add, pk_mul, tw_sub, tw_B0, tw_B1, tw_nb0, tw_nb1, tw_r1s, tw_r1n, if_true, if_false, Nat.le_refl, Nat.reduceEqDiff, Nat.reduceLeDiff, Nat.reduceLT, reduceIte]
      · exact (((f1.mn tq_SR).tr thr1.2).tr (f3.mn (fun q j h => by unfold tq_S; omega))).tr (f4.mn tq_S8)
theorem tq_at {σ : rx_St} (h : tq_T w W lv N pl bg dl st σ) (seed a1 a2 : Int32) : tq_ok (f_c_at w seed a1 a2 σ) (f_m_at2 seed a1 a2) σ := by
  obtain ⟨⟨h1, h2, h3⟩, ⟨h4, h5, h6⟩, hw⟩ := id h
  have thr := tq_thr h (nI 0)
  have h20 := h1.1.2
  rcases tq_time a1 with ⟨c1, c2⟩ | ⟨t, ht, rfl, c1, c2⟩
  · refine ⟨((-1 : Int32), σ), ((-1 : Int32), rx_si σ 87 0 (nI 0)), ?_, ?_, rfl, thr.2⟩
    · unfold f_c_at
      rw [c1]
      exact if_pos rfl
    · unfold f_m_at2
      rw [c2]
      exact if_pos rfl
  · rcases tq_one a2 (σ := σ) (σ' := rx_si σ 87 0 (nI 0)) h1.1.1 thr.1.2.1.1.1.1 h20 with ⟨d1, d2⟩ | ⟨o, ho, rfl, d1, d2⟩
    · refine ⟨((-1 : Int32), σ), ((-1 : Int32), rx_si σ 87 0 (nI 0)), ?_, ?_, rfl, thr.2⟩
      · unfold f_c_at
        rw [c1, if_neg (by decide), d1]
        exact if_pos rfl
      · unfold f_m_at2
        rw [c2, if_neg (by decide)]
        show (if f_m_isOne a2 (rx_si σ 87 0 (nI 0)) = (0 : Int32) then _ else _) = _
        rw [d2]
        exact if_pos rfl
    · obtain ⟨σ1, e1, f1, g1, -⟩ := tc_goPlain (r := 0) (seed := seed) (show t < 1000 by omega) (by omega) hw h1 h2 h3
      have hT1 : tq_T w W lv N pl bg dl st σ1 := h.fr (f1.mn tq_SR)
      have thr1 := tq_thr hT1 (nI 0)
      obtain ⟨σ2, e3, f3, k1, k2, k3, σ3, e4, f4, g4⟩ := tq_mgo (seed := seed) ht thr1.1
      have r1 := (g1.2.1 o ho).2.2.2.1
      have r2 := (g4.2.1 o ho).2.2.2.1
      have s1 := (g1.2.1 o ho).2.2.1.1
      have s2 := (g4.2.1 o ho).2.2.1.1
      have d3 : f_m_isOne (nI o) (rx_si σ1 87 0 (0 : Int32)) = nI 1 := by
        rcases tq_one (nI o) (σ := σ) (σ' := rx_si σ1 87 0 (nI 0)) h1.1.1 thr1.1.2.1.1.1.1 h20 with ⟨z1, -⟩ | ⟨_, _, _, _, z2⟩
        · rw [d1] at z1
          exact absurd z1 (by decide)
        · exact z2
      have e3' : f_m_takesNumbers (rx_si σ1 87 0 (0 : Int32)) = some σ2 := e3
      have fr : tw_fr tq_S σ σ3 := (((f1.mn tq_SR).tr thr1.2).tr (f3.mn (fun q j h => by unfold tq_S; omega))).tr (f4.mn tq_S8)
      have hc : f_c_at w seed (nI t) (nI o) σ = some (if (tw_run W N dl st seed tw_plain (tw_R0 pl bg) t).2.2 o = true then (-nI 2, σ1) else (nI ((tw_run W N dl st seed tw_plain (tw_R0 pl bg) t).2.1 o), σ1)) := by
        unfold f_c_at
        rw [c1, if_neg (by decide), d1, if_neg (by decide), e1, Option.bind_some]
        have r1' : σ1.1 61 o = tw_B ((tw_run W N dl st seed tw_plain (tw_R0 pl bg) t).2.2 o) := r1
        have s1' : σ1.1 60 o = nI ((tw_run W N dl st seed tw_plain (tw_R0 pl bg) t).2.1 o) := s1
        simp (disch := omega) only [tw_L, tw_gN, tw_cl, tw_le, tw_lt, tw_eq, nI_add, pk_mul, tw_sub, tw_B0, tw_B1, tw_nb0, tw_nb1, tw_r1s, tw_r1n, if_true, if_false, Nat.le_refl, Nat.reduceEqDiff, Nat.reduceLeDiff, Nat.reduceLT, reduceIte, r1', s1']
        cases (tw_run W N dl st seed tw_plain (tw_R0 pl bg) t).2.2 o with
        | true => rw [if_neg (by decide), if_pos rfl]
        | false => rw [if_pos rfl, if_neg (by decide)]
      have hm : f_m_at2 seed (nI t) (nI o) σ1 = some (if (tw_run W N dl st seed tw_plain (tw_R0 pl bg) t).2.2 o = true then (-nI 2, σ3) else (nI ((tw_run W N dl st seed tw_plain (tw_R0 pl bg) t).2.1 o), σ3)) := by
        unfold f_m_at2
        rw [c2, if_neg (by decide), d3, if_neg (by decide), e3', Option.bind_some, e4, Option.bind_some]
        simp (disch := omega) only [tw_L, tw_gN, tw_cl, tw_le, tw_lt, tw_eq, nI_add, pk_mul, tw_sub, tw_B0, tw_B1, tw_nb0, tw_nb1, tw_r1s, tw_r1n, if_true, if_false, Nat.le_refl, Nat.reduceEqDiff, Nat.reduceLeDiff, Nat.reduceLT, reduceIte, r2, s2]
        cases (tw_run W N dl st seed tw_plain (tw_R0 pl bg) t).2.2 o with
        | true => rw [if_neg (by decide), if_pos rfl]
        | false => rw [if_pos rfl, if_neg (by decide)]
      cases hb : (tw_run W N dl st seed tw_plain (tw_R0 pl bg) t).2.2 o with
      | true =>
        rw [hb, if_pos rfl] at hc hm
        exact ⟨_, _, hc, hm, rfl, fr⟩
      | false =>
        rw [hb, if_neg (by decide)] at hc hm
        exact ⟨_, _, hc, hm, rfl, fr⟩
theorem tq_wishes {σ : rx_St} (h : tq_T w W lv N pl bg dl st σ) (seed a1 a2 : Int32) : tq_ok (f_c_wishes w seed a1 a2 σ) (f_m_wishes seed a1 a2) σ := by
  obtain ⟨⟨h1, h2, h3⟩, ⟨h4, h5, h6⟩, hw⟩ := id h
  have thr := tq_thr h (nI 0)
  have h20 := h1.1.2
  have tick : f_c_isTick a1 = nI 0 ∧ f_m_in a1 (nI 0) (nI 39) = nI 0 ∨ ∃ t, t < 40 ∧ a1 = nI t ∧ f_c_isTick a1 = nI 1 ∧ f_m_in a1 (nI 0) (nI 39) = nI 1 := by
    by_cases c0 : a1 < nI 0
    · exact Or.inl ⟨by unfold f_c_isTick; exact if_pos c0, by unfold f_m_in; exact if_pos c0⟩
    · obtain ⟨t, rfl, ht⟩ := tq_nn c0
      unfold f_c_isTick f_m_in
      simp (disch := omega) only [tw_L, tw_gN, tw_cl, tw_le, tw_lt, tw_eq, nI_add, pk_mul, tw_sub, tw_B0, tw_B1, tw_nb0, tw_nb1, tw_r1s, tw_r1n, if_true, if_false, Nat.le_refl, Nat.reduceEqDiff, Nat.reduceLeDiff, Nat.reduceLT, reduceIte]
      by_cases c : 40 ≤ t
      · exact Or.inl ⟨by rw [if_neg (by omega), if_pos c], by rw [if_neg (by omega), if_pos (by omega)]⟩
      · exact Or.inr ⟨t, by omega, rfl, by rw [if_neg (by omega), if_neg c], by rw [if_neg (by omega), if_neg (by omega)]⟩
  rcases tick with ⟨c1, c2⟩ | ⟨t, ht, rfl, c1, c2⟩
  · refine ⟨((-1 : Int32), σ), ((-1 : Int32), rx_si σ 87 0 (nI 0)), ?_, ?_, rfl, thr.2⟩
    · unfold f_c_wishes
      rw [c1]
      exact if_pos rfl
    · unfold f_m_wishes
      show (if f_m_in a1 (nI 0) (nI 39) = (0 : Int32) then _ else _) = _
      rw [c2]
      exact if_pos rfl
  · rcases tq_one a2 (σ := σ) (σ' := rx_si σ 87 0 (nI 0)) h1.1.1 thr.1.2.1.1.1.1 h20 with ⟨d1, d2⟩ | ⟨o, ho, rfl, d1, d2⟩
    · refine ⟨((-1 : Int32), σ), ((-1 : Int32), rx_si σ 87 0 (nI 0)), ?_, ?_, rfl, thr.2⟩
      · unfold f_c_wishes
        rw [c1, if_neg (by decide), d1]
        exact if_pos rfl
      · unfold f_m_wishes
        show (if f_m_in (nI t) (nI 0) (nI 39) = (0 : Int32) then _ else if f_m_isOne a2 (rx_si σ 87 0 (nI 0)) = (0 : Int32) then _ else _) = _
        rw [c2, if_neg (by decide), d2]
        exact if_pos rfl
    · obtain ⟨σ1, e1, f1, g1, w1⟩ := tc_goPlain (r := 0) (seed := seed) (show t + 1 < 1000 by omega) (by omega) hw h1 h2 h3
      have hT1 : tq_T w W lv N pl bg dl st σ1 := h.fr (f1.mn tq_SR)
      have thr1 := tq_thr hT1 (nI 0)
      obtain ⟨σ2, e3, f3, k1, k2, k3, σ3, e4, f4, g4⟩ := tq_mgo (seed := seed) (show t ≤ 40 by omega) thr1.1
      have k4 : tm_MW W lv σ3 := k3.fr (fun q j a b => f4.i (by unfold tm_S8; omega)) (f4.i (by unfold tm_S8; omega))
      obtain ⟨σ4, e5, f5, -, n5, -⟩ := tm_chooses ho g4 k4
      have d3 : f_m_isOne (nI o) (rx_si σ1 87 0 (0 : Int32)) = nI 1 := by
        rcases tq_one (nI o) (σ := σ) (σ' := rx_si σ1 87 0 (nI 0)) h1.1.1 thr1.1.2.1.1.1.1 h20 with ⟨z1, -⟩ | ⟨_, _, _, _, z2⟩
        · rw [d1] at z1
          exact absurd z1 (by decide)
        · exact z2
      have e3' : f_m_takesNumbers (rx_si σ1 87 0 (0 : Int32)) = some σ2 := e3
      refine ⟨(σ1.1 45 o, σ1), (σ4.1 138 o, σ4), ?_, ?_, ((w1 t rfl) o ho).1.trans n5.symm, ?_⟩
      · unfold f_c_wishes
        rw [c1, if_neg (by decide), d1, if_neg (by decide), show nI t + (1 : Int32) = nI (t + 1) from nI_add t 1, e1, Option.bind_some]
        simp (disch := omega) only [tw_L, tw_gN, tw_cl, tw_le, tw_lt, tw_eq, nI_add, pk_mul, tw_sub, tw_B0, tw_B1, tw_nb0, tw_nb1, tw_r1s, tw_r1n, if_true, if_false, Nat.le_refl, Nat.reduceEqDiff, Nat.reduceLeDiff, Nat.reduceLT, reduceIte]
      · unfold f_m_wishes
        show (if f_m_in (nI t) (nI 0) (nI 39) = (0 : Int32) then _ else if f_m_isOne (nI o) (rx_si σ1 87 0 (0 : Int32)) = (0 : Int32) then _ else (f_m_takesNumbers (rx_si σ1 87 0 (0 : Int32))).bind _) = _
        rw [c2, if_neg (by decide), d3, if_neg (by decide), e3', Option.bind_some, e4, Option.bind_some, e5, Option.bind_some]
        simp (disch := omega) only [tw_L, tw_gN, tw_cl, tw_le, tw_lt, tw_eq, nI_add, pk_mul, tw_sub, tw_B0, tw_B1, tw_nb0, tw_nb1, tw_r1s, tw_r1n, if_true, if_false, Nat.le_refl, Nat.reduceEqDiff, Nat.reduceLeDiff, Nat.reduceLT, reduceIte]
      · exact ((((f1.mn tq_SR).tr thr1.2).tr (f3.mn (fun q j h => by unfold tq_S; omega))).tr (f4.mn tq_S8)).tr (f5.mn (fun q j h => by unfold tm_S2 tm_S1 at h; unfold tq_S; omega))
theorem tq_gt {x : Int32} {n : Nat} (hn : n + 1 < 2147483648) (h : nI n < x) : nI (n + 1) ≤ x := by
  rw [Int32.lt_iff_toInt_lt, nI_toInt (by omega)] at h
  rw [Int32.le_iff_toInt_le, nI_toInt (by omega)]
  omega
theorem tq_in (x : Int32) (lo hi : Nat) (hh : hi < 2147483648) (hl : lo ≤ hi) : (f_m_in x (nI lo) (nI hi) = nI 0 ∧ (x < nI lo ∨ nI hi < x)) ∨ ∃ n, x = nI n ∧ lo ≤ n ∧ n ≤ hi ∧ f_m_in x (nI lo) (nI hi) = nI 1 := by
  by_cases c0 : x < nI 0
  · refine Or.inl ?_
    have : x < nI lo := by
      have hx : nI 0 ≤ nI lo := (nI_leI (by omega) (by omega)).mpr (Nat.zero_le _)
      exact Int32.lt_of_lt_of_le c0 hx
    exact ⟨by unfold f_m_in; exact if_pos this, Or.inl this⟩
  · obtain ⟨n, rfl, hn⟩ := tq_nn c0
    by_cases c1 : n < lo
    · have : nI n < nI lo := (nI_ltI (by omega) (by omega)).mpr c1
      exact Or.inl ⟨by unfold f_m_in; exact if_pos this, Or.inl this⟩
    · have c1' : ¬ nI n < nI lo := fun h => c1 ((nI_ltI (by omega) (by omega)).mp h)
      by_cases c2 : hi < n
      · have : nI hi < nI n := (nI_ltI (by omega) (by omega)).mpr c2
        exact Or.inl ⟨by unfold f_m_in; rw [if_neg c1']; exact if_pos this, Or.inr this⟩
      · have c2' : ¬ nI hi < nI n := fun h => c2 ((nI_ltI (by omega) (by omega)).mp h)
        exact Or.inr ⟨n, rfl, by omega, by omega, by unfold f_m_in; rw [if_neg c1']; exact if_neg c2'⟩
theorem tq_lot (σ : rx_St) (a0 a1 a2 a3 a4 : Int32) : ∃ o1 o2, f_c_lot a0 a1 a2 a3 a4 = some o1 ∧ f_m_lot a0 a1 a2 a3 a4 σ = some o2 ∧ o1 = o2.1 ∧ o2.2 = rx_si σ 87 0 (nI 0) := by
  have c44 : f_c_lot_44 a0 a1 a2 a3 a4 = some (-nI 1) := by unfold f_c_lot_44 f_c_lot_49; exact if_neg (by decide)
  have hm : (f_m_in a4 (nI 1) (nI 9999) = nI 0 ∨ f_m_in a1 (nI 0) (nI 19) = nI 0 ∨ f_m_in a2 (nI 0) (nI 39) = nI 0 ∨ f_m_in a3 (nI 0) (nI 1000) = nI 0) → f_m_lot a0 a1 a2 a3 a4 σ = some (-nI 1, rx_si σ 87 0 (nI 0)) := by
    intro h
    unfold f_m_lot
    rcases h with h | h | h | h
    · exact if_pos h
    · exact tq_ite0 (if_pos h)
    · exact tq_ite0 (tq_ite0 (if_pos h))
    · exact tq_ite0 (tq_ite0 (tq_ite0 (if_pos h)))
  have bad : f_c_lot a0 a1 a2 a3 a4 = some (-nI 1) → (f_m_in a4 (nI 1) (nI 9999) = nI 0 ∨ f_m_in a1 (nI 0) (nI 19) = nI 0 ∨ f_m_in a2 (nI 0) (nI 39) = nI 0 ∨ f_m_in a3 (nI 0) (nI 1000) = nI 0) → ∃ o1 o2, f_c_lot a0 a1 a2 a3 a4 = some o1 ∧ f_m_lot a0 a1 a2 a3 a4 σ = some o2 ∧ o1 = o2.1 ∧ o2.2 = rx_si σ 87 0 (nI 0) := fun h1 h2 => ⟨_, _, h1, hm h2, rfl, rfl⟩
  rcases tq_in a1 0 19 (by decide) (by decide) with ⟨i1, j1⟩ | ⟨n1, e1, -, l1, i1⟩
  · refine bad ?_ (Or.inr (Or.inl i1))
    unfold f_c_lot
    rw [c44]
    rcases j1 with j | j
    · exact if_pos j
    · exact tq_ite0 (if_pos (tq_gt (n := 19) (by decide) j))
  · have p1 : ¬ a1 < (0 : Int32) := by rw [e1]; exact fun h => absurd ((nI_ltI (b := 0) (by omega) (by decide)).mp h) (Nat.not_lt_zero _)
    have p2 : ¬ (20 : Int32) ≤ a1 := by rw [e1]; exact fun h => absurd ((nI_leI (a := 20) (by decide) (by omega)).mp h) (by omega)
    rcases tq_in a2 0 39 (by decide) (by decide) with ⟨i2, j2⟩ | ⟨n2, e2, -, l2, i2⟩
    · refine bad ?_ (Or.inr (Or.inr (Or.inl i2)))
      have ht : f_c_isTick a2 = nI 0 := by
        unfold f_c_isTick
        rcases j2 with j | j
        · exact if_pos j
        · exact tq_ite0 (if_pos (tq_gt (n := 39) (by decide) j))
      unfold f_c_lot
      rw [c44, if_neg p1, if_neg p2, ht]
      exact if_pos rfl
    · have ht : f_c_isTick a2 = nI 1 := by
        rw [e2]
        unfold f_c_isTick
        simp (disch := omega) only [tw_L, tw_gN, tw_cl, tw_le, tw_lt, tw_eq, nI_add, pk_mul, tw_sub, tw_B0, tw_B1, tw_nb0, tw_nb1, tw_r1s, tw_r1n, if_true, if_false, Nat.le_refl, Nat.reduceEqDiff, Nat.reduceLeDiff, Nat.reduceLT, reduceIte]
        rw [if_neg (by omega), if_neg (by omega)]
      rcases tq_in a3 0 1000 (by decide) (by decide) with ⟨i3, j3⟩ | ⟨n3, e3, -, l3, i3⟩
      · refine bad ?_ (Or.inr (Or.inr (Or.inr i3)))
        unfold f_c_lot
        rw [c44, if_neg p1, if_neg p2, ht, if_neg (by decide)]
        rcases j3 with j | j
        · exact if_pos j
        · exact tq_ite0 (if_pos j)
      · have q1 : ¬ a3 < (0 : Int32) := by rw [e3]; exact fun h => absurd ((nI_ltI (b := 0) (by omega) (by decide)).mp h) (Nat.not_lt_zero _)
        have q2 : ¬ (1000 : Int32) < a3 := by rw [e3]; exact fun h => absurd ((nI_ltI (a := 1000) (by decide) (by omega)).mp h) (by omega)
        rcases tq_in a4 1 9999 (by decide) (by decide) with ⟨i4, j4⟩ | ⟨n4, e4, l0, l4, i4⟩
        · refine bad ?_ (Or.inl i4)
          unfold f_c_lot
          rw [c44, if_neg p1, if_neg p2, ht, if_neg (by decide), if_neg q1, if_neg q2]
          rcases j4 with j | j
          · exact if_pos j
          · exact tq_ite0 (if_neg (Int32.not_le.mpr j))
        · have r1 : ¬ a4 < (1 : Int32) := by rw [e4]; exact fun h => absurd ((nI_ltI (b := 1) (by omega) (by decide)).mp h) (by omega)
          have r2 : a4 ≤ (9999 : Int32) := by rw [e4]; exact (nI_leI (b := 9999) (by omega) (by decide)).mpr l4
          have r3 : ¬ a4 = nI 0 := by rw [e4]; exact fun h => absurd ((nI_eq (b := 0) (by omega) (by decide)).mp h) (by omega)
          refine ⟨tw_lot a0 a1 a2 a3 a4, (tw_lot a0 a1 a2 a3 a4, rx_si σ 87 0 (nI 0)), ?_, ?_, rfl, rfl⟩
          · unfold f_c_lot f_c_lot_49
            rw [if_neg p1, if_neg p2, ht, if_neg (by decide), if_neg q1, if_neg q2, if_neg r1, if_pos r2, if_pos rfl, e4, tc_lot l0 (by omega)]
            rfl
          · unfold f_m_lot
            show (if f_m_in a4 (nI 1) (nI 9999) = (0 : Int32) then _ else if f_m_in a1 (nI 0) (nI 19) = (0 : Int32) then _ else if f_m_in a2 (nI 0) (nI 39) = (0 : Int32) then _ else if f_m_in a3 (nI 0) (nI 1000) = (0 : Int32) then _ else (f_m_lotOf a0 a1 a2 a3 a4).bind _) = _
            rw [i4, if_neg (by decide), i1, if_neg (by decide), i2, if_neg (by decide), i3, if_neg (by decide), tm_lotOf r3]
            rfl
end TQ2
