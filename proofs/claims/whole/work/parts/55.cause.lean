/-! CAUSES on both sides: cause, clear -/
def tq_C (W : tw_Wo) (cs : List (Nat × Int32)) (σ : rx_St) : Prop := (σ.1 72 2 = nI cs.length ∧ σ.1 87 86 = nI cs.length ∧ cs.length ≤ 4) ∧ ∀ i p, cs[i]? = some p → p.1 < W.1.length ∧ σ.1 73 i = nI p.1 ∧ σ.1 149 i = nI p.1 ∧ σ.1 74 i = p.2 ∧ σ.1 150 i = p.2
def tq_SC (q j : Nat) : Prop := q = 72 ∧ j = 2 ∨ q = 73 ∨ q = 74 ∨ q = 87 ∧ (j = 0 ∨ j = 86) ∨ q = 149 ∨ q = 150
theorem tq_C.fr {W : tw_Wo} {cs : List (Nat × Int32)} {σ σ' : rx_St} (h : tq_C W cs σ) (f : ∀ q j, q = 72 ∧ j = 2 ∨ q = 73 ∨ q = 74 ∨ q = 87 ∧ j = 86 ∨ q = 149 ∨ q = 150 → σ'.1 q j = σ.1 q j) : tq_C W cs σ' := by
  obtain ⟨⟨h1, h2, h3⟩, h4⟩ := h
  refine ⟨⟨by rw [f _ _ (by omega)]; exact h1, by rw [f _ _ (by omega)]; exact h2, h3⟩, fun i p hp => ?_⟩
  obtain ⟨g1, g2, g3, g4, g5⟩ := h4 i p hp
  exact ⟨g1, by rw [f _ _ (by omega)]; exact g2, by rw [f _ _ (by omega)]; exact g3, by rw [f _ _ (by omega)]; exact g4, by rw [f _ _ (by omega)]; exact g5⟩
section TQ6
variable {w : Nat} {W : tw_Wo} {lv : Nat} {N : tw_N} {pl : Nat → Nat} {bg : Nat → Int32} {dl : Bool} {st : Nat → Int32}
theorem tq_clear {cs : List (Nat × Int32)} {σ : rx_St} (h : tq_C W cs σ) : ∃ o1 o2, f_c_clear σ = some o1 ∧ f_m_clear o1.2 = some o2 ∧ o1.1 = o2.1 ∧ tq_C W [] o2.2 ∧ tw_fr tq_SC σ o2.2 := by
  obtain ⟨⟨h1, h2, h3⟩, h4⟩ := h
  refine ⟨(nI cs.length, rx_si σ 72 2 (nI 0)), (nI cs.length, rx_si (rx_si (rx_si σ 72 2 (nI 0)) 87 0 (nI 0)) 87 86 (nI 0)), ?_, ?_, rfl, ⟨⟨?_, ?_, Nat.zero_le _⟩, fun i p hp => by cases hp⟩, ((tw_fr.rf.si (by unfold tq_SC; omega)).si (by unfold tq_SC; omega)).si (by unfold tq_SC; omega)⟩
  · unfold f_c_clear
    simp (disch := omega) only [tw_L, tw_gN, tw_cl, tw_le, tw_lt, tw_eq, nI_add, pk_mul, tw_sub, tw_B0, tw_B1, tw_nb0, tw_nb1, tw_r1s, tw_r1n, if_true, if_false, Nat.le_refl, Nat.reduceEqDiff, Nat.reduceLeDiff, Nat.reduceLT, reduceIte, h1]
  · unfold f_m_clear
    simp (disch := omega) only [tw_L, tw_gN, tw_cl, tw_le, tw_lt, tw_eq, nI_add, pk_mul, tw_sub, tw_B0, tw_B1, tw_nb0, tw_nb1, tw_r1s, tw_r1n, if_true, if_false, Nat.le_refl, Nat.reduceEqDiff, Nat.reduceLeDiff, Nat.reduceLT, reduceIte, h2]
  · simp (disch := omega) only [tw_L, tw_gN, tw_cl, tw_le, tw_lt, tw_eq, nI_add, pk_mul, tw_sub, tw_B0, tw_B1, tw_nb0, tw_nb1, tw_r1s, tw_r1n, if_true, if_false, Nat.le_refl, Nat.reduceEqDiff, Nat.reduceLeDiff, Nat.reduceLT, reduceIte]
    rfl
  · simp (disch := omega) only [tw_L, tw_gN, tw_cl, tw_le, tw_lt, tw_eq, nI_add, pk_mul, tw_sub, tw_B0, tw_B1, tw_nb0, tw_nb1, tw_r1s, tw_r1n, if_true, if_false, Nat.le_refl, Nat.reduceEqDiff, Nat.reduceLeDiff, Nat.reduceLT, reduceIte]
    rfl
theorem tq_cause {cs : List (Nat × Int32)} {σ : rx_St} (h : tq_T w W lv N pl bg dl st σ) (hC : tq_C W cs σ) (a b : Int32) : ∃ o1 o2, f_c_cause w a b σ = some o1 ∧ f_m_cause a b o1.2 = some o2 ∧ o1.1 = o2.1 ∧ (∃ cs', tq_C W cs' o2.2) ∧ tw_fr tq_SC σ o2.2 := by
  obtain ⟨⟨h1, h2, h3⟩, h4⟩ := id hC
  have thr := tq_thr h (nI 0)
  have hs6 := h.2.1.1.2.2.2.1
  have bad : f_cau_tell w a b σ = some (-nI 1, σ) → f_m_cause a b σ = some (-nI 1, rx_si σ 87 0 (nI 0)) → ∃ o1 o2, f_c_cause w a b σ = some o1 ∧ f_m_cause a b o1.2 = some o2 ∧ o1.1 = o2.1 ∧ (∃ cs', tq_C W cs' o2.2) ∧ tw_fr tq_SC σ o2.2 := by
    intro x y
    refine ⟨(-nI 1, σ), (-nI 1, rx_si σ 87 0 (nI 0)), ?_, y, rfl, ⟨cs, hC.fr (fun q j z => tw_r1n _ _ (by omega))⟩, tw_fr.rf.si (by unfold tq_SC; omega)⟩
    unfold f_c_cause
    rw [x]
    rfl
  by_cases c4 : cs.length = 4
  · refine bad ?_ ?_
    · unfold f_cau_tell
      simp (disch := omega) only [tw_L, tw_gN, tw_cl, tw_le, tw_lt, tw_eq, nI_add, pk_mul, tw_sub, tw_B0, tw_B1, tw_nb0, tw_nb1, tw_r1s, tw_r1n, if_true, if_false, Nat.le_refl, Nat.reduceEqDiff, Nat.reduceLeDiff, Nat.reduceLT, reduceIte, h1]
      rw [if_pos (by omega)]
    · unfold f_m_cause
      simp (disch := omega) only [tw_L, tw_gN, tw_cl, tw_le, tw_lt, tw_eq, nI_add, pk_mul, tw_sub, tw_B0, tw_B1, tw_nb0, tw_nb1, tw_r1s, tw_r1n, if_true, if_false, Nat.le_refl, Nat.reduceEqDiff, Nat.reduceLeDiff, Nat.reduceLT, reduceIte, h2]
      rw [if_pos c4]
  · rcases tq_hasS a h thr.1 with ⟨c1, c2⟩ | ⟨s, hs, rfl, c1, c2⟩
    · refine bad ?_ ?_
      · unfold f_cau_tell
        rw [c1]
        exact tq_ite0 (if_pos rfl)
      · unfold f_m_cause
        refine tq_ite0 ?_
        show ((f_m_isSetting a (rx_si σ 87 0 (nI 0))).bind _) = _
        rw [c2]
        rfl
    · rcases tq_num01 b with d | d
      · refine bad ?_ ?_
        · unfold f_cau_tell
          rw [tq_num b, d]
          exact tq_ite0 (tq_ite0 (if_pos rfl))
        · unfold f_m_cause
          refine tq_ite0 ?_
          show ((f_m_isSetting (nI s) (rx_si σ 87 0 (nI 0))).bind _) = _
          rw [c2, d]
          rfl
      · have hl : cs.length < 4 := by omega
        generalize hσ1 : rx_si (rx_si (rx_si σ 73 cs.length (nI s)) 74 cs.length b) 72 2 (nI (cs.length + 1)) = σ1
        have f1 : tw_fr tq_SC σ σ1 := by rw [← hσ1]; exact ((tw_fr.rf.si (by unfold tq_SC; omega)).si (by unfold tq_SC; omega)).si (by unfold tq_SC; omega)
        have q2 : f_m_isSetting (nI s) (rx_si σ1 87 0 (nI 0)) = some (nI 1) := by
          rw [← c2]
          have k1 : (rx_si σ1 87 0 (nI 0)).1 87 18 = (rx_si σ 87 0 (nI 0)).1 87 18 := by rw [tw_r1n _ _ (by omega), tw_r1n _ _ (by omega)]; exact f1.i (by unfold tq_SC; omega)
          have k2 : ∀ j, (rx_si σ1 87 0 (nI 0)).1 95 j = (rx_si σ 87 0 (nI 0)).1 95 j := fun j => by rw [tw_r1n _ _ (by omega), tw_r1n _ _ (by omega)]; exact f1.i (by unfold tq_SC; omega)
          unfold f_m_isSetting
          rw [k1, k2]
        have e86 : σ1.1 87 86 = nI cs.length := by rw [← hσ1]; simp (disch := omega) only [tw_L, tw_gN, tw_cl, tw_le, tw_lt, tw_eq, nI_add, pk_mul, tw_sub, tw_B0, tw_B1, tw_nb0, tw_nb1, tw_r1s, tw_r1n, if_true, if_false, Nat.le_refl, Nat.reduceEqDiff, Nat.reduceLeDiff, Nat.reduceLT, reduceIte, h2]
        refine ⟨(nI cs.length, σ1), (nI cs.length, rx_si (rx_si (rx_si (rx_si σ1 87 0 (nI 0)) 149 cs.length (nI s)) 150 cs.length b) 87 86 (nI (cs.length + 1))), ?_, ?_, rfl, ⟨cs ++ [(s, b)], ⟨⟨?_, ?_, by rw [List.length_append, List.length_singleton]; omega⟩, fun i p hp => ?_⟩⟩, (((f1.si (by unfold tq_SC; omega)).si (by unfold tq_SC; omega)).si (by unfold tq_SC; omega)).si (by unfold tq_SC; omega)⟩
        · unfold f_c_cause f_cau_tell
          rw [c1, tq_num b, d]
          simp (disch := omega) only [tw_L, tw_gN, tw_cl, tw_le, tw_lt, tw_eq, nI_add, pk_mul, tw_sub, tw_B0, tw_B1, tw_nb0, tw_nb1, tw_r1s, tw_r1n, if_true, if_false, Nat.le_refl, Nat.reduceEqDiff, Nat.reduceLeDiff, Nat.reduceLT, reduceIte, h1, Nat.add_sub_cancel]
          rw [if_neg (by omega), Option.bind_some, hσ1]
        · unfold f_m_cause
          show (if (rx_si σ1 87 0 (nI 0)).1 87 86 = (4 : Int32) then _ else (f_m_isSetting (nI s) (rx_si σ1 87 0 (nI 0))).bind _) = _
          rw [q2, Option.bind_some, d]
          simp (disch := omega) only [tw_L, tw_gN, tw_cl, tw_le, tw_lt, tw_eq, nI_add, pk_mul, tw_sub, tw_B0, tw_B1, tw_nb0, tw_nb1, tw_r1s, tw_r1n, if_true, if_false, Nat.le_refl, Nat.reduceEqDiff, Nat.reduceLeDiff, Nat.reduceLT, reduceIte, e86, Nat.add_sub_cancel]
          rw [if_neg c4]
        · rw [List.length_append, List.length_singleton, ← hσ1]
          simp (disch := omega) only [tw_L, tw_gN, tw_cl, tw_le, tw_lt, tw_eq, nI_add, pk_mul, tw_sub, tw_B0, tw_B1, tw_nb0, tw_nb1, tw_r1s, tw_r1n, if_true, if_false, Nat.le_refl, Nat.reduceEqDiff, Nat.reduceLeDiff, Nat.reduceLT, reduceIte]
        · rw [List.length_append, List.length_singleton]
          simp (disch := omega) only [tw_L, tw_gN, tw_cl, tw_le, tw_lt, tw_eq, nI_add, pk_mul, tw_sub, tw_B0, tw_B1, tw_nb0, tw_nb1, tw_r1s, tw_r1n, if_true, if_false, Nat.le_refl, Nat.reduceEqDiff, Nat.reduceLeDiff, Nat.reduceLT, reduceIte]
        · by_cases hi : i < cs.length
          · rw [List.getElem?_append_left hi] at hp
            obtain ⟨g1, g2, g3, g4, g5⟩ := h4 i p hp
            rw [← hσ1]
            exact ⟨g1, by simp (disch := omega) only [tw_L, tw_gN, tw_cl, tw_le, tw_lt, tw_eq, nI_add, pk_mul, tw_sub, tw_B0, tw_B1, tw_nb0, tw_nb1, tw_r1s, tw_r1n, if_true, if_false, Nat.le_refl, Nat.reduceEqDiff, Nat.reduceLeDiff, Nat.reduceLT, reduceIte]; exact g2, by simp (disch := omega) only [tw_L, tw_gN, tw_cl, tw_le, tw_lt, tw_eq, nI_add, pk_mul, tw_sub, tw_B0, tw_B1, tw_nb0, tw_nb1, tw_r1s, tw_r1n, if_true, if_false, Nat.le_refl, Nat.reduceEqDiff, Nat.reduceLeDiff, Nat.reduceLT, reduceIte]; exact g3, by simp (disch := omega) only [tw_L, tw_gN, tw_cl, tw_le, tw_lt, tw_eq, nI_add, pk_mul, tw_sub, tw_B0, tw_B1, tw_nb0, tw_nb1, tw_r1s, tw_r1n, if_true, if_false, Nat.le_refl, Nat.reduceEqDiff, Nat.reduceLeDiff, Nat.reduceLT, reduceIte]; exact g4, by simp (disch := omega) only [tw_L, tw_gN, tw_cl, tw_le, tw_lt, tw_eq, nI_add, pk_mul, tw_sub, tw_B0, tw_B1, tw_nb0, tw_nb1, tw_r1s, tw_r1n, if_true, if_false, Nat.le_refl, Nat.reduceEqDiff, Nat.reduceLeDiff, Nat.reduceLT, reduceIte]; exact g5⟩
          · rw [List.getElem?_append_right (by omega)] at hp
            by_cases e : i = cs.length
            · subst e
              rw [Nat.sub_self] at hp
              have hp2 : (s, b) = p := by simpa using hp
              rw [← hp2, ← hσ1]
              exact ⟨hs, by simp (disch := omega) only [tw_L, tw_gN, tw_cl, tw_le, tw_lt, tw_eq, nI_add, pk_mul, tw_sub, tw_B0, tw_B1, tw_nb0, tw_nb1, tw_r1s, tw_r1n, if_true, if_false, Nat.le_refl, Nat.reduceEqDiff, Nat.reduceLeDiff, Nat.reduceLT, reduceIte], by simp (disch := omega) only [tw_L, tw_gN, tw_cl, tw_le, tw_lt, tw_eq, nI_add, pk_mul, tw_sub, tw_B0, tw_B1, tw_nb0, tw_nb1, tw_r1s, tw_r1n, if_true, if_false, Nat.le_refl, Nat.reduceEqDiff, Nat.reduceLeDiff, Nat.reduceLT, reduceIte], by simp (disch := omega) only [tw_L, tw_gN, tw_cl, tw_le, tw_lt, tw_eq, nI_add, pk_mul, tw_sub, tw_B0, tw_B1, tw_nb0, tw_nb1, tw_r1s, tw_r1n, if_true, if_false, Nat.le_refl, Nat.reduceEqDiff, Nat.reduceLeDiff, Nat.reduceLT, reduceIte], by simp (disch := omega) only [tw_L, tw_gN, tw_cl, tw_le, tw_lt, tw_eq, nI_add, pk_mul, tw_sub, tw_B0, tw_B1, tw_nb0, tw_nb1, tw_r1s, tw_r1n, if_true, if_false, Nat.le_refl, Nat.reduceEqDiff, Nat.reduceLeDiff, Nat.reduceLT, reduceIte]⟩
            · rw [List.getElem?_eq_none (by rw [List.length_singleton]; omega)] at hp
              cases hp
end TQ6
