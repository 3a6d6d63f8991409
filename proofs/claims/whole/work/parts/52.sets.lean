/-! SETTINGS, BEGINS, ORDER on both sides -/
theorem tq_num (a : Int32) : f_c_isNumber a = f_m_isNumber a := rfl
theorem tq_num01 (a : Int32) : f_m_isNumber a = nI 0 ∨ f_m_isNumber a = nI 1 := by
  unfold f_m_isNumber f_m_in
  by_cases c : a < (-9999 : Int32)
  · exact Or.inl (if_pos c)
  · rw [if_neg c]
    by_cases d : (9999 : Int32) < a
    · exact Or.inl (if_pos d)
    · exact Or.inr (if_neg d)
section TQ3
variable {w : Nat} {W : tw_Wo} {lv : Nat} {N : tw_N} {pl : Nat → Nat} {bg : Nat → Int32} {dl : Bool} {st : Nat → Int32}
theorem tq_hasS (a : Int32) {σ σ' : rx_St} (h : tq_T w W lv N pl bg dl st σ) (h' : tq_T w W lv N pl bg dl st σ') : f_wor_hasSetting w a σ = nI 0 ∧ f_m_isSetting a σ' = some (nI 0) ∨ ∃ s, s < W.1.length ∧ a = nI s ∧ f_wor_hasSetting w a σ = nI 1 ∧ f_m_isSetting a σ' = some (nI 1) := by
  obtain ⟨⟨-, ⟨_, _, _, _, e1⟩, -⟩, -, -⟩ := h
  obtain ⟨-, ⟨m4, ⟨m1, m2, m3, -⟩, -⟩, -⟩ := h'
  have h6 := m4.2.2.2.1
  by_cases c : a < nI 0
  · exact Or.inl ⟨by unfold f_wor_hasSetting; exact if_pos c, by unfold f_m_isSetting; exact if_pos c⟩
  · obtain ⟨s, rfl, hs⟩ := tq_nn c
    unfold f_wor_hasSetting f_m_isSetting
    simp (disch := omega) only [tw_L, tw_gN, tw_cl, tw_le, tw_lt, tw_eq, nI_add, pk_mul, tw_sub, tw_B0, tw_B1, tw_nb0, tw_nb1, tw_r1s, tw_r1n, if_true, if_false, Nat.le_refl, Nat.reduceEqDiff, Nat.reduceLeDiff, Nat.reduceLT, reduceIte, e1, m2, m3]
    by_cases d : W.1.length ≤ s
    · exact Or.inl ⟨by rw [if_neg (by omega), if_pos d], by rw [if_neg (by omega), if_pos d]⟩
    · exact Or.inr ⟨s, by omega, rfl, by rw [if_neg (by omega), if_neg d], by rw [if_neg (by omega), if_neg d]⟩
/-- begins and COPIES within their bounds -/
def tw_bnd (W : tw_Wo) (N : tw_N) (f : Nat → Int32) : Prop := ∀ q v, q < N.1 → v < tw_vc W (N.2.1 q) → -9999 ≤ (f (6 * q + v)).toInt ∧ (f (6 * q + v)).toInt ≤ 9999
def tq_B (W : tw_Wo) (N : tw_N) (bg : Nat → Int32) : Prop := (∀ q, q < N.1 → N.2.2 q ≤ 99) ∧ tw_bnd W N bg
def tw_wb (W : tw_Wo) : Prop := ∀ k v, k < W.2.length → v < tw_vc W k → -9999 ≤ ((tw_kind W k).1.getD v 0).toInt ∧ ((tw_kind W k).1.getD v 0).toInt ≤ 9999
theorem tq_numr {a : Int32} (h : f_m_isNumber a = nI 1) : -9999 ≤ a.toInt ∧ a.toInt ≤ 9999 := by
  unfold f_m_isNumber f_m_in at h
  by_cases c1 : a < (-9999 : Int32)
  · rw [if_pos c1] at h; exact absurd h (by decide)
  · rw [if_neg c1] at h
    by_cases c2 : (9999 : Int32) < a
    · rw [if_pos c2] at h; exact absurd h (by decide)
    · rw [Int32.lt_iff_toInt_lt] at c1 c2
      have e1 : (-9999 : Int32).toInt = -9999 := by decide
      have e2 : (9999 : Int32).toInt = 9999 := by decide
      omega
/-- behind a change: nothing at all, or what is there is otherwise and the class has counted it -/
def tq_chg (w : Nat) (W : tw_Wo) (lv : Nat) (N : tw_N) (pl : Nat → Nat) (bg : Nat → Int32) (dl : Bool) (st : Nat → Int32) (σ σ' : rx_St) : Prop :=
  σ' = rx_si σ 87 0 (nI 0) ∨ (∃ N' pl' bg' dl' st', tq_T w W lv N' pl' bg' dl' st' σ' ∧ (tq_B W N bg → tw_wb W → tq_B W N' bg')) ∧ σ'.1 38 8 = σ.1 38 8 + nI 1 ∧ tw_fr (fun q j => 39 ≤ q ∧ q ≤ 43 ∨ q = 38 ∨ 129 ≤ q ∧ q ≤ 133 ∨ q = 87 ∧ (j = 0 ∨ j = 60 ∨ j = 65)) σ σ'
theorem tq_set {σ : rx_St} (h : tq_T w W lv N pl bg dl st σ) (a b : Int32) : ∃ o1 o2, f_c_set w a b σ = some o1 ∧ f_m_set a b o1.2 = some o2 ∧ o1.1 = o2.1 ∧ tq_chg w W lv N pl bg dl st σ o2.2 := by
  have thr := tq_thr h (nI 0)
  have h6 := h.2.1.1.2.2.2.1
  have hn := tq_num b
  rcases tq_hasS a h thr.1 with ⟨c1, c2⟩ | ⟨s, hs, rfl, c1, c2⟩
  · refine ⟨((0 : Int32), σ), ((0 : Int32), rx_si σ 87 0 (nI 0)), ?_, ?_, rfl, Or.inl rfl⟩
    · unfold f_c_set f_tow_putSetting
      rw [c1]
      rfl
    · unfold f_m_set
      show ((f_m_isSetting a (rx_si σ 87 0 (nI 0))).bind _) = _
      rw [c2]
      rfl
  · rcases tq_num01 b with d | d
    · refine ⟨((0 : Int32), σ), ((0 : Int32), rx_si σ 87 0 (nI 0)), ?_, ?_, rfl, Or.inl rfl⟩
      · unfold f_c_set f_tow_putSetting
        rw [c1, hn, d]
        rfl
      · unfold f_m_set
        show ((f_m_isSetting (nI s) (rx_si σ 87 0 (nI 0))).bind _) = _
        rw [c2, d]
        rfl
    · obtain ⟨⟨h1, h2, h3⟩, ⟨h4, h5, h7⟩, hw⟩ := h
      have t1 := thr.1
      have q2 : f_m_isSetting (nI s) (rx_si (rx_si (rx_si σ 39 s b) 38 8 (σ.1 38 8 + nI 1)) 87 0 (nI 0)) = some (nI 1) := by
        rw [← c2]
        unfold f_m_isSetting
        simp (disch := omega) only [tw_L, tw_gN, tw_cl, tw_le, tw_lt, tw_eq, nI_add, pk_mul, tw_sub, tw_B0, tw_B1, tw_nb0, tw_nb1, tw_r1s, tw_r1n, if_true, if_false, Nat.le_refl, Nat.reduceEqDiff, Nat.reduceLeDiff, Nat.reduceLT, reduceIte]
      refine ⟨((1 : Int32), rx_si (rx_si σ 39 s b) 38 8 (σ.1 38 8 + nI 1)), ((1 : Int32), rx_si (rx_si (rx_si (rx_si σ 39 s b) 38 8 (σ.1 38 8 + nI 1)) 87 0 (nI 0)) 129 s b), ?_, ?_, rfl, Or.inr ⟨⟨N, pl, bg, dl, tw_updN st s b, ⟨⟨h1.fr (fun q j x y z => ?_), h2.fr (fun q j x y => ?_), fun i hi => ?_⟩, ⟨h4.fr (fun q j x y => ?_) ?_ ?_, h5.fr (fun q j x y => ?_) ?_, fun i hi => ?_⟩, hw⟩, fun hb _ => hb⟩, ?_, ?_⟩⟩
      · unfold f_c_set f_tow_putSetting
        rw [c1, if_neg (by decide), hn, d, if_neg (by decide)]
        simp (disch := omega) only [tw_L, tw_gN, tw_cl, tw_le, tw_lt, tw_eq, nI_add, pk_mul, tw_sub, tw_B0, tw_B1, tw_nb0, tw_nb1, tw_r1s, tw_r1n, if_true, if_false, Nat.le_refl, Nat.reduceEqDiff, Nat.reduceLeDiff, Nat.reduceLT, reduceIte, Option.bind_some]
      · unfold f_m_set
        show ((f_m_isSetting (nI s) (rx_si (rx_si (rx_si σ 39 s b) 38 8 (σ.1 38 8 + nI 1)) 87 0 (nI 0))).bind _) = _
        rw [q2, Option.bind_some, if_neg (by decide), d, if_neg (by decide)]
        simp (disch := omega) only [tw_L, tw_gN, tw_cl, tw_le, tw_lt, tw_eq, nI_add, pk_mul, tw_sub, tw_B0, tw_B1, tw_nb0, tw_nb1, tw_r1s, tw_r1n, if_true, if_false, Nat.le_refl, Nat.reduceEqDiff, Nat.reduceLeDiff, Nat.reduceLT, reduceIte]
      · rw [tw_r1n _ _ (by omega), tw_r1n _ _ (by omega), tw_r1n _ _ (by omega), tw_r1n _ _ (by omega)]
      · rw [tw_r1n _ _ (by omega), tw_r1n _ _ (by omega), tw_r1n _ _ (by omega), tw_r1n _ _ (by omega)]
      · rw [tw_r1n _ _ (by omega), tw_r1n _ _ (by omega), tw_r1n _ _ (by omega), tw_r1]
        unfold tw_updN
        by_cases e : i = s
        · rw [if_pos ⟨rfl, e⟩, if_pos e]
        · rw [if_neg (fun z => e z.2), if_neg e]; exact h3 i hi
      · rw [tw_r1n _ _ (by omega), tw_r1n _ _ (by omega), tw_r1n _ _ (by omega), tw_r1n _ _ (by omega)]
      · simp (disch := omega) only [tw_L, tw_gN, tw_cl, tw_le, tw_lt, tw_eq, nI_add, pk_mul, tw_sub, tw_B0, tw_B1, tw_nb0, tw_nb1, tw_r1s, tw_r1n, if_true, if_false, Nat.le_refl, Nat.reduceEqDiff, Nat.reduceLeDiff, Nat.reduceLT, reduceIte]
      · simp (disch := omega) only [tw_L, tw_gN, tw_cl, tw_le, tw_lt, tw_eq, nI_add, pk_mul, tw_sub, tw_B0, tw_B1, tw_nb0, tw_nb1, tw_r1s, tw_r1n, if_true, if_false, Nat.le_refl, Nat.reduceEqDiff, Nat.reduceLeDiff, Nat.reduceLT, reduceIte]
      · rw [tw_r1n _ _ (by omega), tw_r1n _ _ (by omega), tw_r1n _ _ (by omega), tw_r1n _ _ (by omega)]
      · simp (disch := omega) only [tw_L, tw_gN, tw_cl, tw_le, tw_lt, tw_eq, nI_add, pk_mul, tw_sub, tw_B0, tw_B1, tw_nb0, tw_nb1, tw_r1s, tw_r1n, if_true, if_false, Nat.le_refl, Nat.reduceEqDiff, Nat.reduceLeDiff, Nat.reduceLT, reduceIte]
      · rw [tw_r1]
        unfold tw_updN
        by_cases e : i = s
        · rw [if_pos ⟨rfl, e⟩, if_pos e]
        · rw [if_neg (fun z => e z.2), if_neg e, tw_r1n _ _ (by omega), tw_r1n _ _ (by omega), tw_r1n _ _ (by omega)]; exact h7 i hi
      · simp (disch := omega) only [tw_L, tw_gN, tw_cl, tw_le, tw_lt, tw_eq, nI_add, pk_mul, tw_sub, tw_B0, tw_B1, tw_nb0, tw_nb1, tw_r1s, tw_r1n, if_true, if_false, Nat.le_refl, Nat.reduceEqDiff, Nat.reduceLeDiff, Nat.reduceLT, reduceIte]
      · exact (((tw_fr.rf.si (by omega)).si (by omega)).si (by omega)).si (by omega)
theorem tq_begin {σ : rx_St} (h : tq_T w W lv N pl bg dl st σ) (a b x : Int32) : ∃ o1 o2, f_c_begin w a b x σ = some o1 ∧ f_m_begin a b x o1.2 = some o2 ∧ o1.1 = o2.1 ∧ tq_chg w W lv N pl bg dl st σ o2.2 := by
  have thr := tq_thr h (nI 0)
  have hn := tq_num x
  rcases tq_ovar a b h thr.1 with ⟨c1, c2⟩ | ⟨o, v, ho, hv, rfl, rfl, c1, c2⟩
  · refine ⟨((0 : Int32), σ), ((0 : Int32), rx_si σ 87 0 (nI 0)), ?_, ?_, rfl, Or.inl rfl⟩
    · unfold f_c_begin f_tow_putBegin
      rw [c1]
      rfl
    · unfold f_m_begin
      show ((f_m_isVar a b (rx_si σ 87 0 (nI 0))).bind _) = _
      rw [c2]
      rfl
  · rcases tq_num01 x with d | d
    · refine ⟨((0 : Int32), σ), ((0 : Int32), rx_si σ 87 0 (nI 0)), ?_, ?_, rfl, Or.inl rfl⟩
      · unfold f_c_begin f_tow_putBegin
        rw [c1, Option.bind_some, hn, d]
        rfl
      · unfold f_m_begin
        show ((f_m_isVar (nI o) (nI v) (rx_si σ 87 0 (nI 0))).bind _) = _
        rw [c2, d]
        rfl
    · obtain ⟨⟨h1, h2, h3⟩, ⟨h4, h5, h7⟩, hw⟩ := id h
      obtain ⟨⟨a1, a2⟩, a3, a4, a5⟩ := id h1
      obtain ⟨⟨b1, b2⟩, b3, b4, b5⟩ := id h4
      have hs6 := a5.1
      have hv6 := (a5.2.2 _ (a3 o ho).1.2).1
      have q2 : f_m_isVar (nI o) (nI v) (rx_si (rx_si (rx_si σ 43 (6 * o + v) x) 38 8 (σ.1 38 8 + nI 1)) 87 0 (nI 0)) = some (nI 1) := by
        have e : f_m_isVar (nI o) (nI v) (rx_si (rx_si (rx_si σ 43 (6 * o + v) x) 38 8 (σ.1 38 8 + nI 1)) 87 0 (nI 0)) = f_m_isVar (nI o) (nI v) (rx_si σ 87 0 (nI 0)) := by
          unfold f_m_isVar f_m_isOne
          simp (disch := omega) only [tw_L, tw_gN, tw_cl, tw_le, tw_lt, tw_eq, nI_add, pk_mul, tw_sub, tw_B0, tw_B1, tw_nb0, tw_nb1, tw_r1s, tw_r1n, if_true, if_false, Nat.le_refl, Nat.reduceEqDiff, Nat.reduceLeDiff, Nat.reduceLT, reduceIte]
        rw [e]
        exact c2
      have hbnd : tq_B W N bg → tw_wb W → tq_B W N (tw_updN bg (6 * o + v) x) := fun hb _ => ⟨hb.1, fun q u hq hu => by
        unfold tw_updN
        by_cases e : 6 * q + u = 6 * o + v
        · rw [if_pos e]; exact tq_numr d
        · rw [if_neg e]; exact hb.2 q u hq hu⟩
      refine ⟨((1 : Int32), rx_si (rx_si σ 43 (6 * o + v) x) 38 8 (σ.1 38 8 + nI 1)), ((1 : Int32), rx_si (rx_si (rx_si (rx_si σ 43 (6 * o + v) x) 38 8 (σ.1 38 8 + nI 1)) 87 0 (nI 0)) 133 (6 * o + v) x), ?_, ?_, rfl, Or.inr ⟨⟨N, pl, tw_updN bg (6 * o + v) x, dl, st, ⟨⟨⟨⟨?_, a2⟩, fun q hq => ?_, ?_, a5⟩, h2.fr (fun q j x y => ?_), fun i hi => ?_⟩, ⟨⟨⟨?_, b2⟩, fun q hq => ?_, ?_, b5⟩, h5.fr (fun q j x y => ?_) ?_, fun i hi => ?_⟩, hw⟩, hbnd⟩, ?_, ?_⟩⟩
      · unfold f_c_begin f_tow_putBegin
        rw [c1, Option.bind_some, if_neg (by decide), hn, d, if_neg (by decide)]
        simp (disch := omega) only [tw_L, tw_gN, tw_cl, tw_le, tw_lt, tw_eq, nI_add, pk_mul, tw_sub, tw_B0, tw_B1, tw_nb0, tw_nb1, tw_r1s, tw_r1n, if_true, if_false, Nat.le_refl, Nat.reduceEqDiff, Nat.reduceLeDiff, Nat.reduceLT, reduceIte, Option.bind_some]
        rw [show o * 6 + v = 6 * o + v by omega]
      · unfold f_m_begin
        show ((f_m_isVar (nI o) (nI v) (rx_si (rx_si (rx_si σ 43 (6 * o + v) x) 38 8 (σ.1 38 8 + nI 1)) 87 0 (nI 0))).bind _) = _
        rw [q2, Option.bind_some, if_neg (by decide), d, if_neg (by decide)]
        simp (disch := omega) only [tw_L, tw_gN, tw_cl, tw_le, tw_lt, tw_eq, nI_add, pk_mul, tw_sub, tw_B0, tw_B1, tw_nb0, tw_nb1, tw_r1s, tw_r1n, if_true, if_false, Nat.le_refl, Nat.reduceEqDiff, Nat.reduceLeDiff, Nat.reduceLT, reduceIte]
      · simp (disch := omega) only [tw_L, tw_gN, tw_cl, tw_le, tw_lt, tw_eq, nI_add, pk_mul, tw_sub, tw_B0, tw_B1, tw_nb0, tw_nb1, tw_r1s, tw_r1n, if_true, if_false, Nat.le_refl, Nat.reduceEqDiff, Nat.reduceLeDiff, Nat.reduceLT, reduceIte]
        exact a1
      · obtain ⟨⟨g1, g2⟩, g3, ⟨g4, g5⟩, g7⟩ := a3 q hq
        refine ⟨⟨by simp (disch := omega) only [tw_L, tw_gN, tw_cl, tw_le, tw_lt, tw_eq, nI_add, pk_mul, tw_sub, tw_B0, tw_B1, tw_nb0, tw_nb1, tw_r1s, tw_r1n, if_true, if_false, Nat.le_refl, Nat.reduceEqDiff, Nat.reduceLeDiff, Nat.reduceLT, reduceIte]; exact g1, g2⟩, by simp (disch := omega) only [tw_L, tw_gN, tw_cl, tw_le, tw_lt, tw_eq, nI_add, pk_mul, tw_sub, tw_B0, tw_B1, tw_nb0, tw_nb1, tw_r1s, tw_r1n, if_true, if_false, Nat.le_refl, Nat.reduceEqDiff, Nat.reduceLeDiff, Nat.reduceLT, reduceIte]; exact g3, ⟨by simp (disch := omega) only [tw_L, tw_gN, tw_cl, tw_le, tw_lt, tw_eq, nI_add, pk_mul, tw_sub, tw_B0, tw_B1, tw_nb0, tw_nb1, tw_r1s, tw_r1n, if_true, if_false, Nat.le_refl, Nat.reduceEqDiff, Nat.reduceLeDiff, Nat.reduceLT, reduceIte]; exact g4, g5⟩, fun u hu => ?_⟩
        rw [tw_r1n _ _ (by omega), tw_r1n _ _ (by omega), tw_r1n _ _ (by omega), tw_r1]
        unfold tw_updN
        by_cases e : 6 * q + u = 6 * o + v
        · rw [if_pos ⟨rfl, e⟩, if_pos e]
        · rw [if_neg (fun z => e z.2), if_neg e]; exact g7 u hu
      · simp (disch := omega) only [tw_L, tw_gN, tw_cl, tw_le, tw_lt, tw_eq, nI_add, pk_mul, tw_sub, tw_B0, tw_B1, tw_nb0, tw_nb1, tw_r1s, tw_r1n, if_true, if_false, Nat.le_refl, Nat.reduceEqDiff, Nat.reduceLeDiff, Nat.reduceLT, reduceIte]
        exact a4
      · rw [tw_r1n _ _ (by omega), tw_r1n _ _ (by omega), tw_r1n _ _ (by omega), tw_r1n _ _ (by omega)]
      · simp (disch := omega) only [tw_L, tw_gN, tw_cl, tw_le, tw_lt, tw_eq, nI_add, pk_mul, tw_sub, tw_B0, tw_B1, tw_nb0, tw_nb1, tw_r1s, tw_r1n, if_true, if_false, Nat.le_refl, Nat.reduceEqDiff, Nat.reduceLeDiff, Nat.reduceLT, reduceIte]
        exact h3 i hi
      · simp (disch := omega) only [tw_L, tw_gN, tw_cl, tw_le, tw_lt, tw_eq, nI_add, pk_mul, tw_sub, tw_B0, tw_B1, tw_nb0, tw_nb1, tw_r1s, tw_r1n, if_true, if_false, Nat.le_refl, Nat.reduceEqDiff, Nat.reduceLeDiff, Nat.reduceLT, reduceIte]
        exact b1
      · obtain ⟨⟨g1, g2⟩, g3, ⟨g4, g5⟩, g7⟩ := b3 q hq
        refine ⟨⟨by simp (disch := omega) only [tw_L, tw_gN, tw_cl, tw_le, tw_lt, tw_eq, nI_add, pk_mul, tw_sub, tw_B0, tw_B1, tw_nb0, tw_nb1, tw_r1s, tw_r1n, if_true, if_false, Nat.le_refl, Nat.reduceEqDiff, Nat.reduceLeDiff, Nat.reduceLT, reduceIte]; exact g1, g2⟩, by simp (disch := omega) only [tw_L, tw_gN, tw_cl, tw_le, tw_lt, tw_eq, nI_add, pk_mul, tw_sub, tw_B0, tw_B1, tw_nb0, tw_nb1, tw_r1s, tw_r1n, if_true, if_false, Nat.le_refl, Nat.reduceEqDiff, Nat.reduceLeDiff, Nat.reduceLT, reduceIte]; exact g3, ⟨by simp (disch := omega) only [tw_L, tw_gN, tw_cl, tw_le, tw_lt, tw_eq, nI_add, pk_mul, tw_sub, tw_B0, tw_B1, tw_nb0, tw_nb1, tw_r1s, tw_r1n, if_true, if_false, Nat.le_refl, Nat.reduceEqDiff, Nat.reduceLeDiff, Nat.reduceLT, reduceIte]; exact g4, g5⟩, fun u hu => ?_⟩
        rw [tw_r1]
        unfold tw_updN
        by_cases e : 6 * q + u = 6 * o + v
        · rw [if_pos ⟨rfl, e⟩, if_pos e]
        · rw [if_neg (fun z => e z.2), if_neg e, tw_r1n _ _ (by omega), tw_r1n _ _ (by omega), tw_r1n _ _ (by omega)]; exact g7 u hu
      · simp (disch := omega) only [tw_L, tw_gN, tw_cl, tw_le, tw_lt, tw_eq, nI_add, pk_mul, tw_sub, tw_B0, tw_B1, tw_nb0, tw_nb1, tw_r1s, tw_r1n, if_true, if_false, Nat.le_refl, Nat.reduceEqDiff, Nat.reduceLeDiff, Nat.reduceLT, reduceIte]
        exact b4
      · rw [tw_r1n _ _ (by omega), tw_r1n _ _ (by omega), tw_r1n _ _ (by omega), tw_r1n _ _ (by omega)]
      · simp (disch := omega) only [tw_L, tw_gN, tw_cl, tw_le, tw_lt, tw_eq, nI_add, pk_mul, tw_sub, tw_B0, tw_B1, tw_nb0, tw_nb1, tw_r1s, tw_r1n, if_true, if_false, Nat.le_refl, Nat.reduceEqDiff, Nat.reduceLeDiff, Nat.reduceLT, reduceIte]
      · simp (disch := omega) only [tw_L, tw_gN, tw_cl, tw_le, tw_lt, tw_eq, nI_add, pk_mul, tw_sub, tw_B0, tw_B1, tw_nb0, tw_nb1, tw_r1s, tw_r1n, if_true, if_false, Nat.le_refl, Nat.reduceEqDiff, Nat.reduceLeDiff, Nat.reduceLT, reduceIte]
        exact h7 i hi
      · simp (disch := omega) only [tw_L, tw_gN, tw_cl, tw_le, tw_lt, tw_eq, nI_add, pk_mul, tw_sub, tw_B0, tw_B1, tw_nb0, tw_nb1, tw_r1s, tw_r1n, if_true, if_false, Nat.le_refl, Nat.reduceEqDiff, Nat.reduceLeDiff, Nat.reduceLT, reduceIte]
      · exact (((tw_fr.rf.si (by omega)).si (by omega)).si (by omega)).si (by omega)
theorem tq_order {σ : rx_St} (h : tq_T w W lv N pl bg dl st σ) (a : Int32) : ∃ o1 o2, f_c_order (if a = 0 then 0 else 1) σ = some o1 ∧ f_m_order (if a = 0 then 0 else 1) o1 = some o2 ∧ tq_chg w W lv N pl bg dl st σ o2 := by
  obtain ⟨d, hd⟩ : ∃ d : Bool, (if a = 0 then (0 : Int32) else 1) = tw_B d := by
    by_cases c : a = 0
    · exact ⟨false, if_pos c⟩
    · exact ⟨true, if_neg c⟩
  rw [hd]
  obtain ⟨⟨h1, h2, h3⟩, ⟨h4, h5, h7⟩, hw⟩ := id h
  obtain ⟨⟨a1, a2⟩, a3, a4, a5⟩ := id h1
  obtain ⟨⟨b1, b2⟩, b3, b4, b5⟩ := id h4
  have hs6 := a5.1
  have h01 : tw_B d = 0 ∨ tw_B d = 1 := by cases d; exact Or.inl rfl; exact Or.inr rfl
  refine ⟨rx_si (rx_si σ 38 7 (tw_B d)) 38 8 (σ.1 38 8 + nI 1), rx_si (rx_si (rx_si (rx_si σ 38 7 (tw_B d)) 38 8 (σ.1 38 8 + nI 1)) 87 0 (nI 0)) 87 65 (tw_B d), ?_, ?_, Or.inr ⟨⟨N, pl, bg, d, st, ⟨⟨⟨⟨?_, a2⟩, fun q hq => ?_, ?_, a5⟩, h2.fr (fun q j x y => ?_), fun i hi => ?_⟩, ⟨⟨⟨?_, b2⟩, fun q hq => ?_, ?_, b5⟩, h5.fr (fun q j x y => ?_) ?_, fun i hi => ?_⟩, hw⟩, fun hb _ => hb⟩, ?_, ?_⟩⟩
  · unfold f_c_order f_tow_dealOrder
    rw [tw_cE h01]
    simp (disch := omega) only [tw_L, tw_gN, tw_cl, tw_le, tw_lt, tw_eq, nI_add, pk_mul, tw_sub, tw_B0, tw_B1, tw_nb0, tw_nb1, tw_r1s, tw_r1n, if_true, if_false, Nat.le_refl, Nat.reduceEqDiff, Nat.reduceLeDiff, Nat.reduceLT, reduceIte, Option.bind_some]
  · unfold f_m_order
    rw [tw_cE h01]
    simp (disch := omega) only [tw_L, tw_gN, tw_cl, tw_le, tw_lt, tw_eq, nI_add, pk_mul, tw_sub, tw_B0, tw_B1, tw_nb0, tw_nb1, tw_r1s, tw_r1n, if_true, if_false, Nat.le_refl, Nat.reduceEqDiff, Nat.reduceLeDiff, Nat.reduceLT, reduceIte]
  · simp (disch := omega) only [tw_L, tw_gN, tw_cl, tw_le, tw_lt, tw_eq, nI_add, pk_mul, tw_sub, tw_B0, tw_B1, tw_nb0, tw_nb1, tw_r1s, tw_r1n, if_true, if_false, Nat.le_refl, Nat.reduceEqDiff, Nat.reduceLeDiff, Nat.reduceLT, reduceIte]
    exact a1
  · obtain ⟨⟨g1, g2⟩, g3, ⟨g4, g5⟩, g7⟩ := a3 q hq
    exact ⟨⟨by simp (disch := omega) only [tw_L, tw_gN, tw_cl, tw_le, tw_lt, tw_eq, nI_add, pk_mul, tw_sub, tw_B0, tw_B1, tw_nb0, tw_nb1, tw_r1s, tw_r1n, if_true, if_false, Nat.le_refl, Nat.reduceEqDiff, Nat.reduceLeDiff, Nat.reduceLT, reduceIte]; exact g1, g2⟩, by simp (disch := omega) only [tw_L, tw_gN, tw_cl, tw_le, tw_lt, tw_eq, nI_add, pk_mul, tw_sub, tw_B0, tw_B1, tw_nb0, tw_nb1, tw_r1s, tw_r1n, if_true, if_false, Nat.le_refl, Nat.reduceEqDiff, Nat.reduceLeDiff, Nat.reduceLT, reduceIte]; exact g3, ⟨by simp (disch := omega) only [tw_L, tw_gN, tw_cl, tw_le, tw_lt, tw_eq, nI_add, pk_mul, tw_sub, tw_B0, tw_B1, tw_nb0, tw_nb1, tw_r1s, tw_r1n, if_true, if_false, Nat.le_refl, Nat.reduceEqDiff, Nat.reduceLeDiff, Nat.reduceLT, reduceIte]; exact g4, g5⟩, fun u hu => by simp (disch := omega) only [tw_L, tw_gN, tw_cl, tw_le, tw_lt, tw_eq, nI_add, pk_mul, tw_sub, tw_B0, tw_B1, tw_nb0, tw_nb1, tw_r1s, tw_r1n, if_true, if_false, Nat.le_refl, Nat.reduceEqDiff, Nat.reduceLeDiff, Nat.reduceLT, reduceIte]; exact g7 u hu⟩
  · simp (disch := omega) only [tw_L, tw_gN, tw_cl, tw_le, tw_lt, tw_eq, nI_add, pk_mul, tw_sub, tw_B0, tw_B1, tw_nb0, tw_nb1, tw_r1s, tw_r1n, if_true, if_false, Nat.le_refl, Nat.reduceEqDiff, Nat.reduceLeDiff, Nat.reduceLT, reduceIte]
  · rw [tw_r1n _ _ (by omega), tw_r1n _ _ (by omega), tw_r1n _ _ (by omega), tw_r1n _ _ (by omega)]
  · simp (disch := omega) only [tw_L, tw_gN, tw_cl, tw_le, tw_lt, tw_eq, nI_add, pk_mul, tw_sub, tw_B0, tw_B1, tw_nb0, tw_nb1, tw_r1s, tw_r1n, if_true, if_false, Nat.le_refl, Nat.reduceEqDiff, Nat.reduceLeDiff, Nat.reduceLT, reduceIte]
    exact h3 i hi
  · simp (disch := omega) only [tw_L, tw_gN, tw_cl, tw_le, tw_lt, tw_eq, nI_add, pk_mul, tw_sub, tw_B0, tw_B1, tw_nb0, tw_nb1, tw_r1s, tw_r1n, if_true, if_false, Nat.le_refl, Nat.reduceEqDiff, Nat.reduceLeDiff, Nat.reduceLT, reduceIte]
    exact b1
  · obtain ⟨⟨g1, g2⟩, g3, ⟨g4, g5⟩, g7⟩ := b3 q hq
    exact ⟨⟨by simp (disch := omega) only [tw_L, tw_gN, tw_cl, tw_le, tw_lt, tw_eq, nI_add, pk_mul, tw_sub, tw_B0, tw_B1, tw_nb0, tw_nb1, tw_r1s, tw_r1n, if_true, if_false, Nat.le_refl, Nat.reduceEqDiff, Nat.reduceLeDiff, Nat.reduceLT, reduceIte]; exact g1, g2⟩, by simp (disch := omega) only [tw_L, tw_gN, tw_cl, tw_le, tw_lt, tw_eq, nI_add, pk_mul, tw_sub, tw_B0, tw_B1, tw_nb0, tw_nb1, tw_r1s, tw_r1n, if_true, if_false, Nat.le_refl, Nat.reduceEqDiff, Nat.reduceLeDiff, Nat.reduceLT, reduceIte]; exact g3, ⟨by simp (disch := omega) only [tw_L, tw_gN, tw_cl, tw_le, tw_lt, tw_eq, nI_add, pk_mul, tw_sub, tw_B0, tw_B1, tw_nb0, tw_nb1, tw_r1s, tw_r1n, if_true, if_false, Nat.le_refl, Nat.reduceEqDiff, Nat.reduceLeDiff, Nat.reduceLT, reduceIte]; exact g4, g5⟩, fun u hu => by simp (disch := omega) only [tw_L, tw_gN, tw_cl, tw_le, tw_lt, tw_eq, nI_add, pk_mul, tw_sub, tw_B0, tw_B1, tw_nb0, tw_nb1, tw_r1s, tw_r1n, if_true, if_false, Nat.le_refl, Nat.reduceEqDiff, Nat.reduceLeDiff, Nat.reduceLT, reduceIte]; exact g7 u hu⟩
  · simp (disch := omega) only [tw_L, tw_gN, tw_cl, tw_le, tw_lt, tw_eq, nI_add, pk_mul, tw_sub, tw_B0, tw_B1, tw_nb0, tw_nb1, tw_r1s, tw_r1n, if_true, if_false, Nat.le_refl, Nat.reduceEqDiff, Nat.reduceLeDiff, Nat.reduceLT, reduceIte]
  · rw [tw_r1n _ _ (by omega), tw_r1n _ _ (by omega), tw_r1n _ _ (by omega), tw_r1n _ _ (by omega)]
  · simp (disch := omega) only [tw_L, tw_gN, tw_cl, tw_le, tw_lt, tw_eq, nI_add, pk_mul, tw_sub, tw_B0, tw_B1, tw_nb0, tw_nb1, tw_r1s, tw_r1n, if_true, if_false, Nat.le_refl, Nat.reduceEqDiff, Nat.reduceLeDiff, Nat.reduceLT, reduceIte]
  · simp (disch := omega) only [tw_L, tw_gN, tw_cl, tw_le, tw_lt, tw_eq, nI_add, pk_mul, tw_sub, tw_B0, tw_B1, tw_nb0, tw_nb1, tw_r1s, tw_r1n, if_true, if_false, Nat.le_refl, Nat.reduceEqDiff, Nat.reduceLeDiff, Nat.reduceLT, reduceIte]
    exact h7 i hi
  · simp (disch := omega) only [tw_L, tw_gN, tw_cl, tw_le, tw_lt, tw_eq, nI_add, pk_mul, tw_sub, tw_B0, tw_B1, tw_nb0, tw_nb1, tw_r1s, tw_r1n, if_true, if_false, Nat.le_refl, Nat.reduceEqDiff, Nat.reduceLeDiff, Nat.reduceLT, reduceIte]
  · exact (((tw_fr.rf.si (by omega)).si (by omega)).si (by omega)).si (by omega)
end TQ3
