/-! THE TAPE on both sides -/
theorem tq_byte_ext (b : BitVec 32) (s : Nat) (hs : s = 0 ∨ s = 8 ∨ s = 16 ∨ s = 24) : ((b.sshiftRight s).setWidth 8).signExtend 32 &&& (255#32) = (b >>> s) &&& (255#32) := by
  have h255 : ∀ i, i < 32 → (255#32).getLsbD i = decide (i < 8) := by decide
  apply BitVec.eq_of_getLsbD_eq
  intro i hi
  rw [BitVec.getLsbD_and, BitVec.getLsbD_and, h255 i hi]
  by_cases c : i < 8
  · rw [decide_eq_true c, Bool.and_true, Bool.and_true, BitVec.getLsbD_signExtend, BitVec.getLsbD_setWidth, BitVec.getLsbD_sshiftRight, BitVec.getLsbD_ushiftRight]
    have h1 : i < 32 := hi
    have h2 : s + i < 32 := by omega
    simp [h1, h2, c]
  · rw [decide_eq_false c, Bool.and_false, Bool.and_false]
theorem tq_byte (v : Int32) (s : Nat) (hs : s = 0 ∨ s = 8 ∨ s = 16 ∨ s = 24) : vp_nar .byte ((rx_ishr v (nI s)).toInt8.toInt32) &&& (255 : Int32) = (rx_iushr v (nI s)) &&& (255 : Int32) := by
  have hn : ∀ x : Int8, vp_nar .byte x.toInt32 = x.toInt32 := fun x => by
    show Int8.toInt32 (Int32.toInt8 (Int8.toInt32 x)) = Int8.toInt32 x
    rw [Int8.toInt8_toInt32]
  rw [hn]
  apply Int32.toBitVec_inj.mp
  have key := tq_byte_ext v.toBitVec s hs
  have e1 : (rx_ishr v (nI s)).toBitVec = v.toBitVec.sshiftRight s := by
    unfold rx_ishr
    rw [Int32.toBitVec_shiftRight]
    rcases hs with rfl | rfl | rfl | rfl <;> rfl
  have e2 : (rx_iushr v (nI s)).toBitVec = v.toBitVec >>> s := by
    unfold rx_iushr
    rcases hs with rfl | rfl | rfl | rfl <;> rfl
  rw [Int32.toBitVec_and, Int32.toBitVec_and, e2, Int8.toBitVec_toInt32, Int32.toBitVec_toInt8, e1]
  rw [show ∀ x : BitVec 32, x.signExtend 8 = x.setWidth 8 from fun x => BitVec.signExtend_eq_setWidth_of_le x (by decide)]
  exact key
def tq_bt (a : Int32) (k : Nat) : Int32 := rx_iushr a (nI (24 - 8 * k)) &&& (255 : Int32)
theorem tq_app {σ : rx_St} {n : Nat} (a : Int32) (hn : n + 4 ≤ 2000) (h : σ.1 1 1 = nI n) : tw_ok (f_tap_append a σ) (fun σ' => tw_fr (fun q j => q = 1 ∧ j = 1 ∨ q = 2 ∧ n ≤ j) σ σ' ∧ σ'.1 1 1 = nI (n + 4) ∧ ∀ k, k < 4 → σ'.1 2 (n + k) = tq_bt a k) := by
  obtain ⟨m, hm⟩ : ∃ m, rx_fu = m + 5 := ⟨99995, rfl⟩
  have d1 : nI 24 + -nI 8 = nI 16 := by decide
  have d2 : nI 16 + -nI 8 = nI 8 := by decide
  have d3 : nI 8 + -nI 8 = nI 0 := by decide
  have d4 : nI 0 + -nI 8 < nI 0 := by decide
  have l2 : ¬ nI 16 < nI 0 := by decide
  have l3 : ¬ nI 8 < nI 0 := by decide
  unfold f_tap_append
  rw [hm, f_tap_append_3]
  simp (disch := omega) only [tw_L, tw_gN, tw_cl, tw_le, tw_lt, tw_eq, nI_add, pk_mul, tw_sub, tw_B0, tw_B1, tw_nb0, tw_nb1, tw_r1s, tw_r1n, if_true, if_false, Nat.le_refl, Nat.reduceEqDiff, Nat.reduceLeDiff, Nat.reduceLT, reduceIte, h]
  rw [if_neg (by omega), f_tap_append_3]
  simp (disch := omega) only [tw_L, tw_gN, tw_cl, tw_le, tw_lt, tw_eq, nI_add, pk_mul, tw_sub, tw_B0, tw_B1, tw_nb0, tw_nb1, tw_r1s, tw_r1n, if_true, if_false, Nat.le_refl, Nat.reduceEqDiff, Nat.reduceLeDiff, Nat.reduceLT, reduceIte, d1]
  rw [if_neg (by omega), f_tap_append_3]
  simp (disch := omega) only [tw_L, tw_gN, tw_cl, tw_le, tw_lt, tw_eq, nI_add, pk_mul, tw_sub, tw_B0, tw_B1, tw_nb0, tw_nb1, tw_r1s, tw_r1n, if_true, if_false, Nat.le_refl, Nat.reduceEqDiff, Nat.reduceLeDiff, Nat.reduceLT, reduceIte, d2]
  rw [if_neg (by omega), f_tap_append_3]
  simp (disch := omega) only [tw_L, tw_gN, tw_cl, tw_le, tw_lt, tw_eq, nI_add, pk_mul, tw_sub, tw_B0, tw_B1, tw_nb0, tw_nb1, tw_r1s, tw_r1n, if_true, if_false, Nat.le_refl, Nat.reduceEqDiff, Nat.reduceLeDiff, Nat.reduceLT, reduceIte, d3]
  rw [if_neg (by omega), f_tap_append_3, if_pos (show nI 0 + -nI 8 < (0 : Int32) from d4), tw_some]
  refine ⟨?_, ?_, fun k hk => ?_⟩
  · exact (((((((tw_fr.rf.si (by omega)).si (by omega)).si (by omega)).si (by omega)).si (by omega)).si (by omega)).si (by omega)).si (by omega)
  · simp (disch := omega) only [tw_L, tw_gN, tw_cl, tw_le, tw_lt, tw_eq, nI_add, pk_mul, tw_sub, tw_B0, tw_B1, tw_nb0, tw_nb1, tw_r1s, tw_r1n, if_true, if_false, Nat.le_refl, Nat.reduceEqDiff, Nat.reduceLeDiff, Nat.reduceLT, reduceIte]
  · have hk4 : k = 0 ∨ k = 1 ∨ k = 2 ∨ k = 3 := by omega
    rcases hk4 with rfl | rfl | rfl | rfl
    all_goals
      simp (disch := omega) only [tw_L, tw_gN, tw_cl, tw_le, tw_lt, tw_eq, nI_add, pk_mul, tw_sub, tw_B0, tw_B1, tw_nb0, tw_nb1, tw_r1s, tw_r1n, if_true, if_false, Nat.le_refl, Nat.reduceEqDiff, Nat.reduceLeDiff, Nat.reduceLT, reduceIte, Nat.add_zero]
      rfl
theorem tq_put {σ : rx_St} {n : Nat} (a : Int32) (hn : n + 4 ≤ 2000) (h : σ.1 87 2 = nI n) : tw_ok (f_m_put a σ) (fun σ' => tw_fr (fun q j => q = 87 ∧ j = 2 ∨ q = 88 ∧ n ≤ j) σ σ' ∧ σ'.1 87 2 = nI (n + 4) ∧ ∀ k, k < 4 → σ'.1 88 (n + k) &&& (255 : Int32) = tq_bt a k) := by
  obtain ⟨m, hm⟩ : ∃ m, rx_fu = m + 5 := ⟨99995, rfl⟩
  have d1 : nI 24 + -nI 8 = nI 16 := by decide
  have d2 : nI 16 + -nI 8 = nI 8 := by decide
  have d3 : nI 8 + -nI 8 = nI 0 := by decide
  have d4 : nI 0 + -nI 8 < nI 0 := by decide
  unfold f_m_put
  rw [hm, f_m_put_3]
  simp (disch := omega) only [tw_L, tw_gN, tw_cl, tw_le, tw_lt, tw_eq, nI_add, pk_mul, tw_sub, tw_B0, tw_B1, tw_nb0, tw_nb1, tw_r1s, tw_r1n, if_true, if_false, Nat.le_refl, Nat.reduceEqDiff, Nat.reduceLeDiff, Nat.reduceLT, reduceIte, h]
  rw [f_m_put_3]
  simp (disch := omega) only [tw_L, tw_gN, tw_cl, tw_le, tw_lt, tw_eq, nI_add, pk_mul, tw_sub, tw_B0, tw_B1, tw_nb0, tw_nb1, tw_r1s, tw_r1n, if_true, if_false, Nat.le_refl, Nat.reduceEqDiff, Nat.reduceLeDiff, Nat.reduceLT, reduceIte, d1]
  rw [f_m_put_3]
  simp (disch := omega) only [tw_L, tw_gN, tw_cl, tw_le, tw_lt, tw_eq, nI_add, pk_mul, tw_sub, tw_B0, tw_B1, tw_nb0, tw_nb1, tw_r1s, tw_r1n, if_true, if_false, Nat.le_refl, Nat.reduceEqDiff, Nat.reduceLeDiff, Nat.reduceLT, reduceIte, d2]
  rw [f_m_put_3]
  simp (disch := omega) only [tw_L, tw_gN, tw_cl, tw_le, tw_lt, tw_eq, nI_add, pk_mul, tw_sub, tw_B0, tw_B1, tw_nb0, tw_nb1, tw_r1s, tw_r1n, if_true, if_false, Nat.le_refl, Nat.reduceEqDiff, Nat.reduceLeDiff, Nat.reduceLT, reduceIte, d3]
  rw [f_m_put_3, if_pos (show nI 0 + -nI 8 < (0 : Int32) from d4), tw_some]
  refine ⟨?_, ?_, fun k hk => ?_⟩
  · exact (((((((tw_fr.rf.si (by omega)).si (by omega)).si (by omega)).si (by omega)).si (by omega)).si (by omega)).si (by omega)).si (by omega)
  · simp (disch := omega) only [tw_L, tw_gN, tw_cl, tw_le, tw_lt, tw_eq, nI_add, pk_mul, tw_sub, tw_B0, tw_B1, tw_nb0, tw_nb1, tw_r1s, tw_r1n, if_true, if_false, Nat.le_refl, Nat.reduceEqDiff, Nat.reduceLeDiff, Nat.reduceLT, reduceIte]
  · have hk4 : k = 0 ∨ k = 1 ∨ k = 2 ∨ k = 3 := by omega
    unfold tq_bt
    rcases hk4 with rfl | rfl | rfl | rfl
    all_goals
      rw [← tq_byte a _ (by omega)]
      simp (disch := omega) only [tw_L, tw_gN, tw_cl, tw_le, tw_lt, tw_eq, nI_add, pk_mul, tw_sub, tw_B0, tw_B1, tw_nb0, tw_nb1, tw_r1s, tw_r1n, if_true, if_false, Nat.le_refl, Nat.reduceEqDiff, Nat.reduceLeDiff, Nat.reduceLT, reduceIte, Nat.add_zero]
/-- the tape's bytes in the class's rows and in the model's -/
def tq_tape (n : Nat) (σ : rx_St) : Prop := (σ.1 1 1 = nI n ∧ σ.1 87 2 = nI n ∧ n ≤ 2000) ∧ ∀ j, j < n → σ.1 88 j &&& (255 : Int32) = σ.1 2 j
theorem tq_feed {σ : rx_St} {n : Nat} (h : tq_tape n σ) (a0 a1 a2 a3 a4 : Int32) : ∃ o1 o2, f_c_feed a0 a1 a2 a3 a4 σ = some o1 ∧ f_m_feed a0 a1 a2 a3 a4 o1.2 = some o2 ∧ o1.1 = o2.1 ∧ tw_fr (fun q j => q = 1 ∧ j = 1 ∨ q = 2 ∨ q = 87 ∧ (j = 0 ∨ j = 2) ∨ q = 88) σ o2.2 ∧ ∃ n', tq_tape n' o2.2 := by
  obtain ⟨⟨h1, h2, h3⟩, h4⟩ := h
  by_cases c : n + 20 ≤ 2000
  · obtain ⟨σ1, p1, f1, l1, b1⟩ := tq_app a0 (by omega) h1
    obtain ⟨σ2, p2, f2, l2, b2⟩ := tq_app a1 (by omega) l1
    obtain ⟨σ3, p3, f3, l3, b3⟩ := tq_app a2 (by omega) l2
    obtain ⟨σ4, p4, f4, l4, b4⟩ := tq_app a3 (by omega) l3
    obtain ⟨σ5, p5, f5, l5, b5⟩ := tq_app a4 (by omega) l4
    have hm : (rx_si σ5 87 0 (nI 0)).1 87 2 = nI n := by rw [tw_r1n _ _ (by omega), f5.i (by omega), f4.i (by omega), f3.i (by omega), f2.i (by omega), f1.i (by omega)]; exact h2
    obtain ⟨τ1, q1, g1, m1, e1⟩ := tq_put a0 (by omega) hm
    obtain ⟨τ2, q2, g2, m2, e2⟩ := tq_put a1 (by omega) m1
    obtain ⟨τ3, q3, g3, m3, e3⟩ := tq_put a2 (by omega) m2
    obtain ⟨τ4, q4, g4, m4, e4⟩ := tq_put a3 (by omega) m3
    obtain ⟨τ5, q5, g5, m5, e5⟩ := tq_put a4 (by omega) m4
    have k0 : ∀ j, τ5.1 2 j = σ5.1 2 j := fun j => by rw [g5.i (by omega), g4.i (by omega), g3.i (by omega), g2.i (by omega), g1.i (by omega), tw_r1n _ _ (by omega)]
    have k1 : τ5.1 1 1 = σ5.1 1 1 := by rw [g5.i (by omega), g4.i (by omega), g3.i (by omega), g2.i (by omega), g1.i (by omega), tw_r1n _ _ (by omega)]
    refine ⟨(σ5.1 1 1, σ5), (τ5.1 87 2, τ5), ?_, ?_, l5.trans m5.symm, ?_, n + 4 + 4 + 4 + 4 + 4, ⟨k1.trans l5, m5, by omega⟩, fun j hj => ?_⟩
    · unfold f_c_feed
      simp (disch := omega) only [tw_L, tw_gN, tw_cl, tw_le, tw_lt, tw_eq, nI_add, pk_mul, tw_sub, tw_B0, tw_B1, tw_nb0, tw_nb1, tw_r1s, tw_r1n, if_true, if_false, Nat.le_refl, Nat.reduceEqDiff, Nat.reduceLeDiff, Nat.reduceLT, reduceIte, h1]
      rw [if_pos (by omega), p1, Option.bind_some, p2, Option.bind_some, p3, Option.bind_some, p4, Option.bind_some, p5, Option.bind_some]
    · unfold f_m_feed
      show (if (rx_si σ5 87 0 (nI 0)).1 87 2 + (20 : Int32) ≤ (2000 : Int32) then (f_m_put a0 (rx_si σ5 87 0 (nI 0))).bind _ else _) = _
      rw [hm]
      simp (disch := omega) only [tw_L, tw_gN, tw_cl, tw_le, tw_lt, tw_eq, nI_add, pk_mul, tw_sub, tw_B0, tw_B1, tw_nb0, tw_nb1, tw_r1s, tw_r1n, if_true, if_false, Nat.le_refl, Nat.reduceEqDiff, Nat.reduceLeDiff, Nat.reduceLT, reduceIte]
      rw [if_pos (by omega), q1, Option.bind_some, q2, Option.bind_some, q3, Option.bind_some, q4, Option.bind_some, q5, Option.bind_some]
    · have w1 : tw_fr (fun q j => q = 1 ∧ j = 1 ∨ q = 2 ∨ q = 87 ∧ (j = 0 ∨ j = 2) ∨ q = 88) σ σ5 := ((((f1.mn (fun q j h => by omega)).tr (f2.mn (fun q j h => by omega))).tr (f3.mn (fun q j h => by omega))).tr (f4.mn (fun q j h => by omega))).tr (f5.mn (fun q j h => by omega))
      have w2 : tw_fr (fun q j => q = 1 ∧ j = 1 ∨ q = 2 ∨ q = 87 ∧ (j = 0 ∨ j = 2) ∨ q = 88) σ (rx_si σ5 87 0 (nI 0)) := w1.si (by omega)
      exact ((((w2.tr (g1.mn (fun q j h => by omega))).tr (g2.mn (fun q j h => by omega))).tr (g3.mn (fun q j h => by omega))).tr (g4.mn (fun q j h => by omega))).tr (g5.mn (fun q j h => by omega))
    · rw [k0]
      by_cases c0 : j < n
      · rw [g5.i (by omega), g4.i (by omega), g3.i (by omega), g2.i (by omega), g1.i (by omega), tw_r1n _ _ (by omega), f5.i (by omega), f4.i (by omega), f3.i (by omega), f2.i (by omega), f1.i (by omega), f5.i (by omega), f4.i (by omega), f3.i (by omega), f2.i (by omega), f1.i (by omega)]
        exact h4 j c0
      · have hj5 : (∃ k, k < 4 ∧ j = n + k) ∨ (∃ k, k < 4 ∧ j = n + 4 + k) ∨ (∃ k, k < 4 ∧ j = n + 4 + 4 + k) ∨ (∃ k, k < 4 ∧ j = n + 4 + 4 + 4 + k) ∨ ∃ k, k < 4 ∧ j = n + 4 + 4 + 4 + 4 + k := by
          by_cases x1 : j < n + 4
          · exact Or.inl ⟨j - n, by omega, by omega⟩
          · by_cases x2 : j < n + 8
            · exact Or.inr (Or.inl ⟨j - (n + 4), by omega, by omega⟩)
            · by_cases x3 : j < n + 12
              · exact Or.inr (Or.inr (Or.inl ⟨j - (n + 8), by omega, by omega⟩))
              · by_cases x4 : j < n + 16
                · exact Or.inr (Or.inr (Or.inr (Or.inl ⟨j - (n + 12), by omega, by omega⟩)))
                · exact Or.inr (Or.inr (Or.inr (Or.inr ⟨j - (n + 16), by omega, by omega⟩)))
        rcases hj5 with ⟨k, hk, rfl⟩ | ⟨k, hk, rfl⟩ | ⟨k, hk, rfl⟩ | ⟨k, hk, rfl⟩ | ⟨k, hk, rfl⟩
        · rw [g5.i (by omega), g4.i (by omega), g3.i (by omega), g2.i (by omega), e1 k hk, f5.i (by omega), f4.i (by omega), f3.i (by omega), f2.i (by omega), b1 k hk]
        · rw [g5.i (by omega), g4.i (by omega), g3.i (by omega), e2 k hk, f5.i (by omega), f4.i (by omega), f3.i (by omega), b2 k hk]
        · rw [g5.i (by omega), g4.i (by omega), e3 k hk, f5.i (by omega), f4.i (by omega), b3 k hk]
        · rw [g5.i (by omega), e4 k hk, f5.i (by omega), b4 k hk]
        · rw [e5 k hk, b5 k hk]
  · refine ⟨((-1 : Int32), σ), ((-1 : Int32), rx_si σ 87 0 (nI 0)), ?_, ?_, rfl, tw_fr.rf.si (by omega), n, ⟨by rw [tw_r1n _ _ (by omega)]; exact h1, by rw [tw_r1n _ _ (by omega)]; exact h2, h3⟩, fun j hj => by rw [tw_r1n _ _ (by omega), tw_r1n _ _ (by omega)]; exact h4 j hj⟩
    · unfold f_c_feed
      simp (disch := omega) only [tw_L, tw_gN, tw_cl, tw_le, tw_lt, tw_eq, nI_add, pk_mul, tw_sub, tw_B0, tw_B1, tw_nb0, tw_nb1, tw_r1s, tw_r1n, if_true, if_false, Nat.le_refl, Nat.reduceEqDiff, Nat.reduceLeDiff, Nat.reduceLT, reduceIte, h1]
      rw [if_neg (by omega)]
    · have hm : (rx_si σ 87 0 (nI 0)).1 87 2 = nI n := by rw [tw_r1n _ _ (by omega)]; exact h2
      unfold f_m_feed
      show (if (rx_si σ 87 0 (nI 0)).1 87 2 + (20 : Int32) ≤ (2000 : Int32) then _ else _) = _
      rw [hm]
      simp (disch := omega) only [tw_L, tw_gN, tw_cl, tw_le, tw_lt, tw_eq, nI_add, pk_mul, tw_sub, tw_B0, tw_B1, tw_nb0, tw_nb1, tw_r1s, tw_r1n, if_true, if_false, Nat.le_refl, Nat.reduceEqDiff, Nat.reduceLeDiff, Nat.reduceLT, reduceIte]
      rw [if_neg (by omega)]
theorem tq_back {σ : rx_St} {n : Nat} (h : tq_tape n σ) (a : Int32) : ∃ o1 o2, f_c_back a σ = some o1 ∧ f_m_back a o1.2 = some o2 ∧ o1.1 = o2.1 ∧ tw_fr (fun q j => q = 1 ∧ j = 1 ∨ q = 2 ∨ q = 87 ∧ (j = 0 ∨ j = 2) ∨ q = 88) σ o2.2 ∧ ∃ n', tq_tape n' o2.2 := by
  obtain ⟨⟨h1, h2, h3⟩, h4⟩ := h
  have bad : f_c_back a σ = some ((-1 : Int32), σ) → f_m_back a σ = some ((-1 : Int32), rx_si σ 87 0 (nI 0)) → ∃ o1 o2, f_c_back a σ = some o1 ∧ f_m_back a o1.2 = some o2 ∧ o1.1 = o2.1 ∧ tw_fr (fun q j => q = 1 ∧ j = 1 ∨ q = 2 ∨ q = 87 ∧ (j = 0 ∨ j = 2) ∨ q = 88) σ o2.2 ∧ ∃ n', tq_tape n' o2.2 := fun x y =>
    ⟨_, _, x, y, rfl, tw_fr.rf.si (by omega), n, ⟨by rw [tw_r1n _ _ (by omega)]; exact h1, by rw [tw_r1n _ _ (by omega)]; exact h2, h3⟩, fun j hj => by rw [tw_r1n _ _ (by omega), tw_r1n _ _ (by omega)]; exact h4 j hj⟩
  by_cases c0 : a < nI 0
  · exact bad (by unfold f_c_back; exact if_pos c0) (by unfold f_m_back; exact if_pos c0)
  · obtain ⟨k, rfl, hk⟩ := tq_nn c0
    have hm : (rx_si σ 87 0 (nI 0)).1 87 2 = nI n := by rw [tw_r1n _ _ (by omega)]; exact h2
    by_cases c : k ≤ n
    · refine ⟨(nI (n - k), rx_si σ 1 1 (nI (n - k))), (nI (n - k), rx_si (rx_si (rx_si σ 1 1 (nI (n - k))) 87 0 (nI 0)) 87 2 (nI (n - k))), ?_, ?_, rfl, ((tw_fr.rf.si (by omega)).si (by omega)).si (by omega), n - k, ⟨by rw [tw_r1n _ _ (by omega), tw_r1n _ _ (by omega), tw_r1s], tw_r1s _ _ _ _, by omega⟩, fun j hj => ?_⟩
      · unfold f_c_back
        simp (disch := omega) only [tw_L, tw_gN, tw_cl, tw_le, tw_lt, tw_eq, nI_add, pk_mul, tw_sub, tw_B0, tw_B1, tw_nb0, tw_nb1, tw_r1s, tw_r1n, if_true, if_false, Nat.le_refl, Nat.reduceEqDiff, Nat.reduceLeDiff, Nat.reduceLT, reduceIte, h1]
        rw [if_neg (by omega), if_pos c]
      · unfold f_m_back
        simp (disch := omega) only [tw_L, tw_gN, tw_cl, tw_le, tw_lt, tw_eq, nI_add, pk_mul, tw_sub, tw_B0, tw_B1, tw_nb0, tw_nb1, tw_r1s, tw_r1n, if_true, if_false, Nat.le_refl, Nat.reduceEqDiff, Nat.reduceLeDiff, Nat.reduceLT, reduceIte, h2]
        rw [if_neg (by omega), if_pos c]
      · simp (disch := omega) only [tw_L, tw_gN, tw_cl, tw_le, tw_lt, tw_eq, nI_add, pk_mul, tw_sub, tw_B0, tw_B1, tw_nb0, tw_nb1, tw_r1s, tw_r1n, if_true, if_false, Nat.le_refl, Nat.reduceEqDiff, Nat.reduceLeDiff, Nat.reduceLT, reduceIte]
        exact h4 j (by omega)
    · refine bad ?_ ?_
      · unfold f_c_back
        simp (disch := omega) only [tw_L, tw_gN, tw_cl, tw_le, tw_lt, tw_eq, nI_add, pk_mul, tw_sub, tw_B0, tw_B1, tw_nb0, tw_nb1, tw_r1s, tw_r1n, if_true, if_false, Nat.le_refl, Nat.reduceEqDiff, Nat.reduceLeDiff, Nat.reduceLT, reduceIte, h1]
        rw [if_neg (by omega), if_neg c]
      · unfold f_m_back
        simp (disch := omega) only [tw_L, tw_gN, tw_cl, tw_le, tw_lt, tw_eq, nI_add, pk_mul, tw_sub, tw_B0, tw_B1, tw_nb0, tw_nb1, tw_r1s, tw_r1n, if_true, if_false, Nat.le_refl, Nat.reduceEqDiff, Nat.reduceLeDiff, Nat.reduceLT, reduceIte, h2]
        rw [if_neg (by omega), if_neg c]
