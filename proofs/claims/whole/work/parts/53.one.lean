/-! A new ONE on both sides -/
section TQ4
variable {w : Nat} {W : tw_Wo} {lv : Nat} {N : tw_N} {pl : Nat → Nat} {bg : Nat → Int32} {dl : Bool} {st : Nat → Int32}
theorem tq_add76 {σ3 : rx_St} {n k : Nat} (hw : w ≤ 1) (hn : n < 20) (hk : k < 5) (h2 : σ3.1 38 2 = nI n) : tw_ok (f_tow_addOne_76 w rx_fu (nI k) (nI 0) σ3) (fun y => y.1 = nI n ∧ y.2.1 38 2 = nI (n + 1) ∧ y.2.1 38 8 = σ3.1 38 8 + nI 1 ∧ tw_fr (fun q j => q = 43 ∧ 6 * n ≤ j ∧ j < 6 * n + 6 ∨ q = 38 ∧ (j = 2 ∨ j = 8)) σ3 y.2 ∧ ∀ v, v < 6 → y.2.1 43 (6 * n + v) = σ3.1 (13 + 14 * w) (6 * k + v)) := by
  refine tw_lp (fun fu v σ => f_tow_addOne_76 w fu (nI k) (nI v) σ) (fun v σ' => tw_fr (fun q j => q = 43 ∧ 6 * n ≤ j ∧ j < 6 * n + 6) σ3 σ' ∧ ∀ u, u < v → σ'.1 43 (6 * n + u) = σ3.1 (13 + 14 * w) (6 * k + u)) 6 _ ?_ ?_ rx_fu 0 σ3 (by show _ < 100000; omega) (Nat.zero_le _) ⟨tw_fr.rf, fun u hu => absurd hu (Nat.not_lt_zero _)⟩
  · intro m v σ hv h0 next
    obtain ⟨f0, ha⟩ := h0
    have e1 : σ.1 38 2 = nI n := (f0.i (by omega)).trans h2
    have e2 : σ.1 (13 + 14 * w) (k * 6 + v) = σ3.1 (13 + 14 * w) (6 * k + v) := by rw [show k * 6 + v = 6 * k + v by omega]; exact f0.i (by omega)
    rw [f_tow_addOne_76]
    simp (disch := omega) only [tw_L, tw_gN, tw_cl, tw_le, tw_lt, tw_eq, nI_add, pk_mul, tw_sub, tw_B0, tw_B1, tw_nb0, tw_nb1, tw_r1s, tw_r1n, if_true, if_false, Nat.le_refl, Nat.reduceEqDiff, Nat.reduceLeDiff, Nat.reduceLT, reduceIte, e1, e2]
    rw [if_neg (by omega), show n * 6 + v = 6 * n + v by omega]
    refine next _ ⟨f0.si (by omega), fun u hu => ?_⟩
    rw [tw_r1]
    by_cases e : u = v
    · rw [if_pos ⟨rfl, by omega⟩, e]
    · rw [if_neg (fun h => e (by have := h.2; omega))]; exact ha u (by omega)
  · intro m σ h0
    obtain ⟨f0, ha⟩ := h0
    have e1 : σ.1 38 2 = nI n := (f0.i (by omega)).trans h2
    have e8 : σ.1 38 8 = σ3.1 38 8 := f0.i (by omega)
    rw [f_tow_addOne_76]
    simp (disch := omega) only [tw_L, tw_gN, tw_cl, tw_le, tw_lt, tw_eq, nI_add, pk_mul, tw_sub, tw_B0, tw_B1, tw_nb0, tw_nb1, tw_r1s, tw_r1n, if_true, if_false, Nat.le_refl, Nat.reduceEqDiff, Nat.reduceLeDiff, Nat.reduceLT, reduceIte, e1, e8, Nat.add_sub_cancel]
    rw [tw_some]
    refine ⟨rfl, by simp (disch := omega) only [tw_L, tw_gN, tw_cl, tw_le, tw_lt, tw_eq, nI_add, pk_mul, tw_sub, tw_B0, tw_B1, tw_nb0, tw_nb1, tw_r1s, tw_r1n, if_true, if_false, Nat.le_refl, Nat.reduceEqDiff, Nat.reduceLeDiff, Nat.reduceLT, reduceIte], by simp (disch := omega) only [tw_L, tw_gN, tw_cl, tw_le, tw_lt, tw_eq, nI_add, pk_mul, tw_sub, tw_B0, tw_B1, tw_nb0, tw_nb1, tw_r1s, tw_r1n, if_true, if_false, Nat.le_refl, Nat.reduceEqDiff, Nat.reduceLeDiff, Nat.reduceLT, reduceIte], ((f0.mn (fun q j h => Or.inl h)).si (by omega)).si (by omega), fun v hv => ?_⟩
    simp (disch := omega) only [tw_L, tw_gN, tw_cl, tw_le, tw_lt, tw_eq, nI_add, pk_mul, tw_sub, tw_B0, tw_B1, tw_nb0, tw_nb1, tw_r1s, tw_r1n, if_true, if_false, Nat.le_refl, Nat.reduceEqDiff, Nat.reduceLeDiff, Nat.reduceLT, reduceIte]
    exact ha v hv
theorem tq_one86 {σ4 : rx_St} {n k vc : Nat} (hn : n < 20) (hk : k < 5) (hl : lv ≤ 1) (hv6 : vc ≤ 6) (h2 : σ4.1 87 60 = nI n) (h18 : σ4.1 87 18 = nI lv) (h100 : σ4.1 100 (5 * lv + k) = nI vc) : tw_ok (f_m_one_86 rx_fu (nI k) (nI 0) σ4) (fun y => y.1 = nI n ∧ y.2.1 87 60 = nI (n + 1) ∧ tw_fr (fun q j => q = 133 ∧ 6 * n ≤ j ∧ j < 6 * n + 6 ∨ q = 87 ∧ j = 60) σ4 y.2 ∧ ∀ v, v < vc → y.2.1 133 (6 * n + v) = σ4.1 102 (6 * (5 * lv + k) + v)) := by
  refine tw_lp (fun fu v σ => f_m_one_86 fu (nI k) (nI v) σ) (fun v σ' => tw_fr (fun q j => q = 133 ∧ 6 * n ≤ j ∧ j < 6 * n + 6) σ4 σ' ∧ ∀ u, u < v → σ'.1 133 (6 * n + u) = σ4.1 102 (6 * (5 * lv + k) + u)) vc _ ?_ ?_ rx_fu 0 σ4 (by show _ < 100000; omega) (Nat.zero_le _) ⟨tw_fr.rf, fun u hu => absurd hu (Nat.not_lt_zero _)⟩
  · intro m v σ hv h0 next
    obtain ⟨f0, ha⟩ := h0
    have e1 : σ.1 87 60 = nI n := (f0.i (by omega)).trans h2
    have e2 : σ.1 87 18 = nI lv := (f0.i (by omega)).trans h18
    have e3 : σ.1 100 (5 * lv + k) = nI vc := (f0.i (by omega)).trans h100
    have e4 : σ.1 102 (6 * (5 * lv + k) + v) = σ4.1 102 (6 * (5 * lv + k) + v) := f0.i (by omega)
    rw [f_m_one_86]
    simp (disch := omega) only [tw_L, tw_gN, tw_cl, tw_le, tw_lt, tw_eq, nI_add, pk_mul, tw_sub, tw_B0, tw_B1, tw_nb0, tw_nb1, tw_r1s, tw_r1n, if_true, if_false, Nat.le_refl, Nat.reduceEqDiff, Nat.reduceLeDiff, Nat.reduceLT, reduceIte, e1, e2, e3, e4]
    rw [if_neg (by omega)]
    refine next _ ⟨f0.si (by omega), fun u hu => ?_⟩
    rw [tw_r1]
    by_cases e : u = v
    · rw [if_pos ⟨rfl, by omega⟩, e]
    · rw [if_neg (fun h => e (by have := h.2; omega))]; exact ha u (by omega)
  · intro m σ h0
    obtain ⟨f0, ha⟩ := h0
    have e1 : σ.1 87 60 = nI n := (f0.i (by omega)).trans h2
    have e2 : σ.1 87 18 = nI lv := (f0.i (by omega)).trans h18
    have e3 : σ.1 100 (5 * lv + k) = nI vc := (f0.i (by omega)).trans h100
    rw [f_m_one_86]
    simp (disch := omega) only [tw_L, tw_gN, tw_cl, tw_le, tw_lt, tw_eq, nI_add, pk_mul, tw_sub, tw_B0, tw_B1, tw_nb0, tw_nb1, tw_r1s, tw_r1n, if_true, if_false, Nat.le_refl, Nat.reduceEqDiff, Nat.reduceLeDiff, Nat.reduceLT, reduceIte, e1, e2, e3, Nat.add_sub_cancel]
    rw [tw_some]
    refine ⟨rfl, by simp (disch := omega) only [tw_L, tw_gN, tw_cl, tw_le, tw_lt, tw_eq, nI_add, pk_mul, tw_sub, tw_B0, tw_B1, tw_nb0, tw_nb1, tw_r1s, tw_r1n, if_true, if_false, Nat.le_refl, Nat.reduceEqDiff, Nat.reduceLeDiff, Nat.reduceLT, reduceIte], (f0.mn (fun q j h => Or.inl h)).si (by omega), fun v hv => ?_⟩
    simp (disch := omega) only [tw_L, tw_gN, tw_cl, tw_le, tw_lt, tw_eq, nI_add, pk_mul, tw_sub, tw_B0, tw_B1, tw_nb0, tw_nb1, tw_r1s, tw_r1n, if_true, if_false, Nat.le_refl, Nat.reduceEqDiff, Nat.reduceLeDiff, Nat.reduceLT, reduceIte]
    exact ha v hv
theorem tq_newone {σ : rx_St} (h : tq_T w W lv N pl bg dl st σ) (hB : ∀ k v, k < W.2.length → v < tw_vc W k → σ.1 (13 + 14 * w) (6 * k + v) = (tw_kind W k).1.getD v 0) (a b c : Int32) : ∃ o1 o2, f_c_one w a b c σ = some o1 ∧ f_m_one a b c o1.2 = some o2 ∧ o1.1 = o2.1 ∧ tq_chg w W lv N pl bg dl st σ o2.2 := by
  obtain ⟨⟨h1, h2, h3⟩, ⟨h4, h5, h7⟩, hw⟩ := id h
  obtain ⟨⟨a1, a2⟩, a3, a4, a5⟩ := id h1
  obtain ⟨⟨b1, b2⟩, b3, b4, b5⟩ := id h4
  obtain ⟨n1, n2, n3, n4, n5, n6⟩ := id h5
  have hWN : tc_WN w W σ := by obtain ⟨_, _, g, _⟩ := h2; exact g
  have hs6 := a5.1
  have hk5 := a5.2.1
  have bad : f_tow_addOne w a b c σ = some (-nI 1, σ) → f_m_one a b c σ = some (-nI 1, rx_si σ 87 0 (nI 0)) → ∃ o1 o2, f_c_one w a b c σ = some o1 ∧ f_m_one a b c o1.2 = some o2 ∧ o1.1 = o2.1 ∧ tq_chg w W lv N pl bg dl st σ o2.2 := by
    intro x y
    refine ⟨(-nI 1, σ), (-nI 1, rx_si σ 87 0 (nI 0)), ?_, y, rfl, Or.inl rfl⟩
    unfold f_c_one
    rw [x]
    rfl
  by_cases cN : N.1 = 20
  · refine bad ?_ ?_
    · unfold f_tow_addOne
      simp (disch := omega) only [tw_L, tw_gN, tw_cl, tw_le, tw_lt, tw_eq, nI_add, pk_mul, tw_sub, tw_B0, tw_B1, tw_nb0, tw_nb1, tw_r1s, tw_r1n, if_true, if_false, Nat.le_refl, Nat.reduceEqDiff, Nat.reduceLeDiff, Nat.reduceLT, reduceIte, a1]
      rw [if_pos (by omega)]
    · unfold f_m_one
      simp (disch := omega) only [tw_L, tw_gN, tw_cl, tw_le, tw_lt, tw_eq, nI_add, pk_mul, tw_sub, tw_B0, tw_B1, tw_nb0, tw_nb1, tw_r1s, tw_r1n, if_true, if_false, Nat.le_refl, Nat.reduceEqDiff, Nat.reduceLeDiff, Nat.reduceLT, reduceIte, b1]
      rw [if_pos cN]
  · by_cases ca : a < nI 0
    · refine bad ?_ ?_
      · unfold f_tow_addOne
        rw [show f_wor_hasKind w a σ = nI 0 by unfold f_wor_hasKind; exact if_pos ca]
        exact tq_ite0 (if_pos rfl)
      · unfold f_m_one
        simp (disch := omega) only [tw_L, tw_gN, tw_cl, tw_le, tw_lt, tw_eq, nI_add, pk_mul, tw_sub, tw_B0, tw_B1, tw_nb0, tw_nb1, tw_r1s, tw_r1n, if_true, if_false, Nat.le_refl, Nat.reduceEqDiff, Nat.reduceLeDiff, Nat.reduceLT, reduceIte, b1, n2, n5]
        exact tq_ite0 (if_pos ca)
    · obtain ⟨k, rfl, hkk⟩ := tq_nn ca
      by_cases ck : W.2.length ≤ k
      · refine bad ?_ ?_
        · unfold f_tow_addOne
          have e : f_wor_hasKind w (nI k) σ = nI 0 := by
            unfold f_wor_hasKind
            simp (disch := omega) only [tw_L, tw_gN, tw_cl, tw_le, tw_lt, tw_eq, nI_add, pk_mul, tw_sub, tw_B0, tw_B1, tw_nb0, tw_nb1, tw_r1s, tw_r1n, if_true, if_false, Nat.le_refl, Nat.reduceEqDiff, Nat.reduceLeDiff, Nat.reduceLT, reduceIte, hWN.1]
            rw [if_neg (by omega), if_pos ck]
          rw [e]
          exact tq_ite0 (if_pos rfl)
        · unfold f_m_one
          simp (disch := omega) only [tw_L, tw_gN, tw_cl, tw_le, tw_lt, tw_eq, nI_add, pk_mul, tw_sub, tw_B0, tw_B1, tw_nb0, tw_nb1, tw_r1s, tw_r1n, if_true, if_false, Nat.le_refl, Nat.reduceEqDiff, Nat.reduceLeDiff, Nat.reduceLT, reduceIte, b1, n2, n5]
          exact tq_ite0 (tq_ite0 (if_pos ck))
      · have hk : k < W.2.length := by omega
        have ek : f_wor_hasKind w (nI k) σ = nI 1 := by
          unfold f_wor_hasKind
          simp (disch := omega) only [tw_L, tw_gN, tw_cl, tw_le, tw_lt, tw_eq, nI_add, pk_mul, tw_sub, tw_B0, tw_B1, tw_nb0, tw_nb1, tw_r1s, tw_r1n, if_true, if_false, Nat.le_refl, Nat.reduceEqDiff, Nat.reduceLeDiff, Nat.reduceLT, reduceIte, hWN.1]
          rw [if_neg (by omega), if_neg ck]
        rcases tq_in b 0 9 (by decide) (by decide) with ⟨i1, j1⟩ | ⟨p, rfl, -, lp, i1⟩
        · refine bad ?_ ?_
          · unfold f_tow_addOne
            refine tq_ite0 (tq_ite0 ?_)
            rcases j1 with j | j
            · exact if_pos j
            · exact tq_ite0 (if_pos (tq_gt (n := 9) (by decide) j))
          · unfold f_m_one
            simp (disch := omega) only [tw_L, tw_gN, tw_cl, tw_le, tw_lt, tw_eq, nI_add, pk_mul, tw_sub, tw_B0, tw_B1, tw_nb0, tw_nb1, tw_r1s, tw_r1n, if_true, if_false, Nat.le_refl, Nat.reduceEqDiff, Nat.reduceLeDiff, Nat.reduceLT, reduceIte, b1, n2, n5]
            exact tq_ite0 (tq_ite0 (tq_ite0 (if_pos i1)))
        · rcases tq_in c 1 99 (by decide) (by decide) with ⟨i2, j2⟩ | ⟨q, rfl, lq0, lq, i2⟩
          · refine bad ?_ ?_
            · unfold f_tow_addOne
              refine tq_ite0 (tq_ite0 (tq_ite0 (tq_ite0 ?_)))
              rcases j2 with j | j
              · exact if_pos j
              · exact tq_ite0 (if_neg (Int32.not_le.mpr j))
            · unfold f_m_one
              simp (disch := omega) only [tw_L, tw_gN, tw_cl, tw_le, tw_lt, tw_eq, nI_add, pk_mul, tw_sub, tw_B0, tw_B1, tw_nb0, tw_nb1, tw_r1s, tw_r1n, if_true, if_false, Nat.le_refl, Nat.reduceEqDiff, Nat.reduceLeDiff, Nat.reduceLT, reduceIte, b1, n2, n5]
              exact tq_ite0 (tq_ite0 (tq_ite0 (tq_ite0 (if_pos i2))))
          · generalize hσ3 : rx_si (rx_si (rx_si σ 40 N.1 (nI k)) 41 N.1 (nI p)) 42 N.1 (nI q) = σ3
            have f3 : tw_fr (fun q j => 40 ≤ q ∧ q ≤ 42 ∧ j = N.1) σ σ3 := by rw [← hσ3]; exact ((tw_fr.rf.si (by omega)).si (by omega)).si (by omega)
            obtain ⟨y, y1, y2, y3, y4, y5, y6⟩ := tq_add76 (w := w) (σ3 := σ3) (n := N.1) (k := k) hw (by omega) (by omega) (by rw [f3.i (by omega)]; exact a1)
            have fy : tw_fr (fun q j => 40 ≤ q ∧ q ≤ 42 ∧ j = N.1 ∨ q = 43 ∧ 6 * N.1 ≤ j ∧ j < 6 * N.1 + 6 ∨ q = 38 ∧ (j = 2 ∨ j = 8)) σ y.2 := tw_fr.tn f3 y5 (fun q j h => Or.inl h) (fun q j h => Or.inr h)
            generalize hσ4 : rx_si (rx_si (rx_si (rx_si y.2 87 0 (nI 0)) 130 N.1 (nI k)) 131 N.1 (nI p)) 132 N.1 (nI q) = σ4
            have f4 : tw_fr (fun q j => q = 87 ∧ j = 0 ∨ 130 ≤ q ∧ q ≤ 132 ∧ j = N.1) y.2 σ4 := by rw [← hσ4]; exact (((tw_fr.rf.si (by omega)).si (by omega)).si (by omega)).si (by omega)
            have hv6 := (a5.2.2 k hk).1
            obtain ⟨z, z1, z2, z3, z4, z5⟩ := tq_one86 (lv := lv) (σ4 := σ4) (n := N.1) (k := k) (vc := tw_vc W k) (by omega) (by omega) n1 hv6 (by rw [f4.i (by omega), fy.i (by omega)]; exact b1) (by rw [f4.i (by omega), fy.i (by omega)]; exact n2) (by rw [f4.i (by omega), fy.i (by omega)]; exact (n6 k hk).1)
            have b1' : y.2.1 87 60 = nI N.1 := by rw [fy.i (by omega)]; exact b1
            have n2' : y.2.1 87 18 = nI lv := by rw [fy.i (by omega)]; exact n2
            have n5' : y.2.1 98 lv = nI W.2.length := by rw [fy.i (by omega)]; exact n5
            refine ⟨y, z, ?_, ?_, y2.trans z2.symm, ?_⟩
            · unfold f_c_one f_tow_addOne
              simp (disch := omega) only [tw_L, tw_gN, tw_cl, tw_le, tw_lt, tw_eq, nI_add, pk_mul, tw_sub, tw_B0, tw_B1, tw_nb0, tw_nb1, tw_r1s, tw_r1n, if_true, if_false, Nat.le_refl, Nat.reduceEqDiff, Nat.reduceLeDiff, Nat.reduceLT, reduceIte, a1, ek]
              rw [if_neg (by omega), if_neg (by omega), if_neg (by omega), if_neg (by omega), if_pos (by omega), hσ3, y1, Option.bind_some]
            · unfold f_m_one
              simp (disch := omega) only [tw_L, tw_gN, tw_cl, tw_le, tw_lt, tw_eq, nI_add, pk_mul, tw_sub, tw_B0, tw_B1, tw_nb0, tw_nb1, tw_r1s, tw_r1n, if_true, if_false, Nat.le_refl, Nat.reduceEqDiff, Nat.reduceLeDiff, Nat.reduceLT, reduceIte, b1', n2', n5', i1, i2]
              rw [if_neg cN, if_neg (by omega), if_neg ck, hσ4, z1]
            · have G : ∀ q j, q < 87 → z.2.1 q j = y.2.1 q j := fun q j x => by rw [z4.i (by omega), f4.i (by omega)]
              have u1 : ∀ (f : Nat → Nat) (x : Nat), tw_updN f N.1 x N.1 = x := fun f x => if_pos rfl
              have u2 : ∀ (f : Nat → Nat) (x j : Nat), j ≠ N.1 → tw_updN f N.1 x j = f j := fun f x j e => if_neg e
              have hbnd : tq_B W N bg → tw_wb W → tq_B W (N.1 + 1, tw_updN N.2.1 N.1 k, tw_updN N.2.2 N.1 q) (fun j => if 6 * N.1 ≤ j then y.2.1 43 j else bg j) := fun hb hwb => by
                refine ⟨fun o ho => ?_, fun o v ho hv => ?_⟩
                · have ho' : o < N.1 + 1 := ho
                  show tw_updN N.2.2 N.1 q o ≤ 99
                  by_cases e : o = N.1
                  · subst e; rw [u1]; exact lq
                  · rw [u2 _ _ _ e]; exact hb.1 o (by omega)
                · have ho' : o < N.1 + 1 := ho
                  have hv' : v < tw_vc W (tw_updN N.2.1 N.1 k o) := hv
                  show -9999 ≤ (if 6 * N.1 ≤ 6 * o + v then y.2.1 43 (6 * o + v) else bg (6 * o + v)).toInt ∧ (if 6 * N.1 ≤ 6 * o + v then y.2.1 43 (6 * o + v) else bg (6 * o + v)).toInt ≤ 9999
                  by_cases e : o = N.1
                  · subst e
                    rw [u1] at hv'
                    rw [if_pos (by omega), y6 v (by omega), f3.i (by omega), hB k v hk hv']
                    exact hwb k v hk hv'
                  · rw [u2 _ _ _ e] at hv'
                    have hvo := (a5.2.2 _ (a3 o (by omega)).1.2).1
                    rw [if_neg (by omega)]
                    exact hb.2 o v (by omega) hv'
              refine Or.inr ⟨⟨(N.1 + 1, tw_updN N.2.1 N.1 k, tw_updN N.2.2 N.1 q), tw_updN pl N.1 p, (fun j => if 6 * N.1 ≤ j then y.2.1 43 j else bg j), dl, st, ⟨⟨⟨⟨?_, by show N.1 + 1 ≤ 20; omega⟩, fun o ho => ?_, ?_, a5⟩, h2.fr (fun q j x y => ?_), fun i hi => ?_⟩, ⟨⟨⟨?_, by show N.1 + 1 ≤ 20; omega⟩, fun o ho => ?_, ?_, b5⟩, h5.fr (fun q j x y => ?_) ?_, fun i hi => ?_⟩, hw⟩, hbnd⟩, ?_, ?_⟩
              · rw [G _ _ (by omega)]; exact y3
              · have ho' : o < N.1 + 1 := ho
                by_cases e : o = N.1
                · subst e
                  have r1 : y.2.1 40 N.1 = nI k := by rw [y5.i (by omega), ← hσ3]; simp (disch := omega) only [tw_L, tw_gN, tw_cl, tw_le, tw_lt, tw_eq, nI_add, pk_mul, tw_sub, tw_B0, tw_B1, tw_nb0, tw_nb1, tw_r1s, tw_r1n, if_true, if_false, Nat.le_refl, Nat.reduceEqDiff, Nat.reduceLeDiff, Nat.reduceLT, reduceIte]
                  have r2 : y.2.1 41 N.1 = nI p := by rw [y5.i (by omega), ← hσ3]; simp (disch := omega) only [tw_L, tw_gN, tw_cl, tw_le, tw_lt, tw_eq, nI_add, pk_mul, tw_sub, tw_B0, tw_B1, tw_nb0, tw_nb1, tw_r1s, tw_r1n, if_true, if_false, Nat.le_refl, Nat.reduceEqDiff, Nat.reduceLeDiff, Nat.reduceLT, reduceIte]
                  have r3 : y.2.1 42 N.1 = nI q := by rw [y5.i (by omega), ← hσ3]; simp (disch := omega) only [tw_L, tw_gN, tw_cl, tw_le, tw_lt, tw_eq, nI_add, pk_mul, tw_sub, tw_B0, tw_B1, tw_nb0, tw_nb1, tw_r1s, tw_r1n, if_true, if_false, Nat.le_refl, Nat.reduceEqDiff, Nat.reduceLeDiff, Nat.reduceLT, reduceIte]
                  show (z.2.1 40 N.1 = nI (tw_updN N.2.1 N.1 k N.1) ∧ tw_updN N.2.1 N.1 k N.1 < _) ∧ z.2.1 42 N.1 = nI (tw_updN N.2.2 N.1 q N.1) ∧ (z.2.1 41 N.1 = nI (tw_updN pl N.1 p N.1) ∧ tw_updN pl N.1 p N.1 < 10) ∧ _
                  rw [u1, u1, u1]
                  refine ⟨⟨by rw [G _ _ (by omega)]; exact r1, hk⟩, by rw [G _ _ (by omega)]; exact r3, ⟨by rw [G _ _ (by omega)]; exact r2, by omega⟩, fun v hv => ?_⟩
                  show _ = if 6 * N.1 ≤ 6 * N.1 + v then y.2.1 43 (6 * N.1 + v) else bg (6 * N.1 + v)
                  rw [G _ _ (by omega), if_pos (by omega)]
                · obtain ⟨⟨g1, g2⟩, g3, ⟨g4, g5⟩, g7⟩ := a3 o (by omega)
                  show (z.2.1 40 o = nI (tw_updN N.2.1 N.1 k o) ∧ tw_updN N.2.1 N.1 k o < _) ∧ z.2.1 42 o = nI (tw_updN N.2.2 N.1 q o) ∧ (z.2.1 41 o = nI (tw_updN pl N.1 p o) ∧ tw_updN pl N.1 p o < 10) ∧ _
                  rw [u2 _ _ _ e, u2 _ _ _ e, u2 _ _ _ e]
                  refine ⟨⟨by rw [G _ _ (by omega), fy.i (by omega)]; exact g1, g2⟩, by rw [G _ _ (by omega), fy.i (by omega)]; exact g3, ⟨by rw [G _ _ (by omega), fy.i (by omega)]; exact g4, g5⟩, fun v hv => ?_⟩
                  show _ = if 6 * N.1 ≤ 6 * o + v then y.2.1 43 (6 * o + v) else bg (6 * o + v)
                  rw [G _ _ (by omega), if_neg (by omega), fy.i (by omega)]
                  exact g7 v hv
              · rw [G _ _ (by omega), fy.i (by omega)]; exact a4
              · rw [G _ _ (by omega), fy.i (by omega)]
              · rw [G _ _ (by omega), fy.i (by omega)]; exact h3 i hi
              · exact z3
              · have ho' : o < N.1 + 1 := ho
                by_cases e : o = N.1
                · subst e
                  have r1 : σ4.1 130 N.1 = nI k := by rw [← hσ4]; simp (disch := omega) only [tw_L, tw_gN, tw_cl, tw_le, tw_lt, tw_eq, nI_add, pk_mul, tw_sub, tw_B0, tw_B1, tw_nb0, tw_nb1, tw_r1s, tw_r1n, if_true, if_false, Nat.le_refl, Nat.reduceEqDiff, Nat.reduceLeDiff, Nat.reduceLT, reduceIte]
                  have r2 : σ4.1 131 N.1 = nI p := by rw [← hσ4]; simp (disch := omega) only [tw_L, tw_gN, tw_cl, tw_le, tw_lt, tw_eq, nI_add, pk_mul, tw_sub, tw_B0, tw_B1, tw_nb0, tw_nb1, tw_r1s, tw_r1n, if_true, if_false, Nat.le_refl, Nat.reduceEqDiff, Nat.reduceLeDiff, Nat.reduceLT, reduceIte]
                  have r3 : σ4.1 132 N.1 = nI q := by rw [← hσ4]; simp (disch := omega) only [tw_L, tw_gN, tw_cl, tw_le, tw_lt, tw_eq, nI_add, pk_mul, tw_sub, tw_B0, tw_B1, tw_nb0, tw_nb1, tw_r1s, tw_r1n, if_true, if_false, Nat.le_refl, Nat.reduceEqDiff, Nat.reduceLeDiff, Nat.reduceLT, reduceIte]
                  show (z.2.1 130 N.1 = nI (tw_updN N.2.1 N.1 k N.1) ∧ tw_updN N.2.1 N.1 k N.1 < _) ∧ z.2.1 132 N.1 = nI (tw_updN N.2.2 N.1 q N.1) ∧ (z.2.1 131 N.1 = nI (tw_updN pl N.1 p N.1) ∧ tw_updN pl N.1 p N.1 < 10) ∧ ∀ v, v < tw_vc W (tw_updN N.2.1 N.1 k N.1) → _
                  rw [u1, u1, u1]
                  refine ⟨⟨by rw [z4.i (by omega)]; exact r1, hk⟩, by rw [z4.i (by omega)]; exact r3, ⟨by rw [z4.i (by omega)]; exact r2, by omega⟩, fun v hv => ?_⟩
                  show _ = if 6 * N.1 ≤ 6 * N.1 + v then y.2.1 43 (6 * N.1 + v) else bg (6 * N.1 + v)
                  rw [z5 v hv, if_pos (by omega), y6 v (by omega), f4.i (by omega), fy.i (by omega), f3.i (by omega), hB k v hk hv]
                  exact (n6 k hk).2.1 v hv
                · obtain ⟨⟨g1, g2⟩, g3, ⟨g4, g5⟩, g7⟩ := b3 o (by omega)
                  have hvo := (a5.2.2 _ g2).1
                  show (z.2.1 130 o = nI (tw_updN N.2.1 N.1 k o) ∧ tw_updN N.2.1 N.1 k o < _) ∧ z.2.1 132 o = nI (tw_updN N.2.2 N.1 q o) ∧ (z.2.1 131 o = nI (tw_updN pl N.1 p o) ∧ tw_updN pl N.1 p o < 10) ∧ ∀ v, v < tw_vc W (tw_updN N.2.1 N.1 k o) → _
                  rw [u2 _ _ _ e, u2 _ _ _ e, u2 _ _ _ e]
                  refine ⟨⟨by rw [z4.i (by omega), f4.i (by omega), fy.i (by omega)]; exact g1, g2⟩, by rw [z4.i (by omega), f4.i (by omega), fy.i (by omega)]; exact g3, ⟨by rw [z4.i (by omega), f4.i (by omega), fy.i (by omega)]; exact g4, g5⟩, fun v hv => ?_⟩
                  show _ = if 6 * N.1 ≤ 6 * o + v then y.2.1 43 (6 * o + v) else bg (6 * o + v)
                  rw [z4.i (by omega), f4.i (by omega), fy.i (by omega), if_neg (by omega)]
                  exact g7 v hv
              · rw [z4.i (by omega), f4.i (by omega), fy.i (by omega)]; exact b4
              · rw [z4.i (by omega), f4.i (by omega), fy.i (by omega)]
              · rw [z4.i (by omega), f4.i (by omega), fy.i (by omega)]
              · rw [z4.i (by omega), f4.i (by omega), fy.i (by omega)]; exact h7 i hi
              · rw [G _ _ (by omega), y4, f3.i (by omega)]
              · exact tw_fr.tn fy (tw_fr.tn f4 z4 (S := fun q j => 39 ≤ q ∧ q ≤ 43 ∨ q = 38 ∨ 129 ≤ q ∧ q ≤ 133 ∨ q = 87 ∧ (j = 0 ∨ j = 60 ∨ j = 65)) (fun q j h => by omega) (fun q j h => by omega)) (fun q j h => by omega) (fun q j h => h)
end TQ4
