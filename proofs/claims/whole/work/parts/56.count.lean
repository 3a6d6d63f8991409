/-! count on both sides -/
section TQ7
variable {w : Nat} {W : tw_Wo} {lv : Nat} {N : tw_N} {pl : Nat → Nat} {bg : Nat → Int32} {dl : Bool} {st : Nat → Int32}
theorem tq_kd {σ : rx_St} (hWN : tc_WN w W σ) (hk5 : W.2.length ≤ 5) (x : Int32) : (f_wor_hasKind w x σ = nI 0 ∧ ∀ k, k < W.2.length → x ≠ nI k) ∨ ∃ k, k < W.2.length ∧ x = nI k ∧ f_wor_hasKind w x σ = nI 1 := by
  by_cases c : x < nI 0
  · refine Or.inl ⟨by unfold f_wor_hasKind; exact if_pos c, fun k hk e => ?_⟩
    rw [e] at c
    exact absurd ((nI_ltI (b := 0) (by omega) (by decide)).mp c) (Nat.not_lt_zero _)
  · obtain ⟨k, rfl, hk⟩ := tq_nn c
    unfold f_wor_hasKind
    simp (disch := omega) only [tw_L, tw_gN, tw_cl, tw_le, tw_lt, tw_eq, nI_add, pk_mul, tw_sub, tw_B0, tw_B1, tw_nb0, tw_nb1, tw_r1s, tw_r1n, if_true, if_false, Nat.le_refl, Nat.reduceEqDiff, Nat.reduceLeDiff, Nat.reduceLT, reduceIte, hWN.1]
    by_cases d : W.2.length ≤ k
    · refine Or.inl ⟨by rw [if_neg (by omega), if_pos d], fun j hj e => ?_⟩
      have := (nI_eq (a := k) (b := j) (by omega) (by omega)).mp e
      omega
    · exact Or.inr ⟨k, by omega, rfl, by rw [if_neg (by omega), if_neg d]⟩
theorem tq_count {σ : rx_St} (h : tq_T w W lv N pl bg dl st σ) (hR : ∀ k, k < W.2.length → σ.1 (12 + 14 * w) k = nI (tw_kind W k).2.length) (hc : σ.1 72 2 = σ.1 87 86) (hs : σ.1 76 2 = σ.1 87 90) (hp : σ.1 76 8 = σ.1 87 96) (ht : σ.1 1 1 = σ.1 87 2) (a : Int32) : ∃ o1 o2, f_c_count w a σ = some o1 ∧ f_m_count a σ = some o2 ∧ o1 = o2.1 ∧ o2.2 = rx_si σ 87 0 (nI 0) := by
  obtain ⟨⟨h1, ⟨_, _, hWN, _, e1⟩, h3⟩, ⟨h4, ⟨m1, m2, m3, m4, m5, m6⟩, h7⟩, hw⟩ := id h
  have hW := h4.2.2.2
  have hk5 := hW.2.1
  have back : ∀ (n : Nat) (k : Nat), a - nI n = nI k → a = nI (k + n) := by
    intro n k e
    have := Int32.sub_add_cancel a (nI n)
    rw [e, nI_add] at this
    exact this.symm
  rcases tq_kd hWN hk5 (a - nI 10) with ⟨x1, y1⟩ | ⟨k, hk, e, x1⟩
  · rcases tq_kd hWN hk5 (a - nI 20) with ⟨x2, y2⟩ | ⟨k, hk, e, x2⟩
    · have hm : f_m_count a σ = f_m_count_83 a (rx_si σ 87 0 (nI 0)) := by
        unfold f_m_count f_m_count_44
        simp (disch := omega) only [tw_L, tw_gN, tw_cl, tw_le, tw_lt, tw_eq, nI_add, pk_mul, tw_sub, tw_B0, tw_B1, tw_nb0, tw_nb1, tw_r1s, tw_r1n, if_true, if_false, Nat.le_refl, Nat.reduceEqDiff, Nat.reduceLeDiff, Nat.reduceLT, reduceIte, m2, m5]
        by_cases c : a < nI 0
        · have c1 : a < nI 10 := Int32.lt_of_lt_of_le c (by decide)
          have c2 : a < nI 20 := Int32.lt_of_lt_of_le c (by decide)
          rw [if_pos c1, if_pos c2]
        · obtain ⟨n, rfl, hn⟩ := tq_nn c
          simp (disch := omega) only [tw_L, tw_gN, tw_cl, tw_le, tw_lt, tw_eq, nI_add, pk_mul, tw_sub, tw_B0, tw_B1, tw_nb0, tw_nb1, tw_r1s, tw_r1n, if_true, if_false, Nat.le_refl, Nat.reduceEqDiff, Nat.reduceLeDiff, Nat.reduceLT, reduceIte]
          by_cases c1 : n < 10
          · rw [if_pos c1, if_pos (by omega)]
          · have z1 : 10 + W.2.length ≤ n := by
              by_cases z : 10 + W.2.length ≤ n
              · exact z
              · exact absurd (by rw [tw_sub (by omega)]) (y1 (n - 10) (by omega))
            rw [if_neg c1, if_pos z1]
            by_cases c2 : n < 20
            · rw [if_pos c2]
            · have z2 : 20 + W.2.length ≤ n := by
                by_cases z : 20 + W.2.length ≤ n
                · exact z
                · exact absurd (by rw [tw_sub (by omega)]) (y2 (n - 20) (by omega))
              rw [if_neg c2, if_pos z2]
      have hcc : f_c_count w a σ = (if a = 0 then some (σ.1 (7 + 14 * w) 0) else if a = 1 then some (σ.1 (7 + 14 * w) 3) else if a = 2 then some (σ.1 38 2) else if a = 3 then some (σ.1 72 2) else if a = 4 then some (σ.1 76 2) else if a = 5 then some (σ.1 76 8) else if a = 6 then some (σ.1 1 1) else some (-1)) := by
        unfold f_c_count
        rw [show a - (10 : Int32) = a - nI 10 from rfl, x1, show a - (20 : Int32) = a - nI 20 from rfl, x2, if_pos (by rfl), if_pos (by rfl)]
      rw [hcc, hm]
      unfold f_m_count_83
      by_cases d0 : a = 0
      · rw [if_pos d0, if_pos d0]
        simp (disch := omega) only [tw_L, tw_gN, tw_cl, tw_le, tw_lt, tw_eq, nI_add, pk_mul, tw_sub, tw_B0, tw_B1, tw_nb0, tw_nb1, tw_r1s, tw_r1n, if_true, if_false, Nat.le_refl, Nat.reduceEqDiff, Nat.reduceLeDiff, Nat.reduceLT, reduceIte, m2]
        exact ⟨_, _, rfl, rfl, e1.trans m3.symm, rfl⟩
      · rw [if_neg d0, if_neg d0]
        by_cases d1 : a = 1
        · rw [if_pos d1, if_pos d1]
          simp (disch := omega) only [tw_L, tw_gN, tw_cl, tw_le, tw_lt, tw_eq, nI_add, pk_mul, tw_sub, tw_B0, tw_B1, tw_nb0, tw_nb1, tw_r1s, tw_r1n, if_true, if_false, Nat.le_refl, Nat.reduceEqDiff, Nat.reduceLeDiff, Nat.reduceLT, reduceIte, m2]
          exact ⟨_, _, rfl, rfl, hWN.1.trans m5.symm, rfl⟩
        · rw [if_neg d1, if_neg d1]
          by_cases d2 : a = 2
          · rw [if_pos d2, if_pos d2]
            exact ⟨_, _, rfl, rfl, by rw [tw_r1n _ _ (by omega)]; exact h1.1.1.trans h4.1.1.symm, rfl⟩
          · rw [if_neg d2, if_neg d2]
            by_cases d3 : a = 3
            · rw [if_pos d3, if_pos d3]
              exact ⟨_, _, rfl, rfl, by rw [tw_r1n _ _ (by omega)]; exact hc, rfl⟩
            · rw [if_neg d3, if_neg d3]
              by_cases d4 : a = 4
              · rw [if_pos d4, if_pos d4]
                exact ⟨_, _, rfl, rfl, by rw [tw_r1n _ _ (by omega)]; exact hs, rfl⟩
              · rw [if_neg d4, if_neg d4]
                by_cases d5 : a = 5
                · rw [if_pos d5, if_pos d5]
                  exact ⟨_, _, rfl, rfl, by rw [tw_r1n _ _ (by omega)]; exact hp, rfl⟩
                · rw [if_neg d5, if_neg d5]
                  by_cases d6 : a = 6
                  · rw [if_pos d6, if_pos d6]
                    exact ⟨_, _, rfl, rfl, by rw [tw_r1n _ _ (by omega)]; exact ht, rfl⟩
                  · rw [if_neg d6, if_neg d6]
                    exact ⟨_, _, rfl, rfl, rfl, rfl⟩
    · have ea := back 20 k e
      refine ⟨nI (tw_kind W k).2.length, (nI (tw_kind W k).2.length, rx_si σ 87 0 (nI 0)), ?_, ?_, rfl, rfl⟩
      · unfold f_c_count
        rw [show a - (10 : Int32) = a - nI 10 from rfl, x1, show a - (20 : Int32) = a - nI 20 from rfl, x2, if_pos (by rfl), if_neg (by decide), e]
        simp (disch := omega) only [tw_L, tw_gN, tw_cl, tw_le, tw_lt, tw_eq, nI_add, pk_mul, tw_sub, tw_B0, tw_B1, tw_nb0, tw_nb1, tw_r1s, tw_r1n, if_true, if_false, Nat.le_refl, Nat.reduceEqDiff, Nat.reduceLeDiff, Nat.reduceLT, reduceIte, hR k hk]
      · have r := (m6 k hk).2.2.1
        rw [ea]
        unfold f_m_count f_m_count_44
        simp (disch := omega) only [tw_L, tw_gN, tw_cl, tw_le, tw_lt, tw_eq, nI_add, pk_mul, tw_sub, tw_B0, tw_B1, tw_nb0, tw_nb1, tw_r1s, tw_r1n, if_true, if_false, Nat.le_refl, Nat.reduceEqDiff, Nat.reduceLeDiff, Nat.reduceLT, reduceIte, m2, m5]
        rw [if_neg (by omega), if_pos (by omega), if_neg (by omega), if_neg (by omega), show 5 * lv + (k + 20) - 20 = 5 * lv + k by omega, r]
  · have ea := back 10 k e
    refine ⟨nI (tw_vc W k), (nI (tw_vc W k), rx_si σ 87 0 (nI 0)), ?_, ?_, rfl, rfl⟩
    · unfold f_c_count
      rw [show a - (10 : Int32) = a - nI 10 from rfl, x1, if_neg (by decide), e]
      simp (disch := omega) only [tw_L, tw_gN, tw_cl, tw_le, tw_lt, tw_eq, nI_add, pk_mul, tw_sub, tw_B0, tw_B1, tw_nb0, tw_nb1, tw_r1s, tw_r1n, if_true, if_false, Nat.le_refl, Nat.reduceEqDiff, Nat.reduceLeDiff, Nat.reduceLT, reduceIte, hWN.2 k hk]
    · have r : σ.1 100 (5 * lv + k) = nI (tw_vc W k) := (m6 k hk).1
      rw [ea]
      unfold f_m_count f_m_count_44
      simp (disch := omega) only [tw_L, tw_gN, tw_cl, tw_le, tw_lt, tw_eq, nI_add, pk_mul, tw_sub, tw_B0, tw_B1, tw_nb0, tw_nb1, tw_r1s, tw_r1n, if_true, if_false, Nat.le_refl, Nat.reduceEqDiff, Nat.reduceLeDiff, Nat.reduceLT, reduceIte, m2, m5]
      rw [if_neg (by omega), if_neg (by omega), show 5 * lv + (k + 10) - 10 = 5 * lv + k by omega, r]
end TQ7
