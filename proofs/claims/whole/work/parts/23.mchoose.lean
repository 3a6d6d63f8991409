/-! THE MODEL CHOOSES: an E's value, LITS, RULES, WISHES -/
def tm_code (σ : rx_St) : Nat → List tw_Op → Prop
  | _, [] => True
  | p, x :: c => (σ.1 120 p = nI x.1 ∧ σ.1 121 p = nI x.2.1 ∧ σ.1 122 p = nI x.2.2) ∧ tm_code σ (p + 1) c
def tm_st (σ : rx_St) : List Int32 → Prop
  | [] => True
  | x :: s => σ.1 146 s.length = x ∧ tm_st σ s
theorem tm_code.fr {σ σ' : rx_St} (h : ∀ q j, 120 ≤ q → q ≤ 122 → σ'.1 q j = σ.1 q j) : ∀ (c : List tw_Op) (p : Nat), tm_code σ p c → tm_code σ' p c
  | [], _, _ => trivial
  | x :: c, p, ⟨⟨h1, h2, h3⟩, h4⟩ => ⟨⟨by rw [h _ _ (by omega) (by omega)]; exact h1, by rw [h _ _ (by omega) (by omega)]; exact h2, by rw [h _ _ (by omega) (by omega)]; exact h3⟩, tm_code.fr h c (p + 1) h4⟩
theorem tm_st.fr {σ σ' : rx_St} : ∀ (s : List Int32), (∀ j, j < s.length → σ'.1 146 j = σ.1 146 j) → tm_st σ s → tm_st σ' s
  | [], _, _ => trivial
  | x :: s, h, ⟨h1, h2⟩ => ⟨by rw [h _ (by rw [List.length_cons]; omega)]; exact h1, tm_st.fr s (fun j hj => h j (by rw [List.length_cons]; omega)) h2⟩
section TM
variable {W : tw_Wo} {N : tw_N} {E : tw_E} {R : tw_R}
theorem tm_S1i {q j : Nat} (h : q ≠ 146) (h2 : ¬ (q = 87 ∧ (j = 81 ∨ j = 83))) : ¬ tm_S1 q j := by unfold tm_S1; omega
theorem tm_term_l {o : Nat} (hon : o < N.1) : ∀ (c : List tw_Op) (p : Nat) (s : List Int32) (br : Bool) (lots : Nat) (σ : rx_St) (fuel : Nat),
    tm_env W N E R σ → σ.1 87 80 = nI o → tm_code σ p c → p + c.length ≤ 1400 → tm_st σ s → s.length ≤ 15 → tw_dp c s.length 1 → (∀ x ∈ c, tw_opok W (tw_vc W (N.2.1 o)) x) → σ.1 87 83 = tw_B br → σ.1 87 81 = nI lots → c.length < fuel →
    tw_ok (f_m_termOf_10 fuel (nI (p + c.length)) (nI s.length) (nI p) σ) (fun y => y.1 = tw_amt (tw_ev N E R o c (s, br, lots)) ∧ tw_fr tm_S1 σ y.2 ∧ y.2.1 87 83 = tw_B (tw_ev N E R o c (s, br, lots)).2.1 ∧ y.2.1 87 81 = nI (tw_ev N E R o c (s, br, lots)).2.2) := by
  intro c
  induction c with
  | nil =>
    intro p s br lots σ fuel he ho hc hp hst hs15 hdp hok hbr hl hf
    obtain ⟨n, rfl⟩ : ∃ n, fuel = n + 1 := ⟨fuel - 1, by omega⟩
    rw [f_m_termOf_10]
    have hlen : s.length = 1 := hdp
    obtain ⟨x, rfl⟩ := List.length_eq_one_iff.mp hlen
    simp (disch := omega) only [tw_L, tw_gN, tw_cl, tw_le, tw_lt, tw_eq, nI_add, pk_mul, tw_sub, tw_B0, tw_B1, tw_nb0, tw_nb1, tw_r1s, tw_r1n, if_true, if_false, Nat.le_refl, Nat.reduceEqDiff, Nat.reduceLeDiff, Nat.reduceLT, reduceIte, List.length_nil, Nat.add_zero, hbr]
    have h0 : σ.1 146 0 = x := hst.1
    cases br with
    | true =>
      rw [if_neg (by decide), tw_some]
      exact ⟨rfl, tw_fr.rf, hbr, hl⟩
    | false =>
      rw [if_pos rfl, tw_some]
      exact ⟨h0, tw_fr.rf, hbr, hl⟩
  | cons x c ih =>
    intro p s br lots σ fuel he ho hc hp hst hs15 hdp hok hbr hl hf
    obtain ⟨n, rfl⟩ : ∃ n, fuel = n + 1 := ⟨fuel - 1, by omega⟩
    rw [List.length_cons] at hp hf
    obtain ⟨⟨c1, c2, c3⟩, c4⟩ := hc
    have hx0 := hok x List.mem_cons_self
    have hok' : ∀ y ∈ c, tw_opok W (tw_vc W (N.2.1 o)) y := fun y hy => hok y (List.mem_cons_of_mem _ hy)
    have hpl : p + (x :: c).length = (p + 1) + c.length := by rw [List.length_cons]; omega
    rw [hpl, f_m_termOf_10]
    have hx12 : x.1 ≤ 12 := by
      unfold tw_dp at hdp
      by_cases h9 : x.1 < 9
      · omega
      · rw [if_neg h9] at hdp; exact hdp.1
    simp (disch := omega) only [tw_L, tw_gN, tw_cl, tw_le, tw_lt, tw_eq, nI_add, pk_mul, tw_sub, tw_B0, tw_B1, tw_nb0, tw_nb1, tw_r1s, tw_r1n, if_true, if_false, Nat.le_refl, Nat.reduceEqDiff, Nat.reduceLeDiff, Nat.reduceLT, reduceIte, c1]
    rw [if_neg (by omega)]
    unfold tw_dp at hdp
    by_cases h9 : x.1 < 9
    · rw [if_pos h9] at hdp
      rw [if_neg (by omega)]
      refine tw_b (tm_leaf he ho hon (by omega) x c1 c2 c3 h9 hx0 hl) (fun y hy => ?_)
      obtain ⟨y1, y2, y3⟩ := hy
      simp (disch := omega) only [tw_L, tw_gN, tw_cl, tw_le, tw_lt, tw_eq, nI_add, pk_mul, tw_sub, tw_B0, tw_B1, tw_nb0, tw_nb1, tw_r1s, tw_r1n, if_true, if_false, Nat.le_refl, Nat.reduceEqDiff, Nat.reduceLeDiff, Nat.reduceLT, reduceIte, f_m_termOf_155]
      have hev : tw_ev N E R o (x :: c) (s, br, lots) = tw_ev N E R o c (y.1 :: s, br, (tw_leaf N E R o lots x).2) := by
        show tw_ev N E R o c (tw_op N E R o (s, br, lots) x) = _
        unfold tw_op
        rw [if_pos h9, y1]
      rw [hev]
      have hfr : tw_fr tm_S1 σ (rx_si y.2 146 s.length y.1) := (y2.mn tm_S01).si (by unfold tm_S1; omega)
      have := ih (p + 1) (y.1 :: s) br (tw_leaf N E R o lots x).2 (rx_si y.2 146 s.length y.1) n (he.fr (hfr.mn tm_S12)) (by rw [hfr.i (tm_S1i (by decide) (by decide))]; exact ho) (tm_code.fr (fun q j h1 h2 => hfr.i (tm_S1i (by omega) (by omega))) c (p + 1) c4) (by omega)
        ⟨by rw [tw_r1s], tm_st.fr s (fun j hj => by rw [tw_r1n _ _ (by omega)]; exact y2.i (by unfold tm_S0; omega)) hst⟩ (by rw [List.length_cons]; omega) (by rw [List.length_cons]; exact hdp.2) hok' (by rw [tw_r1n _ _ (by omega), y2.i (by unfold tm_S0; omega)]; exact hbr) (by rw [tw_r1n _ _ (by omega)]; exact y3) (by omega)
      exact tw_mono this (fun z hz => ⟨hz.1, hfr.tr hz.2.1, hz.2.2⟩)
    · rw [if_neg h9] at hdp
      rw [if_pos (by omega)]
      obtain ⟨b, a, st, rfl⟩ : ∃ b a st, s = b :: a :: st := by
        match s, hdp.2.1 with
        | b :: a :: st, _ => exact ⟨b, a, st, rfl⟩
      obtain ⟨t1, t2, t3⟩ := hst
      rw [List.length_cons, List.length_cons] at hs15
      have hev : tw_ev N E R o (x :: c) (b :: a :: st, br, lots) = tw_ev N E R o c (tw_bin x.1 a b :: st, br || (x.1 == 12 && b == nI 0), lots) := by
        show tw_ev N E R o c (tw_op N E R o (b :: a :: st, br, lots) x) = _
        unfold tw_op
        rw [if_neg h9]
      rw [hev]
      rw [List.length_cons] at t1
      have dp2 : tw_dp c (tw_bin x.1 a b :: st).length 1 := by
        have := hdp.2.2
        rw [List.length_cons, List.length_cons] at this
        rw [List.length_cons]
        exact this
      -- what is left behind the sign
      have key : ∀ (σ1 : rx_St) (br1 : Bool), tw_fr tm_S1 σ σ1 → (∀ j, j < st.length → σ1.1 146 j = σ.1 146 j) → σ1.1 87 83 = tw_B br1 → σ1.1 87 81 = nI lots → br1 = (br || (x.1 == 12 && b == nI 0)) →
          tw_ok (f_m_termOf_154 (f_m_termOf_10 n) (nI (p + 1 + c.length)) (nI (st.length + 1)) (nI p) (nI st.length) (tw_bin x.1 a b) σ1) (fun y => y.1 = tw_amt (tw_ev N E R o c (tw_bin x.1 a b :: st, br || (x.1 == 12 && b == nI 0), lots)) ∧ tw_fr tm_S1 σ y.2 ∧ y.2.1 87 83 = tw_B (tw_ev N E R o c (tw_bin x.1 a b :: st, br || (x.1 == 12 && b == nI 0), lots)).2.1 ∧ y.2.1 87 81 = nI (tw_ev N E R o c (tw_bin x.1 a b :: st, br || (x.1 == 12 && b == nI 0), lots)).2.2) := by
        intro σ1 br1 hfr hk hb1 hl1 hbe
        subst hbe
        unfold f_m_termOf_154 f_m_termOf_155
        simp (disch := omega) only [tw_L, tw_gN, tw_cl, tw_le, tw_lt, tw_eq, nI_add, pk_mul, tw_sub, tw_B0, tw_B1, tw_nb0, tw_nb1, tw_r1s, tw_r1n, if_true, if_false, Nat.le_refl, Nat.reduceEqDiff, Nat.reduceLeDiff, Nat.reduceLT, reduceIte, Nat.add_sub_cancel]
        have hfr2 : tw_fr tm_S1 σ (rx_si σ1 146 st.length (tw_bin x.1 a b)) := hfr.si (by unfold tm_S1; omega)
        have := ih (p + 1) (tw_bin x.1 a b :: st) (br || (x.1 == 12 && b == nI 0)) lots (rx_si σ1 146 st.length (tw_bin x.1 a b)) n (he.fr (hfr2.mn tm_S12)) (by rw [hfr2.i (tm_S1i (by decide) (by decide))]; exact ho) (tm_code.fr (fun q j h1 h2 => hfr2.i (tm_S1i (by omega) (by omega))) c (p + 1) c4) (by omega)
          ⟨by rw [tw_r1s], tm_st.fr st (fun j hj => by rw [tw_r1n _ _ (by omega)]; exact hk j hj) t3⟩ (by rw [List.length_cons]; omega) dp2 hok' (by rw [tw_r1n _ _ (by omega)]; exact hb1) (by rw [tw_r1n _ _ (by omega)]; exact hl1) (by omega)
        rw [List.length_cons] at this
        exact tw_mono this (fun z hz => ⟨hz.1, hfr2.tr hz.2.1, hz.2.2⟩)
      simp (disch := omega) only [tw_L, tw_gN, tw_cl, tw_le, tw_lt, tw_eq, nI_add, pk_mul, tw_sub, tw_B0, tw_B1, tw_nb0, tw_nb1, tw_r1s, tw_r1n, if_true, if_false, Nat.le_refl, Nat.reduceEqDiff, Nat.reduceLeDiff, Nat.reduceLT, reduceIte, List.length_cons, tw_dec, Nat.add_sub_cancel, t1, t2]
      obtain ⟨k, xa, xb⟩ := x
      dsimp only at hx12 h9 c1 key ⊢
      have hx912 : k = 9 ∨ k = 10 ∨ k = 11 ∨ k = 12 := by omega
      rcases hx912 with rfl | rfl | rfl | rfl
      · unfold f_m_termOf_88
        simp (disch := omega) only [tw_L, tw_gN, tw_cl, tw_le, tw_lt, tw_eq, nI_add, pk_mul, tw_sub, tw_B0, tw_B1, tw_nb0, tw_nb1, tw_r1s, tw_r1n, if_true, if_false, Nat.le_refl, Nat.reduceEqDiff, Nat.reduceLeDiff, Nat.reduceLT, reduceIte]
        exact key σ br tw_fr.rf (fun _ _ => rfl) hbr hl (by simp)
      · unfold f_m_termOf_88
        simp (disch := omega) only [tw_L, tw_gN, tw_cl, tw_le, tw_lt, tw_eq, nI_add, pk_mul, tw_sub, tw_B0, tw_B1, tw_nb0, tw_nb1, tw_r1s, tw_r1n, if_true, if_false, Nat.le_refl, Nat.reduceEqDiff, Nat.reduceLeDiff, Nat.reduceLT, reduceIte]
        exact key σ br tw_fr.rf (fun _ _ => rfl) hbr hl (by simp)
      · unfold f_m_termOf_88
        simp (disch := omega) only [tw_L, tw_gN, tw_cl, tw_le, tw_lt, tw_eq, nI_add, pk_mul, tw_sub, tw_B0, tw_B1, tw_nb0, tw_nb1, tw_r1s, tw_r1n, if_true, if_false, Nat.le_refl, Nat.reduceEqDiff, Nat.reduceLeDiff, Nat.reduceLT, reduceIte]
        exact key σ br tw_fr.rf (fun _ _ => rfl) hbr hl (by simp)
      · unfold f_m_termOf_88
        simp (disch := omega) only [tw_L, tw_gN, tw_cl, tw_le, tw_lt, tw_eq, nI_add, pk_mul, tw_sub, tw_B0, tw_B1, tw_nb0, tw_nb1, tw_r1s, tw_r1n, if_true, if_false, Nat.le_refl, Nat.reduceEqDiff, Nat.reduceLeDiff, Nat.reduceLT, reduceIte]
        by_cases hb0 : b = nI 0
        · simp (disch := omega) only [tw_L, tw_gN, tw_cl, tw_le, tw_lt, tw_eq, nI_add, pk_mul, tw_sub, tw_B0, tw_B1, tw_nb0, tw_nb1, tw_r1s, tw_r1n, if_true, if_false, Nat.le_refl, Nat.reduceEqDiff, Nat.reduceLeDiff, Nat.reduceLT, reduceIte, hb0]
          subst hb0
          exact key (rx_si σ 87 83 (nI 1)) true (tw_fr.rf.si (by unfold tm_S1; omega)) (fun j _ => by rw [tw_r1n _ _ (by omega)]) (by rw [tw_r1s]; rfl) (by rw [tw_r1n _ _ (by omega)]; exact hl) (by simp)
        · simp (disch := omega) only [tw_L, tw_gN, tw_cl, tw_le, tw_lt, tw_eq, nI_add, pk_mul, tw_sub, tw_B0, tw_B1, tw_nb0, tw_nb1, tw_r1s, tw_r1n, if_true, if_false, Nat.le_refl, Nat.reduceEqDiff, Nat.reduceLeDiff, Nat.reduceLT, reduceIte, hb0]
          rw [tw_cE (fun h => h)]
          have := key σ br tw_fr.rf (fun _ _ => rfl) hbr hl (by simp [hb0])
          rw [show tw_bin 12 a b = a / b by unfold tw_bin; rw [if_neg (by decide), if_neg (by decide), if_neg (by decide), if_neg hb0]] at this ⊢
          exact this
end TM
