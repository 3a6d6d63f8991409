/-! THE MODEL CHOOSES: an E's value, LITS, RULES, WISHES -/
def tm_code (σ : rx_St) : Nat → List tw_Op → Prop
  | _, [] => True
  | p, x :: c => (σ.1 120 p = nI x.1 ∧ σ.1 121 p = nI x.2.1 ∧ σ.1 122 p = nI x.2.2) ∧ tm_code σ (p + 1) c
def tm_st (σ : rx_St) : List Int32 → Prop
  | [] => True
  | x :: s => σ.1 146 s.length = x ∧ tm_st σ s
theorem tm_code.fr {σ σ' : rx_St} (h : ∀ q j, 120 ≤ q → q ≤ 122 → σ'.1 q j = σ.1 q j) : ∀ (c : List tw_Op) (p : Nat), tm_code σ p c → tm_code σ' p c
  | [], _, _ => trivial
  | x :: c, p, ⟨⟨h1, h2, h3⟩, h4⟩ => ⟨⟨by rw [h _ _ (by omega) (by omega)]; exact h1, by rw [h _ _ (by omega) (by omega)]; exact h2, by rw [h _ _ (by omega) (by omega)]; exact h3⟩, tm_code.fr h c (p + 1) h4⟩
theorem tm_st.fr {σ σ' : rx_St} : ∀ (s : List Int32), (∀ j, j < s.length → σ'.1 146 j = σ.1 146 j) → tm_st σ s → tm_st σ' s
  | [], _, _ => trivial
  | x :: s, h, ⟨h1, h2⟩ => ⟨by rw [h _ (by rw [List.length_cons]; omega)]; exact h1, tm_st.fr s (fun j hj => h j (by rw [List.length_cons]; omega)) h2⟩
section TM
variable {W : tw_Wo} {N : tw_N} {E : tw_E} {R : tw_R}
theorem tm_S1i {q j : Nat} (h : q ≠ 146) (h2 : ¬ (q = 87 ∧ (j = 81 ∨ j = 83))) : ¬ tm_S1 q j := by unfold tm_S1; omega
theorem tm_term_l {o : Nat} (hon : o < N.1) : ∀ (c : List tw_Op) (p : Nat) (s : List Int32) (br : Bool) (lots : Nat) (σ : rx_St) (fuel : Nat),
    tm_env W N E R σ → σ.1 87 80 = nI o → tm_code σ p c → p + c.length ≤ 1400 → tm_st σ s → s.length ≤ 15 → tw_dp c s.length 1 → (∀ x ∈ c, tw_opok W (tw_vc W (N.2.1 o)) x) → σ.1 87 83 = tw_B br → σ.1 87 81 = nI lots → c.length < fuel →
    tw_ok (f_m_termOf_10 fuel (nI (p + c.length)) (nI s.length) (nI p) σ) (fun y => y.1 = tw_amt (tw_ev N E R o c (s, br, lots)) ∧ tw_fr tm_S1 σ y.2 ∧ y.2.1 87 83 = tw_B (tw_ev N E R o c (s, br, lots)).2.1 ∧ y.2.1 87 81 = nI (tw_ev N E R o c (s, br, lots)).2.2) := by
  intro c
  induction c with
  | nil =>
    intro p s br lots σ fuel he ho hc hp hst hs15 hdp hok hbr hl hf
    obtain ⟨n, rfl⟩ : ∃ n, fuel = n + 1 := ⟨fuel - 1, by omega⟩
    rw [f_m_termOf_10]
    have hlen : s.length = 1 := hdp
    obtain ⟨x, rfl⟩ := List.length_eq_one_iff.mp hlen
    simp (disch := omega) only [tw_L, tw_gN, tw_cl, tw_le, tw_lt, tw_eq, nI_add, pk_mul, tw_sub, tw_B0, tw_B1, tw_nb0, tw_nb1, tw_r1s, tw_r1n, if_true, if_false, Nat.le_refl, Nat.reduceEqDiff, Nat.reduceLeDiff, Nat.reduceLT, reduceIte, List.length_nil, Nat.add_zero, hbr]
    have h0 : σ.1 146 0 = x := hst.1
    cases br with
    | true =>
      rw [if_neg (by decide), tw_some]
      exact ⟨rfl, tw_fr.rf, hbr, hl⟩
    | false =>
      rw [if_pos rfl, tw_some]
      exact ⟨h0, tw_fr.rf, hbr, hl⟩
  | cons x c ih =>
    intro p s br lots σ fuel he ho hc hp hst hs15 hdp hok hbr hl hf
    obtain ⟨n, rfl⟩ : ∃ n, fuel = n + 1 := ⟨fuel - 1, by omega⟩
    rw [List.length_cons] at hp hf
    obtain ⟨⟨c1, c2, c3⟩, c4⟩ := hc
    have hx0 := hok x List.mem_cons_self
    have hok' : ∀ y ∈ c, tw_opok W (tw_vc W (N.2.1 o)) y := fun y hy => hok y (List.mem_cons_of_mem _ hy)
    have hpl : p + (x :: c).length = (p + 1) + c.length := by rw [List.length_cons]; omega
    rw [hpl, f_m_termOf_10]
    have hx12 : x.1 ≤ 12 := by
      unfold tw_dp at hdp
      by_cases h9 : x.1 < 9
      · omega
      · rw [if_neg h9] at hdp; exact hdp.1
    simp (disch := omega) only [tw_L, tw_gN, tw_cl, tw_le, tw_lt, tw_eq, nI_add, pk_mul, tw_sub, tw_B0, tw_B1, tw_nb0, tw_nb1, tw_r1s, tw_r1n, if_true, if_false, Nat.le_refl, Nat.reduceEqDiff, Nat.reduceLeDiff, Nat.reduceLT, reduceIte, c1]
    rw [if_neg (by omega)]
    unfold tw_dp at hdp
    by_cases h9 : x.1 < 9
    · rw [if_pos h9] at hdp
      rw [if_neg (by omega)]
      refine tw_b (tm_leaf he ho hon (by omega) x c1 c2 c3 h9 hx0 hl) (fun y hy => ?_)
      obtain ⟨y1, y2, y3⟩ := hy
      simp (disch := omega) only [tw_L, tw_gN, tw_cl, tw_le, tw_lt, tw_eq, nI_add, pk_mul, tw_sub, tw_B0, tw_B1, tw_nb0, tw_nb1, tw_r1s, tw_r1n, if_true, if_false, Nat.le_refl, Nat.reduceEqDiff, Nat.reduceLeDiff, Nat.reduceLT, reduceIte, f_m_termOf_155]
      have hev : tw_ev N E R o (x :: c) (s, br, lots) = tw_ev N E R o c (y.1 :: s, br, (tw_leaf N E R o lots x).2) := by
        show tw_ev N E R o c (tw_op N E R o (s, br, lots) x) = _
        unfold tw_op
        rw [if_pos h9, y1]
      rw [hev]
      have hfr : tw_fr tm_S1 σ (rx_si y.2 146 s.length y.1) := (y2.mn tm_S01).si (by unfold tm_S1; omega)
      have := ih (p + 1) (y.1 :: s) br (tw_leaf N E R o lots x).2 (rx_si y.2 146 s.length y.1) n (he.fr (hfr.mn tm_S12)) (by rw [hfr.i (tm_S1i (by decide) (by decide))]; exact ho) (tm_code.fr (fun q j h1 h2 => hfr.i (tm_S1i (by omega) (by omega))) c (p + 1) c4) (by omega)
        ⟨by rw [tw_r1s], tm_st.fr s (fun j hj => by rw [tw_r1n _ _ (by omega)]; exact y2.i (by unfold tm_S0; omega)) hst⟩ (by rw [List.length_cons]; omega) (by rw [List.length_cons]; exact hdp.2) hok' (by rw [tw_r1n _ _ (by omega), y2.i (by unfold tm_S0; omega)]; exact hbr) (by rw [tw_r1n _ _ (by omega)]; exact y3) (by omega)
      exact tw_mono this (fun z hz => ⟨hz.1, hfr.tr hz.2.1, hz.2.2⟩)
    · rw [if_neg h9] at hdp
      rw [if_pos (by omega)]
      obtain ⟨b, a, st, rfl⟩ : ∃ b a st, s = b :: a :: st := by
        match s, hdp.2.1 with
        | b :: a :: st, _ => exact ⟨b, a, st, rfl⟩
      obtain ⟨t1, t2, t3⟩ := hst
      rw [List.length_cons, List.length_cons] at hs15
      have hev : tw_ev N E R o (x :: c) (b :: a :: st, br, lots) = tw_ev N E R o c (tw_bin x.1 a b :: st, br || (x.1 == 12 && b == nI 0), lots) := by
        show tw_ev N E R o c (tw_op N E R o (b :: a :: st, br, lots) x) = _
        unfold tw_op
        rw [if_neg h9]
      rw [hev]
      rw [List.length_cons] at t1
      have dp2 : tw_dp c (tw_bin x.1 a b :: st).length 1 := by
        have := hdp.2.2
        rw [List.length_cons, List.length_cons] at this
        rw [List.length_cons]
        exact this
      -- what is left behind the sign
      have key : ∀ (σ1 : rx_St) (br1 : Bool), tw_fr tm_S1 σ σ1 → (∀ j, j < st.length → σ1.1 146 j = σ.1 146 j) → σ1.1 87 83 = tw_B br1 → σ1.1 87 81 = nI lots → br1 = (br || (x.1 == 12 && b == nI 0)) →
          tw_ok (f_m_termOf_154 (f_m_termOf_10 n) (nI (p + 1 + c.length)) (nI (st.length + 1)) (nI p) (nI st.length) (tw_bin x.1 a b) σ1) (fun y => y.1 = tw_amt (tw_ev N E R o c (tw_bin x.1 a b :: st, br || (x.1 == 12 && b == nI 0), lots)) ∧ tw_fr tm_S1 σ y.2 ∧ y.2.1 87 83 = tw_B (tw_ev N E R o c (tw_bin x.1 a b :: st, br || (x.1 == 12 && b == nI 0), lots)).2.1 ∧ y.2.1 87 81 = nI (tw_ev N E R o c (tw_bin x.1 a b :: st, br || (x.1 == 12 && b == nI 0), lots)).2.2) := by
        intro σ1 br1 hfr hk hb1 hl1 hbe
        subst hbe
        unfold f_m_termOf_154 f_m_termOf_155
        simp (disch := omega) only [tw_L, tw_gN, tw_cl, tw_le, tw_lt, tw_eq, nI_add, pk_mul, tw_sub, tw_B0, tw_B1, tw_nb0, tw_nb1, tw_r1s, tw_r1n, if_true, if_false, Nat.le_refl, Nat.reduceEqDiff, Nat.reduceLeDiff, Nat.reduceLT, reduceIte, Nat.add_sub_cancel]
        have hfr2 : tw_fr tm_S1 σ (rx_si σ1 146 st.length (tw_bin x.1 a b)) := hfr.si (by unfold tm_S1; omega)
        have := ih (p + 1) (tw_bin x.1 a b :: st) (br || (x.1 == 12 && b == nI 0)) lots (rx_si σ1 146 st.length (tw_bin x.1 a b)) n (he.fr (hfr2.mn tm_S12)) (by rw [hfr2.i (tm_S1i (by decide) (by decide))]; exact ho) (tm_code.fr (fun q j h1 h2 => hfr2.i (tm_S1i (by omega) (by omega))) c (p + 1) c4) (by omega)
          ⟨by rw [tw_r1s], tm_st.fr st (fun j hj => by rw [tw_r1n _ _ (by omega)]; exact hk j hj) t3⟩ (by rw [List.length_cons]; omega) dp2 hok' (by rw [tw_r1n _ _ (by omega)]; exact hb1) (by rw [tw_r1n _ _ (by omega)]; exact hl1) (by omega)
        rw [List.length_cons] at this
        exact tw_mono this (fun z hz => ⟨hz.1, hfr2.tr hz.2.1, hz.2.2⟩)
      simp (disch := omega) only [tw_L, tw_gN, tw_cl, tw_le, tw_lt, tw_eq, nI_add, pk_mul, tw_sub, tw_B0, tw_B1, tw_nb0, tw_nb1, tw_r1s, tw_r1n, if_true, if_false, Nat.le_refl, Nat.reduceEqDiff, Nat.reduceLeDiff, Nat.reduceLT, reduceIte, List.length_cons, tw_dec, Nat.add_sub_cancel, t1, t2]
      obtain ⟨k, xa, xb⟩ := x
      dsimp only at hx12 h9 c1 key ⊢
      have hx912 : k = 9 ∨ k = 10 ∨ k = 11 ∨ k = 12 := by omega
      rcases hx912 with rfl | rfl | rfl | rfl
      · unfold f_m_termOf_88
        simp (disch := omega) only [tw_L, tw_gN, tw_cl, tw_le, tw_lt, tw_eq, nI_add, pk_mul, tw_sub, tw_B0, tw_B1, tw_nb0, tw_nb1, tw_r1s, tw_r1n, if_true, if_false, Nat.le_refl, Nat.reduceEqDiff, Nat.reduceLeDiff, Nat.reduceLT, reduceIte]
        exact key σ br tw_fr.rf (fun _ _ => rfl) hbr hl (by simp)
      · unfold f_m_termOf_88
        simp (disch := omega) only [tw_L, tw_gN, tw_cl, tw_le, tw_lt, tw_eq, nI_add, pk_mul, tw_sub, tw_B0, tw_B1, tw_nb0, tw_nb1, tw_r1s, tw_r1n, if_true, if_false, Nat.le_refl, Nat.reduceEqDiff, Nat.reduceLeDiff, Nat.reduceLT, reduceIte]
        exact key σ br tw_fr.rf (fun _ _ => rfl) hbr hl (by simp)
      · unfold f_m_termOf_88
        simp (disch := omega) only [tw_L, tw_gN, tw_cl, tw_le, tw_lt, tw_eq, nI_add, pk_mul, tw_sub, tw_B0, tw_B1, tw_nb0, tw_nb1, tw_r1s, tw_r1n, if_true, if_false, Nat.le_refl, Nat.reduceEqDiff, Nat.reduceLeDiff, Nat.reduceLT, reduceIte]
        exact key σ br tw_fr.rf (fun _ _ => rfl) hbr hl (by simp)
      · unfold f_m_termOf_88
        simp (disch := omega) only [tw_L, tw_gN, tw_cl, tw_le, tw_lt, tw_eq, nI_add, pk_mul, tw_sub, tw_B0, tw_B1, tw_nb0, tw_nb1, tw_r1s, tw_r1n, if_true, if_false, Nat.le_refl, Nat.reduceEqDiff, Nat.reduceLeDiff, Nat.reduceLT, reduceIte]
        by_cases hb0 : b = nI 0
        · simp (disch := omega) only [tw_L, tw_gN, tw_cl, tw_le, tw_lt, tw_eq, nI_add, pk_mul, tw_sub, tw_B0, tw_B1, tw_nb0, tw_nb1, tw_r1s, tw_r1n, if_true, if_false, Nat.le_refl, Nat.reduceEqDiff, Nat.reduceLeDiff, Nat.reduceLT, reduceIte, hb0]
          subst hb0
          exact key (rx_si σ 87 83 (nI 1)) true (tw_fr.rf.si (by unfold tm_S1; omega)) (fun j _ => by rw [tw_r1n _ _ (by omega)]) (by rw [tw_r1s]; rfl) (by rw [tw_r1n _ _ (by omega)]; exact hl) (by simp)
        · simp (disch := omega) only [tw_L, tw_gN, tw_cl, tw_le, tw_lt, tw_eq, nI_add, pk_mul, tw_sub, tw_B0, tw_B1, tw_nb0, tw_nb1, tw_r1s, tw_r1n, if_true, if_false, Nat.le_refl, Nat.reduceEqDiff, Nat.reduceLeDiff, Nat.reduceLT, reduceIte, hb0]
          rw [tw_cE (fun h => h)]
          have := key σ br tw_fr.rf (fun _ _ => rfl) hbr hl (by simp [hb0])
          rw [show tw_bin 12 a b = a / b by unfold tw_bin; rw [if_neg (by decide), if_neg (by decide), if_neg (by decide), if_neg hb0]] at this ⊢
          exact this
end TM
section TM2
variable {W : tw_Wo} {N : tw_N} {E : tw_E} {R : tw_R}
theorem tm_termOf {σ : rx_St} {o p lots : Nat} {c : List tw_Op} (hon : o < N.1) (he : tm_env W N E R σ) (ho : σ.1 87 80 = nI o) (hc : tm_code σ p c) (hp : p + c.length ≤ 1400) (hok : tw_cok W (tw_vc W (N.2.1 o)) c) (hl : σ.1 87 81 = nI lots) :
    tw_ok (f_m_termOf (nI p) (nI (p + c.length)) σ) (fun y => y.1 = tw_amt (tw_ev N E R o c ([], false, lots)) ∧ tw_fr tm_S1 σ y.2 ∧ y.2.1 87 83 = tw_B (tw_ev N E R o c ([], false, lots)).2.1 ∧ y.2.1 87 81 = nI (tw_ev N E R o c ([], false, lots)).2.2) := by
  unfold f_m_termOf
  have hfr : tw_fr tm_S1 σ (rx_si σ 87 83 (nI 0)) := tw_fr.rf.si (by unfold tm_S1; omega)
  have := tm_term_l hon c p [] false lots (rx_si σ 87 83 (nI 0)) rx_fu (he.fr (hfr.mn tm_S12)) (by rw [hfr.i (tm_S1i (by decide) (by decide))]; exact ho) (tm_code.fr (fun q j h1 h2 => hfr.i (tm_S1i (by omega) (by omega))) c p hc) hp trivial (Nat.zero_le _) hok.1 hok.2 (by rw [tw_r1s]; rfl) (by rw [tw_r1n _ _ (by omega)]; exact hl) (by unfold rx_fu; omega)
  exact tw_mono this (fun z hz => ⟨hz.1, hfr.tr hz.2.1, hz.2.2⟩)
def tm_lit (σ : rx_St) (q : Nat) (l : tw_Lit) : Prop := (σ.1 114 q = nI l.2.2.1 ∧ σ.1 115 q = tw_B l.2.1 ∧ σ.1 116 q = tw_B l.1) ∧ ∃ a, σ.1 117 q = nI a ∧ σ.1 118 q = nI (a + l.2.2.2.1.length) ∧ σ.1 119 q = nI (a + l.2.2.2.1.length + l.2.2.2.2.length) ∧ tm_code σ a l.2.2.2.1 ∧ tm_code σ (a + l.2.2.2.1.length) l.2.2.2.2 ∧ a + l.2.2.2.1.length + l.2.2.2.2.length ≤ 1400
def tm_lits (σ : rx_St) : Nat → List tw_Lit → Prop
  | _, [] => True
  | q, l :: ls => tm_lit σ q l ∧ tm_lits σ (q + 1) ls
theorem tm_lit.fr {σ σ' : rx_St} (h : ∀ q j, 95 ≤ q → q ≤ 122 → σ'.1 q j = σ.1 q j) {q : Nat} {l : tw_Lit} (g : tm_lit σ q l) : tm_lit σ' q l := by
  obtain ⟨⟨g1, g2, g3⟩, a, g4, g5, g6, g7, g8, g9⟩ := g
  refine ⟨⟨?_, ?_, ?_⟩, a, ?_, ?_, ?_, tm_code.fr (fun q j h1 h2 => h q j (by omega) (by omega)) _ _ g7, tm_code.fr (fun q j h1 h2 => h q j (by omega) (by omega)) _ _ g8, g9⟩
  · rw [h _ _ (by omega) (by omega)]; exact g1
  · rw [h _ _ (by omega) (by omega)]; exact g2
  · rw [h _ _ (by omega) (by omega)]; exact g3
  · rw [h _ _ (by omega) (by omega)]; exact g4
  · rw [h _ _ (by omega) (by omega)]; exact g5
  · rw [h _ _ (by omega) (by omega)]; exact g6
theorem tm_lits.fr {σ σ' : rx_St} (h : ∀ q j, 95 ≤ q → q ≤ 122 → σ'.1 q j = σ.1 q j) : ∀ (ls : List tw_Lit) (q : Nat), tm_lits σ q ls → tm_lits σ' q ls
  | [], _, _ => trivial
  | _ :: ls, q, ⟨h1, h2⟩ => ⟨h1.fr h, tm_lits.fr h ls (q + 1) h2⟩
theorem tm_true56 {σ : rx_St} {q k : Nat} {nt br : Bool} {a b : Int32} (hq : q < 500) (hk : k < 4) (h1 : σ.1 114 q = nI k) (h2 : σ.1 115 q = tw_B nt) : f_m_isTrue_56 (nI q) a b (tw_B br) σ = some (tw_B ((tw_cmp k a b && !br) != nt), σ) := by
  have h9 : ∀ x : Bool, f_m_isTrue_139 (nI q) (tw_B br) (tw_B x) σ = some (tw_B ((x && !br) != nt), σ) := by
    intro x
    unfold f_m_isTrue_139 f_m_isTrue_154 f_m_isTrue_155
    simp (disch := omega) only [tw_L, tw_gN, tw_cl, tw_le, tw_lt, tw_eq, nI_add, pk_mul, tw_sub, tw_B0, tw_B1, tw_nb0, tw_nb1, tw_r1s, tw_r1n, if_true, if_false, Nat.le_refl, Nat.reduceEqDiff, Nat.reduceLeDiff, Nat.reduceLT, reduceIte, h2]
    cases x <;> cases br <;> cases nt <;> rfl
  unfold f_m_isTrue_56
  simp (disch := omega) only [tw_L, tw_gN, tw_cl, tw_le, tw_lt, tw_eq, nI_add, pk_mul, tw_sub, tw_B0, tw_B1, tw_nb0, tw_nb1, tw_r1s, tw_r1n, if_true, if_false, Nat.le_refl, Nat.reduceEqDiff, Nat.reduceLeDiff, Nat.reduceLT, reduceIte, h1]
  have e1 := h9 true
  have e0 := h9 false
  rw [tw_Bt] at e1
  rw [tw_Bf] at e0
  unfold tw_cmp
  match k, hk with
  | 0, _ =>
    simp (disch := omega) only [tw_L, tw_gN, tw_cl, tw_le, tw_lt, tw_eq, nI_add, pk_mul, tw_sub, tw_B0, tw_B1, tw_nb0, tw_nb1, tw_r1s, tw_r1n, if_true, if_false, Nat.le_refl, Nat.reduceEqDiff, Nat.reduceLeDiff, Nat.reduceLT, reduceIte, e1, e0]
    by_cases h : a = b
    · rw [if_pos h, decide_eq_true h]
    · rw [if_neg h, decide_eq_false h]
  | 1, _ =>
    simp (disch := omega) only [tw_L, tw_gN, tw_cl, tw_le, tw_lt, tw_eq, nI_add, pk_mul, tw_sub, tw_B0, tw_B1, tw_nb0, tw_nb1, tw_r1s, tw_r1n, if_true, if_false, Nat.le_refl, Nat.reduceEqDiff, Nat.reduceLeDiff, Nat.reduceLT, reduceIte, e1, e0]
    by_cases h : a = b
    · rw [if_pos h, decide_eq_false (fun g => g h)]
    · rw [if_neg h, decide_eq_true h]
  | 2, _ =>
    simp (disch := omega) only [tw_L, tw_gN, tw_cl, tw_le, tw_lt, tw_eq, nI_add, pk_mul, tw_sub, tw_B0, tw_B1, tw_nb0, tw_nb1, tw_r1s, tw_r1n, if_true, if_false, Nat.le_refl, Nat.reduceEqDiff, Nat.reduceLeDiff, Nat.reduceLT, reduceIte, e1, e0]
    by_cases h : b ≤ a
    · rw [if_pos h, decide_eq_false (Int32.not_lt.mpr h)]
    · rw [if_neg h, decide_eq_true (Int32.not_le.mp h)]
  | 3, _ =>
    simp (disch := omega) only [tw_L, tw_gN, tw_cl, tw_le, tw_lt, tw_eq, nI_add, pk_mul, tw_sub, tw_B0, tw_B1, tw_nb0, tw_nb1, tw_r1s, tw_r1n, if_true, if_false, Nat.le_refl, Nat.reduceEqDiff, Nat.reduceLeDiff, Nat.reduceLT, reduceIte, e1, e0]
    by_cases h : b < a
    · rw [if_pos h, decide_eq_false (Int32.not_le.mpr h)]
    · rw [if_neg h, decide_eq_true (Int32.not_lt.mp h)]
theorem tm_isTrue {σ : rx_St} {o q lots : Nat} {l : tw_Lit} (hon : o < N.1) (he : tm_env W N E R σ) (ho : σ.1 87 80 = nI o) (hq : q < 500) (hm : tm_lit σ q l) (hok : tw_litok W (tw_vc W (N.2.1 o)) l) (hl : σ.1 87 81 = nI lots) :
    tw_ok (f_m_isTrue (nI q) σ) (fun y => y.1 = tw_B (tw_lit N E R o l lots).1 ∧ tw_fr tm_S1 σ y.2 ∧ y.2.1 87 81 = nI (tw_lit N E R o l lots).2) := by
  obtain ⟨⟨g1, g2, g3⟩, a, g4, g5, g6, g7, g8, g9⟩ := hm
  obtain ⟨k1, k2, k3⟩ := hok
  unfold f_m_isTrue
  simp (disch := omega) only [tw_L, tw_gN, tw_cl, tw_le, tw_lt, tw_eq, nI_add, pk_mul, tw_sub, tw_B0, tw_B1, tw_nb0, tw_nb1, tw_r1s, tw_r1n, if_true, if_false, Nat.le_refl, Nat.reduceEqDiff, Nat.reduceLeDiff, Nat.reduceLT, reduceIte, g4, g5]
  refine tw_b (tm_termOf hon he ho g7 (by omega) k2 hl) (fun y hy => ?_)
  obtain ⟨y1, y2, y3, y4⟩ := hy
  have f1 : ∀ {c j : Nat}, 95 ≤ c → c ≤ 122 → c ≠ 87 → y.2.1 c j = σ.1 c j := fun h h2 h3 => y2.i (tm_S1i (by omega) (by omega))
  simp (disch := omega) only [tw_L, tw_gN, tw_cl, tw_le, tw_lt, tw_eq, nI_add, pk_mul, tw_sub, tw_B0, tw_B1, tw_nb0, tw_nb1, tw_r1s, tw_r1n, if_true, if_false, Nat.le_refl, Nat.reduceEqDiff, Nat.reduceLeDiff, Nat.reduceLT, reduceIte, f1, g5, g6]
  refine tw_b (tm_termOf hon (he.fr (y2.mn tm_S12)) (by rw [y2.i (tm_S1i (by decide) (by decide))]; exact ho) (tm_code.fr (fun q j h1 h2 => y2.i (tm_S1i (by omega) (by omega))) _ _ g8) g9 k3 y4) (fun z hz => ?_)
  obtain ⟨z1, z2, z3, z4⟩ := hz
  have f2 : ∀ {c j : Nat}, 95 ≤ c → c ≤ 122 → z.2.1 c j = σ.1 c j := fun h h2 => (z2.i (tm_S1i (by omega) (by omega))).trans (y2.i (tm_S1i (by omega) (by omega)))
  have t := fun (br : Bool) (a b : Int32) => tm_true56 (σ := z.2) (br := br) (a := a) (b := b) hq k1 (by rw [f2 (by decide) (by decide)]; exact g1) (by rw [f2 (by decide) (by decide)]; exact g2)
  have fin : ∀ b : Bool, b = (tw_lit N E R o l lots).1 → tw_ok (some (tw_B b, z.2)) (fun y => y.1 = tw_B (tw_lit N E R o l lots).1 ∧ tw_fr tm_S1 σ y.2 ∧ y.2.1 87 81 = nI (tw_lit N E R o l lots).2) := by
    intro b hb
    rw [tw_some]
    exact ⟨by rw [hb], y2.tr z2, z4⟩
  rw [y1, z1]
  unfold f_m_isTrue_51
  simp (disch := omega) only [tw_L, tw_gN, tw_cl, tw_le, tw_lt, tw_eq, nI_add, pk_mul, tw_sub, tw_B0, tw_B1, tw_nb0, tw_nb1, tw_r1s, tw_r1n, if_true, if_false, Nat.le_refl, Nat.reduceEqDiff, Nat.reduceLeDiff, Nat.reduceLT, reduceIte, y3, z3]
  have t1 := t true
  have t0 := t false
  rw [tw_Bt] at t1
  rw [tw_Bf] at t0
  cases hb1 : (tw_ev N E R o l.2.2.2.1 ([], false, lots)).2.1 with
  | true =>
    rw [if_neg (by decide), t1]
    refine fin _ ?_
    unfold tw_lit
    simp only [hb1, Bool.not_true, Bool.and_false, Bool.true_or]
  | false =>
    rw [if_pos rfl]
    cases hb2 : (tw_ev N E R o l.2.2.2.2 ([], false, (tw_ev N E R o l.2.2.2.1 ([], false, lots)).2.2)).2.1 with
    | true =>
      rw [if_neg (by decide), t1]
      refine fin _ ?_
      unfold tw_lit
      simp only [hb2, Bool.not_true, Bool.and_false, Bool.or_true]
    | false =>
      rw [if_pos rfl, t0]
      refine fin _ ?_
      unfold tw_lit tw_amt
      simp only [hb1, hb2, Bool.false_eq_true, if_false, Bool.or_false, Bool.not_false, Bool.and_true]
end TM2
