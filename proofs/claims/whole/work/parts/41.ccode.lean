/-! THE CLASS: its code runs: E's, LITS -/
section TC2
variable {r w : Nat} {W : tw_Wo} {N : tw_N} {E : tw_E} {R : tw_R}
theorem tc_inv.br {σ : rx_St} {s : List Int32} {br : Bool} {lots : Nat} (h : tc_inv σ s br lots) (b : Bool) : tc_inv (rx_si σ 51 7 (tw_B b)) s b lots := by
  obtain ⟨⟨h1, h2⟩, h4, h5, h6⟩ := h
  exact ⟨⟨by rw [tw_r1n _ _ (by omega)]; exact h1, h2⟩, tc_st.fr s (fun j hj => tw_r1n _ _ (by omega)) h4, tw_r1s _ _ _ _, by rw [tw_r1n _ _ (by omega)]; exact h6⟩
theorem tc_join {σ : rx_St} {k : Nat} {b a : Int32} {s : List Int32} {br : Bool} {lots : Nat} (hk : 9 ≤ k) (hk2 : k ≤ 12) (h : tc_inv σ (b :: a :: s) br lots) : ∃ σ', f_cho_join (nI (tc_op k)) σ = some σ' ∧ tw_fr tc_S1 σ σ' ∧ tc_inv σ' (tw_bin k a b :: s) (br || (k == 12 && b == nI 0)) lots := by
  obtain ⟨σ1, p1, f1, i1⟩ := tc_pop h
  obtain ⟨σ2, p2, f2, i2⟩ := tc_pop i1
  have hs : s.length < 16 := by have := h.1.2; rw [List.length_cons, List.length_cons] at this; omega
  unfold f_cho_join
  rw [p1, Option.bind_some]
  dsimp only
  rw [p2, Option.bind_some]
  dsimp only
  have fin : ∀ z, tw_bin k a b = z → (k == 12 && b == nI 0) = false → ∃ σ', ((f_cho_push z σ2).bind fun y => some y) = some σ' ∧ tw_fr tc_S1 σ σ' ∧ tc_inv σ' (tw_bin k a b :: s) (br || (k == 12 && b == nI 0)) lots := by
    intro z hz hb
    obtain ⟨σ3, p3, f3, i3⟩ := tc_push i2 hs z
    rw [p3, hb, Bool.or_false, hz]
    exact ⟨σ3, rfl, (f1.tr f2).tr f3, i3⟩
  have hk4 : k = 9 ∨ k = 10 ∨ k = 11 ∨ k = 12 := by omega
  rcases hk4 with rfl | rfl | rfl | rfl
  · simp (disch := omega) only [tw_L, tw_gN, tw_cl, tw_le, tw_lt, tw_eq, nI_add, pk_mul, tw_sub, tw_B0, tw_B1, tw_nb0, tw_nb1, tw_r1s, tw_r1n, if_true, if_false, Nat.le_refl, Nat.reduceEqDiff, Nat.reduceLeDiff, Nat.reduceLT, reduceIte, tc_op]
    exact fin _ rfl (by simp)
  · simp (disch := omega) only [tw_L, tw_gN, tw_cl, tw_le, tw_lt, tw_eq, nI_add, pk_mul, tw_sub, tw_B0, tw_B1, tw_nb0, tw_nb1, tw_r1s, tw_r1n, if_true, if_false, Nat.le_refl, Nat.reduceEqDiff, Nat.reduceLeDiff, Nat.reduceLT, reduceIte, tc_op]
    exact fin _ rfl (by simp)
  · simp (disch := omega) only [tw_L, tw_gN, tw_cl, tw_le, tw_lt, tw_eq, nI_add, pk_mul, tw_sub, tw_B0, tw_B1, tw_nb0, tw_nb1, tw_r1s, tw_r1n, if_true, if_false, Nat.le_refl, Nat.reduceEqDiff, Nat.reduceLeDiff, Nat.reduceLT, reduceIte, tc_op]
    exact fin _ rfl (by simp)
  · have h7 : σ2.1 51 7 = tw_B br := i2.2.2.1
    simp (disch := omega) only [tw_L, tw_gN, tw_cl, tw_le, tw_lt, tw_eq, nI_add, pk_mul, tw_sub, tw_B0, tw_B1, tw_nb0, tw_nb1, tw_r1s, tw_r1n, if_true, if_false, Nat.le_refl, Nat.reduceEqDiff, Nat.reduceLeDiff, Nat.reduceLT, reduceIte, tc_op, h7]
    have g83 : ∀ b1 : Bool, b1 = (br || b == nI 0) → tw_ok (f_cho_join_83 b a (tw_B b1) σ2) (fun σ' => tw_fr tc_S1 σ σ' ∧ tc_inv σ' (tw_bin 12 a b :: s) (br || (12 == 12 && b == nI 0)) lots) := by
      intro b1 hb1
      unfold f_cho_join_83 f_cho_join_98
      rw [tw_cE (by cases b1; exact Or.inl rfl; exact Or.inr rfl)]
      have i3 := i2.br b1
      have f3 : tw_fr tc_S1 σ (rx_si σ2 51 7 (tw_B b1)) := (f1.tr f2).si (by unfold tc_S1; omega)
      by_cases hb0 : b = nI 0
      · simp (disch := omega) only [tw_L, tw_gN, tw_cl, tw_le, tw_lt, tw_eq, nI_add, pk_mul, tw_sub, tw_B0, tw_B1, tw_nb0, tw_nb1, tw_r1s, tw_r1n, if_true, if_false, Nat.le_refl, Nat.reduceEqDiff, Nat.reduceLeDiff, Nat.reduceLT, reduceIte, hb0]
        subst hb0
        obtain ⟨σ4, p4, f4, i4⟩ := tc_push i3 hs (nI 0)
        rw [p4]
        refine ⟨σ4, rfl, f3.tr f4, ?_⟩
        rw [show tw_bin 12 a (nI 0) = nI 0 from rfl, show (br || (12 == 12 && nI 0 == nI 0)) = b1 by rw [hb1]; simp]
        exact i4
      · simp (disch := omega) only [tw_L, tw_gN, tw_cl, tw_le, tw_lt, tw_eq, nI_add, pk_mul, tw_sub, tw_B0, tw_B1, tw_nb0, tw_nb1, tw_r1s, tw_r1n, if_true, if_false, Nat.le_refl, Nat.reduceEqDiff, Nat.reduceLeDiff, Nat.reduceLT, reduceIte, hb0]
        rw [tw_cE (fun h => h)]
        obtain ⟨σ4, p4, f4, i4⟩ := tc_push i3 hs (a / b)
        rw [p4]
        refine ⟨σ4, rfl, f3.tr f4, ?_⟩
        rw [show tw_bin 12 a b = a / b by unfold tw_bin; rw [if_neg (by decide), if_neg (by decide), if_neg (by decide), if_neg hb0], show (br || (12 == 12 && b == nI 0)) = b1 by rw [hb1]; simp [hb0]]
        exact i4
    unfold f_cho_join_78
    have out : ∀ {x : Option rx_St}, tw_ok x (fun σ' => tw_fr tc_S1 σ σ' ∧ tc_inv σ' (tw_bin 12 a b :: s) (br || (12 == 12 && b == nI 0)) lots) → ∃ σ', x = some σ' ∧ tw_fr tc_S1 σ σ' ∧ tc_inv σ' (tw_bin 12 a b :: s) (br || (12 == 12 && b == nI 0)) lots := fun h => h
    cases br with
    | true =>
      rw [if_neg (by decide)]
      exact out (g83 true (by simp))
    | false =>
      rw [if_pos rfl]
      by_cases hb0 : b = nI 0
      · subst hb0
        simp (disch := omega) only [tw_L, tw_gN, tw_cl, tw_le, tw_lt, tw_eq, nI_add, pk_mul, tw_sub, tw_B0, tw_B1, tw_nb0, tw_nb1, tw_r1s, tw_r1n, if_true, if_false, Nat.le_refl, Nat.reduceEqDiff, Nat.reduceLeDiff, Nat.reduceLT, reduceIte]
        exact out (g83 true (by simp))
      · simp (disch := omega) only [tw_L, tw_gN, tw_cl, tw_le, tw_lt, tw_eq, nI_add, pk_mul, tw_sub, tw_B0, tw_B1, tw_nb0, tw_nb1, tw_r1s, tw_r1n, if_true, if_false, Nat.le_refl, Nat.reduceEqDiff, Nat.reduceLeDiff, Nat.reduceLT, reduceIte, hb0]
        exact out (g83 false (by simp [hb0]))
/-- what stays while a ONE chooses: the chooser's start, the code's place -/
def tc_ok (r w : Nat) (cnt : Bool) (W : tw_Wo) (N : tw_N) (E : tw_E) (R : tw_R) (o : Nat) (σ : rx_St) : Prop := tc_env r W N E R σ ∧ σ.1 51 9 = nI o ∧ (cnt = true → tc_tab W N R σ)
theorem tc_ok.fr {cnt : Bool} {o : Nat} {σ σ' : rx_St} (h : tc_ok r w cnt W N E R o σ) (f : tw_fr tc_S1 σ σ') : tc_ok r w cnt W N E R o σ' :=
  ⟨h.1.f2 (f.mn tc_S12), by rw [f.i (by unfold tc_S1; omega)]; exact h.2.1, fun z => (h.2.2 z).fr (fun q j a b => f.i (by unfold tc_S1; omega))⟩
theorem tc_opv : ∀ k : Nat, 17 ≤ tc_op k ∧ tc_op k ≤ 40 ∧ (k < 9 → tc_op k < 27 ∨ 30 < tc_op k) ∧ (9 ≤ k → 27 ≤ tc_op k ∧ tc_op k ≤ 30) ∧ tc_op k ≠ 31 ∧ tc_op k ≠ 32 ∧ tc_op k ≠ 33 ∧ tc_op k ≠ 34
  | 0 => by decide
  | 1 => by decide
  | 2 => by decide
  | 3 => by decide
  | 4 => by decide
  | 5 => by decide
  | 6 => by decide
  | 7 => by decide
  | 8 => by decide
  | 9 => by decide
  | 10 => by decide
  | 11 => by decide
  | k + 12 => by
    show 17 ≤ 30 ∧ 30 ≤ 40 ∧ (k + 12 < 9 → 30 < 27 ∨ 30 < 30) ∧ (9 ≤ k + 12 → 27 ≤ 30 ∧ 30 ≤ 30) ∧ 30 ≠ 31 ∧ 30 ≠ 32 ∧ 30 ≠ 33 ∧ 30 ≠ 34
    omega
theorem tw_ev_base (o : Nat) (base : List Int32) : ∀ (c : List tw_Op) (s : List Int32) (br : Bool) (lots : Nat) (e : Nat), tw_dp c s.length e → tw_ev N E R o c (s ++ base, br, lots) = ((tw_ev N E R o c (s, br, lots)).1 ++ base, (tw_ev N E R o c (s, br, lots)).2.1, (tw_ev N E R o c (s, br, lots)).2.2) ∧ (tw_ev N E R o c (s, br, lots)).1.length = e
  | [], s, br, lots, e, h => ⟨rfl, h⟩
  | x :: c, s, br, lots, e, h => by
    show tw_ev N E R o c (tw_op N E R o (s ++ base, br, lots) x) = _ ∧ _
    rw [show tw_ev N E R o (x :: c) (s, br, lots) = tw_ev N E R o c (tw_op N E R o (s, br, lots) x) from rfl]
    unfold tw_dp at h
    unfold tw_op
    by_cases h9 : x.1 < 9
    · rw [if_pos h9] at h ⊢
      rw [if_pos h9]
      exact tw_ev_base o base c ((tw_leaf N E R o lots x).1 :: s) br _ e (by rw [List.length_cons]; exact h.2)
    · rw [if_neg h9] at h ⊢
      rw [if_neg h9]
      obtain ⟨b, a, st, rfl⟩ : ∃ b a st, s = b :: a :: st := by
        match s, h.2.1 with
        | b :: a :: st, _ => exact ⟨b, a, st, rfl⟩
      refine tw_ev_base o base c (tw_bin x.1 a b :: st) _ _ e ?_
      have := h.2.2
      rw [List.length_cons, List.length_cons] at this
      rw [List.length_cons]
      exact this
theorem tc_run {cnt : Bool} {o en : Nat} (hw : w ≤ 1) (hon : o < N.1) (hen : en ≤ 500) (Q : rx_St → Prop) : ∀ (c : List tw_Op) (p : Nat) (s base : List Int32) (br : Bool) (lots : Nat) (σ : rx_St) (m e : Nat),
    tc_ok r w cnt W N E R o σ → tc_inv σ (s ++ base) br lots → base.length ≤ 1 → tw_dp c s.length e → tc_code w cnt σ p c → p + c.length ≤ en → (∀ x ∈ c, tw_opok W (tw_vc W (N.2.1 o)) x) →
    (∀ σ', tw_fr tc_S1 σ σ' → tc_inv σ' ((tw_ev N E R o c (s, br, lots)).1 ++ base) (tw_ev N E R o c (s, br, lots)).2.1 (tw_ev N E R o c (s, br, lots)).2.2 → tw_ok (f_cho_choose_78 r w m (nI en) (nI (p + c.length)) σ') Q) →
    tw_ok (f_cho_choose_78 r w (m + c.length) (nI en) (nI p) σ) Q := by
  intro c
  induction c with
  | nil =>
    intro p s base br lots σ m e hk hi hb hdp hc hp hok cont
    exact cont σ tw_fr.rf hi
  | cons x c ih =>
    intro p s base br lots σ m e hk hi hb hdp hc hp hok cont
    rw [List.length_cons] at hp
    obtain ⟨⟨c1, c2, c3, c4⟩, c5⟩ := hc
    have hx0 := hok x List.mem_cons_self
    have hl : m + (x :: c).length = (m + c.length) + 1 := by rw [List.length_cons]; omega
    have hp1 : p + (x :: c).length = (p + 1) + c.length := by rw [List.length_cons]; omega
    rw [hp1] at cont
    rw [hl, f_cho_choose_78]
    obtain ⟨v1, v2, v3, v4, v5, v6, v7, v8⟩ := tc_opv x.1
    have hx12 : x.1 ≤ 12 := by
      unfold tw_dp at hdp
      by_cases h9 : x.1 < 9
      · omega
      · rw [if_neg h9] at hdp; exact hdp.1
    unfold tw_dp at hdp
    by_cases h9 : x.1 < 9
    · rw [if_pos h9] at hdp
      have hlen : (s ++ base).length < 16 := by rw [List.length_append]; omega
      obtain ⟨σ1, u1, f1, i1⟩ := tc_unit (a := σ.1 (19 + 14 * w) p) (b := σ.1 (20 + 14 * w) p) hk.1 hk.2.1 hon hk.2.2 x c2 c3 c4 h9 hx0 hi
      obtain ⟨σ2, u2, f2, i2⟩ := tc_push i1 hlen (tw_leaf N E R o lots x).1
      have h326 : f_cho_choose_326 r w (f_cho_choose_78 r w (m + c.length)) (nI en) (nI (p + 1)) (nI p) (σ.1 (19 + 14 * w) p) (σ.1 (20 + 14 * w) p) σ = f_cho_choose_78 r w (m + c.length) (nI en) (nI (p + 1)) σ2 := by
        unfold f_cho_choose_326 f_cho_choose_346
        simp (disch := omega) only [tw_L, tw_gN, tw_cl, tw_le, tw_lt, tw_eq, nI_add, pk_mul, tw_sub, tw_B0, tw_B1, tw_nb0, tw_nb1, tw_r1s, tw_r1n, if_true, if_false, Nat.le_refl, Nat.reduceEqDiff, Nat.reduceLeDiff, Nat.reduceLT, reduceIte, c1, u1, Option.bind_some, u2]
      have hev : tw_ev N E R o (x :: c) (s, br, lots) = tw_ev N E R o c ((tw_leaf N E R o lots x).1 :: s, br, (tw_leaf N E R o lots x).2) := by
        show tw_ev N E R o c (tw_op N E R o (s, br, lots) x) = _
        unfold tw_op
        rw [if_pos h9]
      rw [hev] at cont
      have go : tw_ok (f_cho_choose_78 r w (m + c.length) (nI en) (nI (p + 1)) σ2) Q :=
        ih (p + 1) ((tw_leaf N E R o lots x).1 :: s) base br _ σ2 m e ((hk.fr f1).fr f2) i2 hb (by rw [List.length_cons]; exact hdp.2) (tc_code.fr (fun q j a b => ((f1.tr f2).i (by unfold tc_S1; omega))) c (p + 1) c5) (by omega) (fun y hy => hok y (List.mem_cons_of_mem _ hy)) (fun σ' f k => cont σ' ((f1.tr f2).tr f) k)
      rw [← h326] at go
      have hk9 : x.1 = 0 ∨ x.1 = 1 ∨ x.1 = 2 ∨ x.1 = 3 ∨ x.1 = 4 ∨ x.1 = 5 ∨ x.1 = 6 ∨ x.1 = 7 ∨ x.1 = 8 := by omega
      rcases hk9 with h | h | h | h | h | h | h | h | h
      all_goals
        rw [h] at c1
        simp (disch := omega) only [tw_L, tw_gN, tw_cl, tw_le, tw_lt, tw_eq, nI_add, pk_mul, tw_sub, tw_B0, tw_B1, tw_nb0, tw_nb1, tw_r1s, tw_r1n, if_true, if_false, Nat.le_refl, Nat.reduceEqDiff, Nat.reduceLeDiff, Nat.reduceLT, reduceIte, c1, tc_op]
        rw [if_neg (by omega)]
        exact go
    · rw [if_neg h9] at hdp
      obtain ⟨b, a, st, rfl⟩ : ∃ b a st, s = b :: a :: st := by
        match s, hdp.2.1 with
        | b :: a :: st, _ => exact ⟨b, a, st, rfl⟩
      obtain ⟨σ1, u1, f1, i1⟩ := tc_join (k := x.1) (by omega) hx12 hi
      have h293 : f_cho_choose_293 r w (f_cho_choose_78 r w (m + c.length)) (nI en) (nI (p + 1)) (nI p) σ = f_cho_choose_78 r w (m + c.length) (nI en) (nI (p + 1)) σ1 := by
        unfold f_cho_choose_293 f_cho_choose_346
        simp (disch := omega) only [tw_L, tw_gN, tw_cl, tw_le, tw_lt, tw_eq, nI_add, pk_mul, tw_sub, tw_B0, tw_B1, tw_nb0, tw_nb1, tw_r1s, tw_r1n, if_true, if_false, Nat.le_refl, Nat.reduceEqDiff, Nat.reduceLeDiff, Nat.reduceLT, reduceIte, c1, u1, Option.bind_some]
      have hev : tw_ev N E R o (x :: c) (b :: a :: st, br, lots) = tw_ev N E R o c (tw_bin x.1 a b :: st, br || (x.1 == 12 && b == nI 0), lots) := by
        show tw_ev N E R o c (tw_op N E R o (b :: a :: st, br, lots) x) = _
        unfold tw_op
        rw [if_neg h9]
      rw [hev] at cont
      have go : tw_ok (f_cho_choose_78 r w (m + c.length) (nI en) (nI (p + 1)) σ1) Q :=
        ih (p + 1) (tw_bin x.1 a b :: st) base _ _ σ1 m e (hk.fr f1) i1 hb (by have := hdp.2.2; rw [List.length_cons, List.length_cons] at this; rw [List.length_cons]; exact this) (tc_code.fr (fun q j a b => f1.i (by unfold tc_S1; omega)) c (p + 1) c5) (by omega) (fun y hy => hok y (List.mem_cons_of_mem _ hy)) (fun σ' f k => cont σ' (f1.tr f) k)
      rw [← h293] at go
      have hk9 : x.1 = 9 ∨ x.1 = 10 ∨ x.1 = 11 ∨ x.1 = 12 := by omega
      rcases hk9 with h | h | h | h
      all_goals
        rw [h] at c1
        simp (disch := omega) only [tw_L, tw_gN, tw_cl, tw_le, tw_lt, tw_eq, nI_add, pk_mul, tw_sub, tw_B0, tw_B1, tw_nb0, tw_nb1, tw_r1s, tw_r1n, if_true, if_false, Nat.le_refl, Nat.reduceEqDiff, Nat.reduceLeDiff, Nat.reduceLT, reduceIte, c1, tc_op]
        rw [if_neg (by omega)]
        exact go
end TC2
