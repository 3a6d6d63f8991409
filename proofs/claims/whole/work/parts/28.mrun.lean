/-! THE MODEL'S TICK AND RUN -/
section TM7
variable {W : tw_Wo} {N : tw_N} {E : tw_E} {R : tw_R}
theorem tw_min_eq (a b : Int32) : (if b ≤ a then b else a) = tw_min a b := by
  unfold tw_min
  by_cases h : b < a
  · rw [if_pos h, if_pos (Int32.le_of_lt h)]
  · rw [if_neg h]
    by_cases h2 : b ≤ a
    · rw [if_pos h2]
      exact Int32.le_antisymm h2 (Int32.not_lt.mp h)
    · rw [if_neg h2]
theorem tm_does {σ : rx_St} {o p : Nat} {e : tw_Ev} (hon : o < N.1) (he : tm_env W N E R σ) (hp : p < 960) (hev : tm_ev σ p e) (hok : tw_evok W N o e) :
    tw_ok (f_m_does (nI o) (nI p) σ) (fun σ' => tw_fr tm_S6 σ σ' ∧ tm_env W N E (tw_do o R e) σ') := by
  obtain ⟨⟨s9, v1, v2⟩, v3, v4, v5, v6⟩ := hev
  obtain ⟨k1, k2, k3⟩ := hok
  obtain ⟨⟨h1, h2⟩, h3, -, -, -, h7⟩ := id he
  obtain ⟨⟨g1, g2⟩, g3, ⟨g4, g5⟩, g6, g7⟩ := h3 o hon
  have hv6 := (h7.2.2 _ g2).1
  obtain ⟨s, v, x, to, u⟩ := e
  dsimp only at v2 v3 v4 v5 v6 k1 k2 k3
  have give : s = 2 → tw_ok (f_m_does_117 (nI o) (nI p) σ) (fun σ' => tw_fr tm_S6 σ σ' ∧ tm_env W N E (tw_do o R (s, v, x, to, u)) σ') := by
    intro hs
    subst hs
    have hv := k1 (Or.inr rfl)
    have e0 := v3 (Or.inr rfl)
    have e1 := v4 rfl
    have e2 := v5 (by decide)
    have e3 := v6 rfl
    unfold f_m_does_117
    simp (disch := omega) only [tw_L, tw_gN, tw_cl, tw_le, tw_lt, tw_eq, nI_add, pk_mul, tw_sub, tw_B0, tw_B1, tw_nb0, tw_nb1, tw_r1s, tw_r1n, if_true, if_false, Nat.le_refl, Nat.reduceEqDiff, Nat.reduceLeDiff, Nat.reduceLT, reduceIte, e0, e2, g7 v hv]
    have h54 : tw_ok (f_m_does_154 (nI o) (nI p) (tw_min x (R.1 (6 * o + v))) σ) (fun σ' => tw_fr tm_S6 σ σ' ∧ tm_env W N E (tw_do o R (2, v, x, to, u)) σ') := by
      unfold f_m_does_154
      cases to with
      | none =>
        simp (disch := omega) only [tw_L, tw_gN, tw_cl, tw_le, tw_lt, tw_eq, nI_add, pk_mul, tw_sub, tw_B0, tw_B1, tw_nb0, tw_nb1, tw_r1s, tw_r1n, if_true, if_false, Nat.le_refl, Nat.reduceEqDiff, Nat.reduceLeDiff, Nat.reduceLT, reduceIte, e3, tw_opt]
        have hd : tw_do o R (2, v, x, none, u) = R := rfl
        rw [hd]
        by_cases c : tw_min x (R.1 (6 * o + v)) < nI 1
        · rw [if_pos c, tw_some]; exact ⟨tw_fr.rf, he⟩
        · rw [if_neg c, tw_some]; exact ⟨tw_fr.rf, he⟩
      | some q =>
        obtain ⟨hq, hu⟩ := k2 rfl q rfl
        obtain ⟨⟨q1, q2⟩, q3, ⟨q4, q5⟩, q6, q7⟩ := h3 q hq
        have hu6 := (h7.2.2 _ q2).1
        simp (disch := omega) only [tw_L, tw_gN, tw_cl, tw_le, tw_lt, tw_eq, nI_add, pk_mul, tw_sub, tw_B0, tw_B1, tw_nb0, tw_nb1, tw_r1s, tw_r1n, if_true, if_false, Nat.le_refl, Nat.reduceEqDiff, Nat.reduceLeDiff, Nat.reduceLT, reduceIte, e3, tw_opt, tw_m1, q6, e0, e1, g7 v hv]
        have hd : tw_do o R (2, v, x, some q, u) = if tw_min x (R.1 (6 * o + v)) < nI 1 then R else if R.2.2 q = true then R
          else (tw_updN (tw_updN R.1 (6 * o + v) (R.1 (6 * o + v) - tw_min x (R.1 (6 * o + v)))) (6 * q + u) (tw_updN R.1 (6 * o + v) (R.1 (6 * o + v) - tw_min x (R.1 (6 * o + v))) (6 * q + u) + tw_min x (R.1 (6 * o + v))), R.2.1, R.2.2) := rfl
        rw [hd]
        by_cases c : tw_min x (R.1 (6 * o + v)) < nI 1
        · rw [if_pos c, if_pos c, tw_some]; exact ⟨tw_fr.rf, he⟩
        · rw [if_neg c, if_neg c]
          cases hg : R.2.2 q with
          | true => rw [if_neg (by decide), if_pos rfl, tw_some]; exact ⟨tw_fr.rf, he⟩
          | false =>
            rw [if_pos rfl, if_neg (by decide), tw_some]
            have s1 := he.vars hon hv (R.1 (6 * o + v) - tw_min x (R.1 (6 * o + v)))
            have s2 := s1.vars hq hu (tw_updN R.1 (6 * o + v) (R.1 (6 * o + v) - tw_min x (R.1 (6 * o + v))) (6 * q + u) + tw_min x (R.1 (6 * o + v)))
            have e9 : (rx_si σ 135 (6 * o + v) (R.1 (6 * o + v) - tw_min x (R.1 (6 * o + v)))).1 135 (6 * q + u) = tw_updN R.1 (6 * o + v) (R.1 (6 * o + v) - tw_min x (R.1 (6 * o + v))) (6 * q + u) := (s1.2.1 q hq).2.2.2.2 u hu
            rw [e9]
            exact ⟨(tw_fr.rf.si (by unfold tm_S6; omega)).si (by unfold tm_S6; omega), s2⟩
    have h54' : ∀ z, z = tw_min x (R.1 (6 * o + v)) → tw_ok (f_m_does_154 (nI o) (nI p) z σ) (fun σ' => tw_fr tm_S6 σ σ' ∧ tm_env W N E (tw_do o R (2, v, x, to, u)) σ') := fun z hz => by rw [hz]; exact h54
    have := tw_min_eq x (R.1 (6 * o + v))
    by_cases c : R.1 (6 * o + v) ≤ x
    · rw [if_pos c] at this ⊢
      exact h54' _ this
    · rw [if_neg c] at this ⊢
      exact h54' _ this
  unfold f_m_does
  simp (disch := omega) only [tw_L, tw_gN, tw_cl, tw_le, tw_lt, tw_eq, nI_add, pk_mul, tw_sub, tw_B0, tw_B1, tw_nb0, tw_nb1, tw_r1s, tw_r1n, if_true, if_false, Nat.le_refl, Nat.reduceEqDiff, Nat.reduceLeDiff, Nat.reduceLT, reduceIte, v1]
  rcases k3 with rfl | rfl | rfl | rfl
  · obtain rfl : s9 = 0 := by omega
    have hv := k1 (Or.inl rfl)
    have e0 := v3 (Or.inl rfl)
    have e2 := v5 (by decide)
    simp (disch := omega) only [tw_L, tw_gN, tw_cl, tw_le, tw_lt, tw_eq, nI_add, pk_mul, tw_sub, tw_B0, tw_B1, tw_nb0, tw_nb1, tw_r1s, tw_r1n, if_true, if_false, Nat.le_refl, Nat.reduceEqDiff, Nat.reduceLeDiff, Nat.reduceLT, reduceIte, e0, e2, g7 v hv, tw_some]
    exact ⟨tw_fr.rf.si (by unfold tm_S6; omega), he.vars hon hv _⟩
  · obtain rfl : s9 = 1 := by omega
    have e2 := v5 (by decide)
    obtain ⟨y, t1, t2, t3⟩ := tm_go g5 x
    simp (disch := omega) only [tw_L, tw_gN, tw_cl, tw_le, tw_lt, tw_eq, nI_add, pk_mul, tw_sub, tw_B0, tw_B1, tw_nb0, tw_nb1, tw_r1s, tw_r1n, if_true, if_false, Nat.le_refl, Nat.reduceEqDiff, Nat.reduceLeDiff, Nat.reduceLT, reduceIte, e2, g4]
    rw [show ((nI (R.2.1 o)).toInt64 + x.toInt64 - ((nI (R.2.1 o)).toInt64 + x.toInt64) / 10 * 10) = y from t1]
    by_cases c : nI 0 ≤ lg_cmp y 0
    · rw [if_pos c, t2 c, tw_some]
      exact ⟨tw_fr.rf.si (by unfold tm_S6; omega), he.go hon (tw_go_lt _ _)⟩
    · rw [if_neg c, t3 c, tw_some]
      exact ⟨tw_fr.rf.si (by unfold tm_S6; omega), he.go hon (tw_go_lt _ _)⟩
  · have hs9 : s9 = 2 ∨ s9 = 3 := by omega
    rcases hs9 with rfl | rfl
    · simp (disch := omega) only [tw_L, tw_gN, tw_cl, tw_le, tw_lt, tw_eq, nI_add, pk_mul, tw_sub, tw_B0, tw_B1, tw_nb0, tw_nb1, tw_r1s, tw_r1n, if_true, if_false, Nat.le_refl, Nat.reduceEqDiff, Nat.reduceLeDiff, Nat.reduceLT, reduceIte]
      exact give rfl
    · simp (disch := omega) only [tw_L, tw_gN, tw_cl, tw_le, tw_lt, tw_eq, nI_add, pk_mul, tw_sub, tw_B0, tw_B1, tw_nb0, tw_nb1, tw_r1s, tw_r1n, if_true, if_false, Nat.le_refl, Nat.reduceEqDiff, Nat.reduceLeDiff, Nat.reduceLT, reduceIte]
      exact give rfl
  · obtain rfl : s9 = 4 := by omega
    simp (disch := omega) only [tw_L, tw_gN, tw_cl, tw_le, tw_lt, tw_eq, nI_add, pk_mul, tw_sub, tw_B0, tw_B1, tw_nb0, tw_nb1, tw_r1s, tw_r1n, if_true, if_false, Nat.le_refl, Nat.reduceEqDiff, Nat.reduceLeDiff, Nat.reduceLT, reduceIte, tw_some]
    exact ⟨tw_fr.rf.si (by unfold tm_S6; omega), he.quit hon⟩
def tm_orO (σ : rx_St) (off : Nat) : List Nat → Prop
  | [] => True
  | x :: L => σ.1 144 (off + L.length) = nI x ∧ tm_orO σ off L
theorem tm_orO_app {σ : rx_St} : ∀ (A B : List Nat) (off : Nat), tm_orO σ off (A ++ B) ↔ tm_orO σ (off + B.length) A ∧ tm_orO σ off B
  | [], B, off => ⟨fun h => ⟨trivial, h⟩, fun h => h.2⟩
  | x :: A, B, off => by
    show (σ.1 144 (off + (A ++ B).length) = nI x ∧ tm_orO σ off (A ++ B)) ↔ (σ.1 144 (off + B.length + A.length) = nI x ∧ tm_orO σ (off + B.length) A) ∧ _
    rw [tm_orO_app A B off, List.length_append, show off + (A.length + B.length) = off + B.length + A.length by omega]
    exact ⟨fun h => ⟨⟨h.1, h.2.1⟩, h.2.2⟩, fun h => ⟨h.1.1, h.1.2, h.2⟩⟩
theorem tm_orO.fr {σ σ' : rx_St} : ∀ (L : List Nat) (off : Nat), (∀ j, off ≤ j → j < off + L.length → σ'.1 144 j = σ.1 144 j) → tm_orO σ off L → tm_orO σ' off L
  | [], _, _, _ => trivial
  | x :: L, off, h, ⟨h1, h2⟩ => ⟨by rw [h _ (by omega) (by rw [List.length_cons]; omega)]; exact h1, tm_orO.fr L off (fun j a b => h j a (by rw [List.length_cons]; omega)) h2⟩
theorem tw_ins_lt {l : Nat → Int32} {i n : Nat} : ∀ (L : List Nat), (∀ x ∈ L, x < n) → i < n → ∀ x ∈ tw_ins l i L, x < n
  | [], _, hi, x, hx => by
    rw [tw_ins] at hx
    rcases List.mem_cons.mp hx with rfl | hx
    · exact hi
    · cases hx
  | y :: L, h, hi, x, hx => by
    rw [tw_ins] at hx
    split at hx
    · rcases List.mem_cons.mp hx with rfl | hx
      · exact h _ List.mem_cons_self
      · exact tw_ins_lt L (fun z hz => h z (List.mem_cons_of_mem _ hz)) hi x hx
    · rcases List.mem_cons.mp hx with rfl | hx
      · exact hi
      · exact h x hx
theorem tw_ins_len {l : Nat → Int32} {i : Nat} : ∀ (L : List Nat), (tw_ins l i L).length = L.length + 1
  | [] => rfl
  | y :: L => by
    rw [tw_ins]
    split
    · rw [List.length_cons, tw_ins_len L, List.length_cons]
    · rw [List.length_cons, List.length_cons]
theorem tw_ord_lt {l : Nat → Int32} : ∀ n, (∀ x ∈ tw_ord l n, x < n) ∧ (tw_ord l n).length = n
  | 0 => ⟨fun x h => by (cases h), rfl⟩
  | n + 1 => by
    rw [tw_ord]
    obtain ⟨h1, h2⟩ := tw_ord_lt (l := l) n
    exact ⟨tw_ins_lt _ (fun x hx => Nat.lt_succ_of_lt (h1 x hx)) (Nat.lt_succ_self n), by rw [tw_ins_len, h2]⟩
def tm_S5 (q j : Nat) : Prop := q = 144 ∨ q = 145
theorem tm_ord47 {l : Nat → Int32} {i : Nat} (hi : i < 20) (k2 : Int32 → rx_St → Option rx_St) (Q : rx_St → Prop) : ∀ (L2 L1 : List Nat) (σ : rx_St) (fuel : Nat),
    tm_orO σ 0 L2 → tm_orO σ (L2.length + 1) L1 → (∀ x ∈ L2, x < i) → (∀ q, q ≤ i → σ.1 145 q = l q) → L1.length + L2.length = i → L2.length < fuel →
    (∀ σ', tw_fr (fun q _ => q = 144) σ σ' → tm_orO σ' 0 (L1 ++ tw_ins l i L2) → tw_ok (k2 (nI (i + 1)) σ') Q) →
    tw_ok (f_m_orders_47 k2 fuel (nI i) (nI L2.length) σ) Q := by
  intro L2
  induction L2 with
  | nil =>
    intro L1 σ fuel h1 h2 hx hl hlen hf cont
    obtain ⟨n, rfl⟩ : ∃ n, fuel = n + 1 := ⟨fuel - 1, by omega⟩
    rw [f_m_orders_47]
    unfold f_m_orders_93
    simp (disch := omega) only [tw_L, tw_gN, tw_cl, tw_le, tw_lt, tw_eq, nI_add, pk_mul, tw_sub, tw_B0, tw_B1, tw_nb0, tw_nb1, tw_r1s, tw_r1n, if_true, if_false, Nat.le_refl, Nat.reduceEqDiff, Nat.reduceLeDiff, Nat.reduceLT, reduceIte, List.length_nil]
    refine cont _ (tw_fr.rf.si rfl) ?_
    rw [tm_orO_app]
    rw [List.length_nil, Nat.zero_add] at h2
    exact ⟨tm_orO.fr L1 _ (fun j a b => tw_r1n _ _ (fun z => by have := z.2; have : 0 + (tw_ins l i []).length ≤ j := a; rw [tw_ins_len] at this; omega)) h2, tw_r1s _ _ _ _, trivial⟩
  | cons y L2 ih =>
    intro L1 σ fuel h1 h2 hx hl hlen hf cont
    obtain ⟨n, rfl⟩ : ∃ n, fuel = n + 1 := ⟨fuel - 1, by omega⟩
    obtain ⟨t1, t2⟩ := h1
    rw [Nat.zero_add] at t1
    have hy := hx y List.mem_cons_self
    rw [List.length_cons] at h2 hlen hf ⊢
    rw [f_m_orders_47]
    unfold f_m_orders_93
    simp (disch := omega) only [tw_L, tw_gN, tw_cl, tw_le, tw_lt, tw_eq, nI_add, pk_mul, tw_sub, tw_B0, tw_B1, tw_nb0, tw_nb1, tw_r1s, tw_r1n, if_true, if_false, Nat.le_refl, Nat.reduceEqDiff, Nat.reduceLeDiff, Nat.reduceLT, reduceIte, Nat.add_sub_cancel, t1, hl y (by omega), hl i (Nat.le_refl _), tw_dec]
    by_cases c : l y ≤ l i
    · rw [if_pos c]
      refine cont _ (tw_fr.rf.si rfl) ?_
      rw [tw_ins, if_neg (Int32.not_lt.mpr c), tm_orO_app]
      refine ⟨?_, ?_, ?_, ?_⟩
      · refine tm_orO.fr L1 _ (fun j a b => tw_r1n _ _ (fun z => ?_)) (by rw [List.length_cons, List.length_cons, Nat.zero_add]; exact h2)
        rw [List.length_cons, List.length_cons] at a
        omega
      · rw [List.length_cons, Nat.zero_add]; exact tw_r1s _ _ _ _
      · rw [Nat.zero_add, tw_r1n _ _ (by omega)]; exact t1
      · exact tm_orO.fr L2 _ (fun j a b => tw_r1n _ _ (by omega)) t2
    · rw [if_neg c]
      have e9 : L1 ++ tw_ins l i (y :: L2) = (L1 ++ [y]) ++ tw_ins l i L2 := by rw [tw_ins, if_pos (Int32.not_le.mp c), List.append_assoc]; rfl
      refine ih (L1 ++ [y]) _ n (tm_orO.fr L2 _ (fun j a b => tw_r1n _ _ (by omega)) t2) ?_ (fun x hx2 => hx x (List.mem_cons_of_mem _ hx2)) (fun q hq => by rw [tw_r1n _ _ (by omega)]; exact hl q hq) (by rw [List.length_append, List.length_singleton]; omega) (by omega) (fun σ' f k => cont σ' (tw_fr.tr (S := fun q _ => q = 144) (tw_fr.rf.si rfl) f) (by rw [e9]; exact k))
      rw [tm_orO_app]
      refine ⟨?_, ?_, trivial⟩
      · refine tm_orO.fr L1 _ (fun j a b => tw_r1n _ _ (fun z => ?_)) (by rw [List.length_singleton]; exact h2)
        rw [List.length_singleton] at a
        omega
      · exact tw_r1s _ _ _ _
theorem tm_orders_l {σ0 : rx_St} {dl : Bool} (he : tm_env W N E R σ0) (hdl : σ0.1 87 65 = tw_B dl) : ∀ (fuel i : Nat) (σ : rx_St), i ≤ N.1 → N.1 - i < fuel → tw_fr tm_S5 σ0 σ → tm_orO σ 0 (tw_ord (tw_dl dl E) i) → (∀ q, q < i → σ.1 145 q = tw_dl dl E q) →
    tw_ok (f_m_orders_2 fuel (nI i) σ) (fun σ' => tw_fr tm_S5 σ0 σ' ∧ tm_orO σ' 0 (tw_ord (tw_dl dl E) N.1)) := by
  obtain ⟨⟨h1, h2⟩, -, -, h5, h6, -⟩ := id he
  intro fuel
  induction fuel with
  | zero => intro i σ _ h; exact absurd h (Nat.not_lt_zero _)
  | succ n ih =>
    intro i σ hi hf f0 hor hl
    have r1 : σ.1 87 60 = nI N.1 := (f0.i (by unfold tm_S5; omega)).trans h1
    have r2 : σ.1 87 65 = tw_B dl := (f0.i (by unfold tm_S5; omega)).trans hdl
    have r3 : σ.1 87 78 = E.2.1 := (f0.i (by unfold tm_S5; omega)).trans h5
    have r4 : σ.1 87 79 = nI E.2.2 := (f0.i (by unfold tm_S5; omega)).trans h6
    rw [f_m_orders_2]
    by_cases hin : i = N.1
    · subst hin
      simp (disch := omega) only [tw_L, tw_gN, tw_cl, tw_le, tw_lt, tw_eq, nI_add, pk_mul, tw_sub, tw_B0, tw_B1, tw_nb0, tw_nb1, tw_r1s, tw_r1n, if_true, if_false, Nat.le_refl, Nat.reduceEqDiff, Nat.reduceLeDiff, Nat.reduceLT, reduceIte, r1]
      rw [tw_some]
      exact ⟨f0, hor⟩
    · simp (disch := omega) only [tw_L, tw_gN, tw_cl, tw_le, tw_lt, tw_eq, nI_add, pk_mul, tw_sub, tw_B0, tw_B1, tw_nb0, tw_nb1, tw_r1s, tw_r1n, if_true, if_false, Nat.le_refl, Nat.reduceEqDiff, Nat.reduceLeDiff, Nat.reduceLT, reduceIte, r1, r2, r3, r4, tm_lotOf (show ¬ nI 1000 = nI 0 by decide), Option.bind_some]
      rw [if_neg (by omega)]
      obtain ⟨o1, o2⟩ := tw_ord_lt (l := tw_dl dl E) i
      have go : tw_ok (f_m_orders_44 (f_m_orders_2 n) (nI i) (nI i) (tw_dl dl E i) σ) (fun σ' => tw_fr tm_S5 σ0 σ' ∧ tm_orO σ' 0 (tw_ord (tw_dl dl E) N.1)) := by
        unfold f_m_orders_44
        simp (disch := omega) only [tw_L, tw_gN, tw_cl, tw_le, tw_lt, tw_eq, nI_add, pk_mul, tw_sub, tw_B0, tw_B1, tw_nb0, tw_nb1, tw_r1s, tw_r1n, if_true, if_false, Nat.le_refl, Nat.reduceEqDiff, Nat.reduceLeDiff, Nat.reduceLT, reduceIte]
        have f1 : tw_fr tm_S5 σ0 (rx_si σ 145 i (tw_dl dl E i)) := f0.si (by unfold tm_S5; omega)
        have := tm_ord47 (l := tw_dl dl E) (i := i) (by omega) (f_m_orders_2 n) (fun σ' => tw_fr tm_S5 σ0 σ' ∧ tm_orO σ' 0 (tw_ord (tw_dl dl E) N.1)) (tw_ord (tw_dl dl E) i) [] (rx_si σ 145 i (tw_dl dl E i)) rx_fu (tm_orO.fr _ _ (fun j a b => tw_r1n _ _ (by omega)) hor) trivial o1 (fun q hq => by
            by_cases e : q = i
            · subst e; exact tw_r1s _ _ _ _
            · rw [tw_r1n _ _ (by omega)]; exact hl q (by omega)) (by rw [o2]; exact Nat.zero_add _) (by rw [o2]; unfold rx_fu; omega) (fun σ' f k => ih (i + 1) σ' (by omega) (by omega) (f1.tr (f.mn (fun q j h => Or.inl h))) k (fun q hq => by
              rw [f.i (show ¬ 145 = 144 by decide)]
              by_cases e : q = i
              · subst e; exact tw_r1s _ _ _ _
              · rw [tw_r1n _ _ (by omega)]; exact hl q (by omega)))
        rw [o2] at this
        exact this
      cases dl with
      | false => rw [if_pos rfl]; exact go
      | true => rw [if_neg (by decide)]; exact go
theorem tm_orders {σ : rx_St} {dl : Bool} (he : tm_env W N E R σ) (hdl : σ.1 87 65 = tw_B dl) : tw_ok (f_m_orders σ) (fun σ' => tw_fr tm_S5 σ σ' ∧ tm_orO σ' 0 (tw_ord (tw_dl dl E) N.1)) := by
  have h2 := he.1.2
  exact tm_orders_l he hdl rx_fu 0 σ (Nat.zero_le _) (by unfold rx_fu; omega) tw_fr.rf trivial (fun q hq => absurd hq (Nat.not_lt_zero _))
end TM7
