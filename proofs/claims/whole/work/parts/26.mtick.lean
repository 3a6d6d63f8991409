/-! THE MODEL'S TICK: all choose; THE ORDER; what is wished is done -/
def tm_rule (σ : rx_St) (r : Nat) (u : tw_Ru) : Prop := (∃ q, σ.1 105 r = nI q ∧ σ.1 106 r = nI (q + u.1.length) ∧ q + u.1.length ≤ 500 ∧ tm_lits σ q u.1) ∧ σ.1 107 r = nI u.2.length ∧ tm_wishes σ (6 * r) u.2
def tm_rules (σ : rx_St) : Nat → List tw_Ru → Prop
  | _, [] => True
  | r, u :: us => tm_rule σ r u ∧ tm_rules σ (r + 1) us
def tm_kindM (σ : rx_St) (kk : Nat) (ki : tw_Ki) : Prop := σ.1 100 kk = nI ki.1.length ∧ (∀ v, v < ki.1.length → σ.1 102 (6 * kk + v) = ki.1.getD v 0) ∧ σ.1 104 kk = nI ki.2.length ∧ tm_rules σ (8 * kk) ki.2
/-- THE WORLD in the model's rows -/
def tm_MW (W : tw_Wo) (lv : Nat) (σ : rx_St) : Prop := lv ≤ 1 ∧ σ.1 87 18 = nI lv ∧ σ.1 95 lv = nI W.1.length ∧ (∀ k, k < W.1.length → σ.1 97 (6 * lv + k) = W.1.getD k 0) ∧ σ.1 98 lv = nI W.2.length ∧ ∀ k, k < W.2.length → tm_kindM σ (5 * lv + k) (tw_kind W k)
theorem tm_rule.fr {σ σ' : rx_St} (h : ∀ q j, 95 ≤ q → q ≤ 122 → σ'.1 q j = σ.1 q j) {r : Nat} {u : tw_Ru} (g : tm_rule σ r u) : tm_rule σ' r u := by
  obtain ⟨⟨q, g1, g2, g3, g4⟩, g5, g6⟩ := g
  refine ⟨⟨q, ?_, ?_, g3, tm_lits.fr h _ _ g4⟩, ?_, tm_wishes.fr h _ _ g6⟩
  · rw [h _ _ (by omega) (by omega)]; exact g1
  · rw [h _ _ (by omega) (by omega)]; exact g2
  · rw [h _ _ (by omega) (by omega)]; exact g5
theorem tm_rules.fr {σ σ' : rx_St} (h : ∀ q j, 95 ≤ q → q ≤ 122 → σ'.1 q j = σ.1 q j) : ∀ (us : List tw_Ru) (r : Nat), tm_rules σ r us → tm_rules σ' r us
  | [], _, _ => trivial
  | _ :: us, r, ⟨h1, h2⟩ => ⟨h1.fr h, tm_rules.fr h us (r + 1) h2⟩
theorem tm_MW.fr {W : tw_Wo} {lv : Nat} {σ σ' : rx_St} (h : ∀ q j, 95 ≤ q → q ≤ 122 → σ'.1 q j = σ.1 q j) (h2 : σ'.1 87 18 = σ.1 87 18) (g : tm_MW W lv σ) : tm_MW W lv σ' := by
  obtain ⟨g1, g2, g3, g4, g5, g6⟩ := g
  refine ⟨g1, by rw [h2]; exact g2, by rw [h _ _ (by omega) (by omega)]; exact g3, fun k hk => by rw [h _ _ (by omega) (by omega)]; exact g4 k hk, by rw [h _ _ (by omega) (by omega)]; exact g5, fun k hk => ?_⟩
  obtain ⟨k1, k2, k3, k4⟩ := g6 k hk
  exact ⟨by rw [h _ _ (by omega) (by omega)]; exact k1, fun v hv => by rw [h _ _ (by omega) (by omega)]; exact k2 v hv, by rw [h _ _ (by omega) (by omega)]; exact k3, tm_rules.fr h _ _ k4⟩
section TM5
variable {W : tw_Wo} {N : tw_N} {E : tw_E} {R : tw_R}
theorem tw_wishes_len (o : Nat) : ∀ (ws : List tw_Wi) (n : Nat), (tw_wishes N E R o ws n).1.length = ws.length
  | [], _ => rfl
  | w :: ws, n => by rw [tw_wishes, List.length_cons, List.length_cons, tw_wishes_len o ws]
theorem tw_rule_len (o : Nat) (u : tw_Ru) (n : Nat) : (tw_rule N E R o u n).1.length ≤ u.2.length := by
  unfold tw_rule
  by_cases h : (tw_holds N E R o u.1 n).1 = true
  · rw [if_pos h, tw_wishes_len]; exact Nat.le_refl _
  · rw [if_neg h]; exact Nat.zero_le _
theorem tm_rule_l {o kk : Nat} (hon : o < N.1) (hk9 : kk < 10) : ∀ (us : List tw_Ru) (r : Nat) (done : List tw_Ev) (lots : Nat) (σ : rx_St) (fuel : Nat),
    tm_env W N E R σ → σ.1 87 80 = nI o → tm_rules σ r us → (∃ z, σ.1 104 kk = nI z ∧ 8 * kk + z = r + us.length) → r + us.length ≤ 80 → done.length + 6 * us.length ≤ 48 → σ.1 138 o = nI done.length → tm_evs σ (48 * o) done → σ.1 87 81 = nI lots → (∀ u ∈ us, tw_ruok W (tw_vc W (N.2.1 o)) u) → us.length < fuel →
    tw_ok (f_m_chooses_46 fuel (nI o) (nI kk) (nI r) σ) (fun σ' => tw_fr (tm_S3 o) σ σ' ∧ σ'.1 138 o = nI (done ++ tw_rules N E R o us lots).length ∧ tm_evs σ' (48 * o) (done ++ tw_rules N E R o us lots)) := by
  intro us
  induction us with
  | nil =>
    intro r done lots σ fuel he ho hm hz hr hd h38 hev hl hok hf
    obtain ⟨n, rfl⟩ : ∃ n, fuel = n + 1 := ⟨fuel - 1, by omega⟩
    obtain ⟨z, h7, hz⟩ := hz
    rw [List.length_nil] at hz hr
    rw [f_m_chooses_46]
    simp (disch := omega) only [tw_L, tw_gN, tw_cl, tw_le, tw_lt, tw_eq, nI_add, pk_mul, tw_sub, tw_B0, tw_B1, tw_nb0, tw_nb1, tw_r1s, tw_r1n, if_true, if_false, Nat.le_refl, Nat.reduceEqDiff, Nat.reduceLeDiff, Nat.reduceLT, reduceIte, h7]
    rw [if_pos (by omega), tw_some, show tw_rules N E R o [] lots = [] from rfl, List.append_nil]
    exact ⟨tw_fr.rf, h38, hev⟩
  | cons u us ih =>
    intro r done lots σ fuel he ho hm hz hr hd h38 hev hl hok hf
    obtain ⟨n, rfl⟩ : ∃ n, fuel = n + 1 := ⟨fuel - 1, by omega⟩
    obtain ⟨z, h7, hz⟩ := hz
    rw [List.length_cons] at hz hr hd hf
    obtain ⟨hm1, hm2⟩ := hm
    have hu := hok u List.mem_cons_self
    obtain ⟨u1, u2, u3, u4⟩ := hu
    obtain ⟨⟨q, m1, m2, m3, m4⟩, m5, m6⟩ := id hm1
    rw [f_m_chooses_46]
    simp (disch := omega) only [tw_L, tw_gN, tw_cl, tw_le, tw_lt, tw_eq, nI_add, pk_mul, tw_sub, tw_B0, tw_B1, tw_nb0, tw_nb1, tw_r1s, tw_r1n, if_true, if_false, Nat.le_refl, Nat.reduceEqDiff, Nat.reduceLeDiff, Nat.reduceLT, reduceIte, h7]
    rw [if_neg (by omega)]
    refine tw_b (tm_holds hon (by omega) he ho m4 m1 m2 m3 u1 hl) (fun y hy => ?_)
    obtain ⟨y1, y2, y3⟩ := hy
    have f1 : tw_fr (tm_S3 o) σ y.2 := y2.mn (fun q j h => Or.inl h)
    have kc : ∀ {σ4 : rx_St}, tw_fr (tm_S3 o) σ σ4 → ∀ q j, 95 ≤ q → q ≤ 122 → σ4.1 q j = σ.1 q j := fun h q j a b => h.i (by unfold tm_S3 tm_S1; omega)
    have next : ∀ (es : List tw_Ev) (lots' : Nat) (σ4 : rx_St), tw_rule N E R o u lots = (es, lots') → tw_fr (tm_S3 o) σ σ4 → σ4.1 138 o = nI (done.length + es.length) → tm_evs σ4 (48 * o) (done ++ es) → σ4.1 87 81 = nI lots' →
        tw_ok (f_m_chooses_46 n (nI o) (nI kk) (nI (r + 1)) σ4) (fun σ' => tw_fr (tm_S3 o) σ σ' ∧ σ'.1 138 o = nI (done ++ tw_rules N E R o (u :: us) lots).length ∧ tm_evs σ' (48 * o) (done ++ tw_rules N E R o (u :: us) lots)) := by
      intro es lots' σ4 hru f4 n38 nev n81
      have hle := tw_rule_len (N := N) (E := E) (R := R) o u lots
      rw [hru] at hle
      dsimp only at hle
      have hrl : done ++ tw_rules N E R o (u :: us) lots = (done ++ es) ++ tw_rules N E R o us lots' := by rw [tw_rules, hru, List.append_assoc]
      rw [hrl]
      have := ih (r + 1) (done ++ es) lots' σ4 n (he.fr (f4.mn tm_S32)) (by rw [f4.i (by unfold tm_S3 tm_S1; omega)]; exact ho) (tm_rules.fr (kc f4) us (r + 1) hm2) ⟨z, by rw [kc f4 _ _ (by omega) (by omega)]; exact h7, by omega⟩ (by omega) (by rw [List.length_append]; omega) (by rw [List.length_append]; exact n38) nev n81 (fun u hu => hok u (List.mem_cons_of_mem _ hu)) (by omega)
      exact tw_mono this (fun z hz => ⟨f4.tr hz.1, hz.2⟩)
    have e38 : y.2.1 138 o = nI done.length := by rw [y2.i (by unfold tm_S1; omega)]; exact h38
    have eev : tm_evs y.2 (48 * o) done := tm_evs.fr done _ (fun q j a b c d => y2.i (by unfold tm_S1; omega)) hev
    simp (disch := omega) only [tw_L, tw_gN, tw_cl, tw_le, tw_lt, tw_eq, nI_add, pk_mul, tw_sub, tw_B0, tw_B1, tw_nb0, tw_nb1, tw_r1s, tw_r1n, if_true, if_false, Nat.le_refl, Nat.reduceEqDiff, Nat.reduceLeDiff, Nat.reduceLT, reduceIte, y1]
    cases hb : (tw_holds N E R o u.1 lots).1 with
    | false =>
      rw [if_pos rfl]
      unfold f_m_chooses_263
      simp (disch := omega) only [tw_L, tw_gN, tw_cl, tw_le, tw_lt, tw_eq, nI_add, pk_mul, tw_sub, tw_B0, tw_B1, tw_nb0, tw_nb1, tw_r1s, tw_r1n, if_true, if_false, Nat.le_refl, Nat.reduceEqDiff, Nat.reduceLeDiff, Nat.reduceLT, reduceIte]
      exact next [] _ y.2 (by unfold tw_rule; rw [hb]; rfl) f1 e38 (by rw [List.append_nil]; exact eev) y3
    | true =>
      rw [if_neg (by decide)]
      refine tm_wish_l (r := r) (kk := kk) hon (by omega) (f_m_chooses_46 n) _ u.2 (6 * r) done (tw_holds N E R o u.1 lots).2 y.2 rx_fu (he.fr (f1.mn tm_S32)) (by rw [f1.i (by unfold tm_S3 tm_S1; omega)]; exact ho) (tm_wishes.fr (kc f1) _ _ m6) ⟨_, by rw [kc f1 _ _ (by omega) (by omega)]; exact m5, rfl⟩ (by omega) (by omega) e38 eev y3 u3 (by unfold rx_fu; omega) (fun σ' k1 k2 k3 k4 => ?_)
      refine next (tw_wishes N E R o u.2 (tw_holds N E R o u.1 lots).2).1 (tw_wishes N E R o u.2 (tw_holds N E R o u.1 lots).2).2 σ' (by unfold tw_rule; rw [hb, if_pos rfl]) (f1.tr k1) (by rw [tw_wishes_len]; exact k2) k3 k4
/-- a ONE's choice -/
theorem tm_chooses {σ : rx_St} {lv o : Nat} (hon : o < N.1) (he : tm_env W N E R σ) (hM : tm_MW W lv σ) :
    tw_ok (f_m_chooses (nI o) σ) (fun σ' => tw_fr tm_S2 σ σ' ∧ (∀ q j, 138 ≤ q → q ≤ 143 → ¬ tm_S3 o q j → σ'.1 q j = σ.1 q j) ∧ σ'.1 138 o = nI (tw_evs W N E R o).length ∧ tm_evs σ' (48 * o) (tw_evs W N E R o)) := by
  obtain ⟨⟨h1, h2⟩, h3, -, -, -, h7⟩ := id he
  obtain ⟨⟨g1, g2⟩, g3, ⟨g4, g5⟩, g6, g7⟩ := h3 o hon
  obtain ⟨l1, l2, l3, l4, l5, l6⟩ := id hM
  obtain ⟨k1, k2, k3, k4⟩ := l6 _ g2
  have hk5 := h7.2.1
  obtain ⟨w1, w2, w3⟩ := h7.2.2 _ g2
  unfold f_m_chooses
  simp (disch := omega) only [tw_L, tw_gN, tw_cl, tw_le, tw_lt, tw_eq, nI_add, pk_mul, tw_sub, tw_B0, tw_B1, tw_nb0, tw_nb1, tw_r1s, tw_r1n, if_true, if_false, Nat.le_refl, Nat.reduceEqDiff, Nat.reduceLeDiff, Nat.reduceLT, reduceIte, g1, g6, l2]
  generalize h4 : rx_si (rx_si (rx_si σ 87 80 (nI o)) 87 81 (nI 0)) 138 o (nI 0) = σ3
  have f3 : tw_fr tm_S2 σ σ3 := by
    rw [← h4]
    exact ((tw_fr.rf.si (by unfold tm_S2 tm_S1; omega)).si (by unfold tm_S2 tm_S1; omega)).si (by unfold tm_S2 tm_S1; omega)
  have f3b : ∀ q j, 139 ≤ q → σ3.1 q j = σ.1 q j := fun q j h => by
    rw [← h4, tw_r1n _ _ (by omega), tw_r1n _ _ (by omega), tw_r1n _ _ (by omega)]
  have f3c : ∀ j, j ≠ o → σ3.1 138 j = σ.1 138 j := fun j h => by
    rw [← h4, tw_r1n _ _ (by omega), tw_r1n _ _ (by omega), tw_r1n _ _ (by omega)]
  have v1 : σ3.1 87 80 = nI o := by rw [← h4]; simp (disch := omega) only [tw_L, tw_gN, tw_cl, tw_le, tw_lt, tw_eq, nI_add, pk_mul, tw_sub, tw_B0, tw_B1, tw_nb0, tw_nb1, tw_r1s, tw_r1n, if_true, if_false, Nat.le_refl, Nat.reduceEqDiff, Nat.reduceLeDiff, Nat.reduceLT, reduceIte]
  have v2 : σ3.1 87 81 = nI 0 := by rw [← h4]; simp (disch := omega) only [tw_L, tw_gN, tw_cl, tw_le, tw_lt, tw_eq, nI_add, pk_mul, tw_sub, tw_B0, tw_B1, tw_nb0, tw_nb1, tw_r1s, tw_r1n, if_true, if_false, Nat.le_refl, Nat.reduceEqDiff, Nat.reduceLeDiff, Nat.reduceLT, reduceIte]
  have v3 : σ3.1 138 o = nI 0 := by rw [← h4]; simp (disch := omega) only [tw_L, tw_gN, tw_cl, tw_le, tw_lt, tw_eq, nI_add, pk_mul, tw_sub, tw_B0, tw_B1, tw_nb0, tw_nb1, tw_r1s, tw_r1n, if_true, if_false, Nat.le_refl, Nat.reduceEqDiff, Nat.reduceLeDiff, Nat.reduceLT, reduceIte]
  unfold tw_evs
  cases hg : R.2.2 o with
  | true =>
    rw [if_neg (by decide), if_pos rfl, tw_some]
    exact ⟨f3, fun q j a b c => by
      by_cases e : q = 138
      · subst e; exact f3c j (fun e2 => c (by unfold tm_S3; omega))
      · exact f3b q j (by omega), v3, trivial⟩
  | false =>
    rw [if_pos rfl, if_neg (by decide)]
    have kc : ∀ q j, 95 ≤ q → q ≤ 122 → σ3.1 q j = σ.1 q j := fun q j a b => f3.i (by unfold tm_S2 tm_S1; omega)
    have := tm_rule_l (kk := 5 * lv + N.2.1 o) hon (by omega) (tw_kind W (N.2.1 o)).2 (8 * (5 * lv + N.2.1 o)) [] 0 σ3 rx_fu (he.fr f3) v1 (tm_rules.fr kc _ _ k4) ⟨_, by rw [kc _ _ (by omega) (by omega)]; exact k3, rfl⟩ (by omega) (by rw [List.length_nil]; omega) v3 trivial v2 w3 (by unfold rx_fu; omega)
    refine tw_mono this (fun σ' hs => ⟨f3.tr (hs.1.mn tm_S32), fun q j a b c => ?_, hs.2.1, hs.2.2⟩)
    rw [hs.1.i c]
    by_cases e : q = 138
    · subst e; exact f3c j (fun e2 => c (by unfold tm_S3; omega))
    · exact f3b q j (by omega)
end TM5
