/-! THE MODEL CHOOSES: RULES, others, WISHES -/
section TM3
variable {W : tw_Wo} {N : tw_N} {E : tw_E} {R : tw_R}
theorem tm_holds_l {o r : Nat} (hon : o < N.1) (hr : r < 80) : ∀ (ls : List tw_Lit) (q : Nat) (all : Bool) (lots : Nat) (σ : rx_St) (fuel : Nat),
    tm_env W N E R σ → σ.1 87 80 = nI o → tm_lits σ q ls → σ.1 106 r = nI (q + ls.length) → q + ls.length ≤ 500 → (∀ l ∈ ls, tw_litok W (tw_vc W (N.2.1 o)) l) → σ.1 87 81 = nI lots → ls.length < fuel →
    tw_ok (f_m_holds_26 fuel (nI r) (tw_B all) (nI q) σ) (fun y => y.1 = tw_B (tw_lits N E R o ls all lots).1 ∧ tw_fr tm_S1 σ y.2 ∧ y.2.1 87 81 = nI (tw_lits N E R o ls all lots).2) := by
  intro ls
  induction ls with
  | nil =>
    intro q all lots σ fuel he ho hm h6 hq hok hl hf
    obtain ⟨n, rfl⟩ : ∃ n, fuel = n + 1 := ⟨fuel - 1, by omega⟩
    rw [f_m_holds_26]
    simp (disch := omega) only [tw_L, tw_gN, tw_cl, tw_le, tw_lt, tw_eq, nI_add, pk_mul, tw_sub, tw_B0, tw_B1, tw_nb0, tw_nb1, tw_r1s, tw_r1n, if_true, if_false, Nat.le_refl, Nat.reduceEqDiff, Nat.reduceLeDiff, Nat.reduceLT, reduceIte, h6, List.length_nil, Nat.add_zero]
    rw [tw_cE (by cases all; exact Or.inl rfl; exact Or.inr rfl), tw_some]
    exact ⟨rfl, tw_fr.rf, hl⟩
  | cons l ls ih =>
    intro q all lots σ fuel he ho hm h6 hq hok hl hf
    obtain ⟨n, rfl⟩ : ∃ n, fuel = n + 1 := ⟨fuel - 1, by omega⟩
    rw [List.length_cons] at h6 hq hf
    obtain ⟨hm1, hm2⟩ := hm
    have h16 := hm1.1.2.2
    rw [f_m_holds_26]
    simp (disch := omega) only [tw_L, tw_gN, tw_cl, tw_le, tw_lt, tw_eq, nI_add, pk_mul, tw_sub, tw_B0, tw_B1, tw_nb0, tw_nb1, tw_r1s, tw_r1n, if_true, if_false, Nat.le_refl, Nat.reduceEqDiff, Nat.reduceLeDiff, Nat.reduceLT, reduceIte, h6, h16]
    rw [if_neg (by omega)]
    have go : ∀ (b : Bool) (lots' : Nat) (σ1 : rx_St), tw_fr tm_S1 σ σ1 → σ1.1 87 81 = nI lots' → tw_lits N E R o (l :: ls) all lots = tw_lits N E R o ls b lots' →
        tw_ok (f_m_holds_79 (f_m_holds_26 n) (nI r) (nI q) (tw_B b) σ1) (fun y => y.1 = tw_B (tw_lits N E R o (l :: ls) all lots).1 ∧ tw_fr tm_S1 σ y.2 ∧ y.2.1 87 81 = nI (tw_lits N E R o (l :: ls) all lots).2) := by
      intro b lots' σ1 hfr hl1 he1
      rw [he1]
      unfold f_m_holds_79
      simp (disch := omega) only [tw_L, tw_gN, tw_cl, tw_le, tw_lt, tw_eq, nI_add, pk_mul, tw_sub, tw_B0, tw_B1, tw_nb0, tw_nb1, tw_r1s, tw_r1n, if_true, if_false, Nat.le_refl, Nat.reduceEqDiff, Nat.reduceLeDiff, Nat.reduceLT, reduceIte]
      have := ih (q + 1) b lots' σ1 n (he.fr (hfr.mn tm_S12)) (by rw [hfr.i (tm_S1i (by decide) (by decide))]; exact ho) (tm_lits.fr (fun q j h1 h2 => hfr.i (tm_S1i (by omega) (by omega))) ls (q + 1) hm2) (by rw [hfr.i (by unfold tm_S1; omega), h6]; congr 1; omega) (by omega) (fun l hl => hok l (List.mem_cons_of_mem _ hl)) hl1 (by omega)
      exact tw_mono this (fun z hz => ⟨hz.1, hfr.tr hz.2.1, hz.2.2⟩)
    have lit : ∀ b : Bool, (l.1 && all) = false → (l.1 || all) = b → tw_ok (f_m_holds_62 (f_m_holds_26 n) (nI r) (tw_B b) (nI q) σ) (fun y => y.1 = tw_B (tw_lits N E R o (l :: ls) all lots).1 ∧ tw_fr tm_S1 σ y.2 ∧ y.2.1 87 81 = nI (tw_lits N E R o (l :: ls) all lots).2) := by
      intro b h1 h2
      unfold f_m_holds_62 f_m_holds_78
      simp (disch := omega) only [tw_L, tw_gN, tw_cl, tw_le, tw_lt, tw_eq, nI_add, pk_mul, tw_sub, tw_B0, tw_B1, tw_nb0, tw_nb1, tw_r1s, tw_r1n, if_true, if_false, Nat.le_refl, Nat.reduceEqDiff, Nat.reduceLeDiff, Nat.reduceLT, reduceIte]
      cases b with
      | false =>
        rw [if_pos rfl]
        exact go false lots σ tw_fr.rf hl (by rw [tw_lits, h1, h2, if_neg (by decide), if_neg (by decide)])
      | true =>
        rw [if_neg (by decide)]
        refine tw_b (tm_isTrue hon he ho (by omega) hm1 (hok l List.mem_cons_self) hl) (fun y hy => ?_)
        obtain ⟨y1, y2, y3⟩ := hy
        have e9 : tw_lits N E R o (l :: ls) all lots = tw_lits N E R o ls (tw_lit N E R o l lots).1 (tw_lit N E R o l lots).2 := by rw [tw_lits, h1, h2, if_neg (by decide), if_pos rfl]
        simp (disch := omega) only [tw_L, tw_gN, tw_cl, tw_le, tw_lt, tw_eq, nI_add, pk_mul, tw_sub, tw_B0, tw_B1, tw_nb0, tw_nb1, tw_r1s, tw_r1n, if_true, if_false, Nat.le_refl, Nat.reduceEqDiff, Nat.reduceLeDiff, Nat.reduceLT, reduceIte, y1]
        cases hb : (tw_lit N E R o l lots).1 with
        | false =>
          rw [if_pos rfl]
          exact go false _ y.2 y2 y3 (by rw [e9, hb])
        | true =>
          rw [if_neg (by decide)]
          exact go true _ y.2 y2 y3 (by rw [e9, hb])
    have h51 : (l.1 && all) = false → tw_ok (f_m_holds_51 (f_m_holds_26 n) (nI r) (tw_B all) (nI q) σ) (fun y => y.1 = tw_B (tw_lits N E R o (l :: ls) all lots).1 ∧ tw_fr tm_S1 σ y.2 ∧ y.2.1 87 81 = nI (tw_lits N E R o (l :: ls) all lots).2) := by
      intro h1
      unfold f_m_holds_51
      simp (disch := omega) only [tw_L, tw_gN, tw_cl, tw_le, tw_lt, tw_eq, nI_add, pk_mul, tw_sub, tw_B0, tw_B1, tw_nb0, tw_nb1, tw_r1s, tw_r1n, if_true, if_false, Nat.le_refl, Nat.reduceEqDiff, Nat.reduceLeDiff, Nat.reduceLT, reduceIte, h16]
      cases h2 : l.1 with
      | false =>
        rw [if_pos rfl]
        exact lit all h1 (by rw [h2]; rfl)
      | true =>
        rw [if_neg (by decide)]
        exact lit true h1 (by rw [h2]; rfl)
    cases h2 : l.1 with
    | false =>
      rw [if_pos rfl]
      exact h51 (by rw [h2]; rfl)
    | true =>
      rw [if_neg (by decide)]
      cases all with
      | false =>
        rw [if_pos rfl]
        exact h51 (by rw [h2]; rfl)
      | true =>
        rw [if_neg (by decide), tw_some]
        rw [tw_lits, h2, if_pos (by rfl)]
        exact ⟨rfl, tw_fr.rf, hl⟩
theorem tm_holds {σ : rx_St} {o r q lots : Nat} {ls : List tw_Lit} (hon : o < N.1) (hr : r < 80) (he : tm_env W N E R σ) (ho : σ.1 87 80 = nI o) (hm : tm_lits σ q ls) (h5 : σ.1 105 r = nI q) (h6 : σ.1 106 r = nI (q + ls.length)) (hq : q + ls.length ≤ 500) (hok : ∀ l ∈ ls, tw_litok W (tw_vc W (N.2.1 o)) l) (hl : σ.1 87 81 = nI lots) :
    tw_ok (f_m_holds (nI r) σ) (fun y => y.1 = tw_B (tw_holds N E R o ls lots).1 ∧ tw_fr tm_S1 σ y.2 ∧ y.2.1 87 81 = nI (tw_holds N E R o ls lots).2) := by
  unfold f_m_holds tw_holds
  simp (disch := omega) only [tw_L, tw_gN, tw_cl, tw_le, tw_lt, tw_eq, nI_add, pk_mul, tw_sub, tw_B0, tw_B1, tw_nb0, tw_nb1, tw_r1s, tw_r1n, if_true, if_false, Nat.le_refl, Nat.reduceEqDiff, Nat.reduceLeDiff, Nat.reduceLT, reduceIte, h5, h6]
  cases ls with
  | nil =>
    rw [if_pos (by rfl), if_pos rfl, tw_some]
    exact ⟨rfl, tw_fr.rf, hl⟩
  | cons l ls =>
    rw [if_neg (by rw [List.length_cons]; omega), if_neg (by simp)]
    exact tm_holds_l hon hr (l :: ls) q false lots σ rx_fu he ho hm h6 hq hok hl (by unfold rx_fu; omega)
theorem tm_isOther {σ : rx_St} {o k q : Nat} (hon : o < N.1) (he : tm_env W N E R σ) (ho : σ.1 87 80 = nI o) (hk : k < W.2.length) (hq : q < N.1) : f_m_isOther (nI q) (nI k) σ = some (tw_B (tw_oth N R o k q)) := by
  obtain ⟨⟨h1, h2⟩, h3, -, -, -, h7⟩ := he
  obtain ⟨-, -, ⟨o1, o2⟩, -⟩ := h3 o hon
  obtain ⟨⟨g1, g2⟩, g3, ⟨g4, g5⟩, g6, g7⟩ := h3 q hq
  have hW := h7.2.1
  unfold f_m_isOther tw_oth
  simp (disch := omega) only [tw_L, tw_gN, tw_cl, tw_le, tw_lt, tw_eq, nI_add, pk_mul, tw_sub, tw_B0, tw_B1, tw_nb0, tw_nb1, tw_r1s, tw_r1n, if_true, if_false, Nat.le_refl, Nat.reduceEqDiff, Nat.reduceLeDiff, Nat.reduceLT, reduceIte, ho, g1, g4, g6, o1]
  by_cases c1 : q = o
  · rw [if_pos c1, c1, beq_self_eq_true]; rfl
  · rw [if_neg c1, beq_false_of_ne c1]
    cases c2 : R.2.2 q with
    | true => rw [if_neg (by decide)]; rfl
    | false =>
      rw [if_pos rfl]
      by_cases c3 : N.2.1 q = k
      · rw [if_pos c3, c3, beq_self_eq_true]
        by_cases c4 : R.2.1 q = R.2.1 o
        · rw [if_pos c4, c4, beq_self_eq_true]; rfl
        · rw [if_neg c4, beq_false_of_ne c4]; rfl
      · rw [if_neg c3, beq_false_of_ne c3]; rfl
def tw_opt : Option Nat → Int32
  | none => -nI 1
  | some q => nI q
theorem tw_oth_s (N : tw_N) (R : tw_R) (o k i : Nat) : tw_others N R o k (i + 1) = if tw_oth N R o k i = true then tw_others N R o k i ++ [i] else tw_others N R o k i := by
  unfold tw_others
  rw [List.range_succ, List.filter_append]
  by_cases h : tw_oth N R o k i = true
  · rw [if_pos h, List.filter_cons_of_pos h, List.filter_nil]
  · rw [if_neg h, List.filter_cons_of_neg h, List.filter_nil, List.append_nil]
theorem tw_oth_get (N : tw_N) (R : tw_R) (o k : Nat) {i : Nat} (h : tw_oth N R o k i = true) : ∀ n, i < n → (tw_others N R o k n)[(tw_others N R o k i).length]? = some i := by
  intro n
  induction n with
  | zero => intro h; omega
  | succ n ih =>
    intro hi
    rw [tw_oth_s]
    by_cases e : i = n
    · subst e
      rw [if_pos h, List.getElem?_append_right (Nat.le_refl _), Nat.sub_self]
      rfl
    · have := ih (by omega)
      by_cases h2 : tw_oth N R o k n = true
      · rw [if_pos h2, List.getElem?_append_left (List.getElem?_eq_some_iff.mp this).1]
        exact this
      · rw [if_neg h2]; exact this
theorem tw_oth_le (N : tw_N) (R : tw_R) (o k n : Nat) : (tw_others N R o k n).length ≤ n := by
  have := List.length_filter_le (tw_oth N R o k) (List.range n)
  rw [List.length_range] at this
  exact this
theorem tw_oth_lt {N : tw_N} {R : tw_R} {o k n q : Nat} (h : q ∈ tw_others N R o k n) : q < n ∧ tw_oth N R o k q = true := by
  unfold tw_others at h
  rw [List.mem_filter, List.mem_range] at h
  exact h
theorem tm_nearOf_l {σ : rx_St} {o k : Nat} (hon : o < N.1) (he : tm_env W N E R σ) (ho : σ.1 87 80 = nI o) (hk : k < W.2.length) : ∀ fuel i, i ≤ N.1 → N.1 - i < fuel → tw_others N R o k i = [] → f_m_nearOf_2 fuel (nI k) (nI i) σ = some (tw_opt (tw_others N R o k N.1)[0]?) := by
  have h1 := he.1.1
  have h2 := he.1.2
  intro fuel
  induction fuel with
  | zero => intro i _ h; exact absurd h (Nat.not_lt_zero _)
  | succ m ih =>
    intro i hi hf h0
    rw [f_m_nearOf_2]
    by_cases hin : i = N.1
    · subst hin
      simp (disch := omega) only [tw_L, tw_gN, tw_cl, tw_le, tw_lt, tw_eq, nI_add, pk_mul, tw_sub, tw_B0, tw_B1, tw_nb0, tw_nb1, tw_r1s, tw_r1n, if_true, if_false, Nat.le_refl, Nat.reduceEqDiff, Nat.reduceLeDiff, Nat.reduceLT, reduceIte, h1]
      rw [h0]
      rfl
    · simp (disch := omega) only [tw_L, tw_gN, tw_cl, tw_le, tw_lt, tw_eq, nI_add, pk_mul, tw_sub, tw_B0, tw_B1, tw_nb0, tw_nb1, tw_r1s, tw_r1n, if_true, if_false, Nat.le_refl, Nat.reduceEqDiff, Nat.reduceLeDiff, Nat.reduceLT, reduceIte, h1, tm_isOther hon he ho hk (by omega : i < N.1), Option.bind_some]
      rw [if_neg (by omega)]
      cases h : tw_oth N R o k i with
      | true =>
        rw [if_neg (by decide)]
        have := tw_oth_get N R o k h N.1 (by omega)
        rw [h0] at this
        rw [show ([] : List Nat).length = 0 from rfl] at this
        rw [this]
        rfl
      | false =>
        rw [if_pos rfl]
        exact ih (i + 1) (by omega) (by omega) (by rw [tw_oth_s, h0, h]; rfl)
theorem tm_nearOf {σ : rx_St} {o k : Nat} (hon : o < N.1) (he : tm_env W N E R σ) (ho : σ.1 87 80 = nI o) (hk : k < W.2.length) : f_m_nearOf (nI k) σ = some (tw_opt (tw_others N R o k N.1)[0]?) := by
  have h2 := he.1.2
  exact tm_nearOf_l hon he ho hk rx_fu 0 (Nat.zero_le _) (by unfold rx_fu; omega) rfl
theorem tm_pick45 {σ : rx_St} {o k j : Nat} (hon : o < N.1) (he : tm_env W N E R σ) (ho : σ.1 87 80 = nI o) (hk : k < W.2.length) (hj : j < (tw_others N R o k N.1).length) : ∀ fuel i, i ≤ N.1 → N.1 - i < fuel → (tw_others N R o k i).length ≤ j → f_m_pickOf_45 fuel (nI k) (nI (j - (tw_others N R o k i).length)) (nI i) σ = some (tw_opt (tw_others N R o k N.1)[j]?, σ) := by
  have h1 := he.1.1
  have h2 := he.1.2
  have hle := tw_oth_le N R o k N.1
  intro fuel
  induction fuel with
  | zero => intro i _ h; exact absurd h (Nat.not_lt_zero _)
  | succ m ih =>
    intro i hi hf h0
    rw [f_m_pickOf_45]
    by_cases hin : i = N.1
    · subst hin; omega
    · simp (disch := omega) only [tw_L, tw_gN, tw_cl, tw_le, tw_lt, tw_eq, nI_add, pk_mul, tw_sub, tw_B0, tw_B1, tw_nb0, tw_nb1, tw_r1s, tw_r1n, if_true, if_false, Nat.le_refl, Nat.reduceEqDiff, Nat.reduceLeDiff, Nat.reduceLT, reduceIte, h1, tm_isOther hon he ho hk (by omega : i < N.1), Option.bind_some, f_m_pickOf_77]
      rw [if_neg (by omega)]
      have ih' := ih (i + 1) (by omega) (by omega)
      rw [tw_oth_s] at ih'
      cases h : tw_oth N R o k i with
      | true =>
        rw [if_neg (by decide)]
        rw [h, if_pos rfl, List.length_append, List.length_singleton] at ih'
        by_cases hz : j = (tw_others N R o k i).length
        · rw [if_pos (by omega)]
          have := tw_oth_get N R o k h N.1 (by omega)
          rw [← hz] at this
          rw [this]
          rfl
        · rw [if_neg (by omega), tw_dec (by omega)]
          rw [show j - (tw_others N R o k i).length - 1 = j - ((tw_others N R o k i).length + 1) by omega]
          exact ih' (by omega)
      | false =>
        rw [if_pos rfl]
        rw [h, if_neg (by decide)] at ih'
        exact ih' h0
end TM3
