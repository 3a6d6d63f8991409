/-! THE MODEL CHOOSES: pick, WISHES, a ONE's choice -/
theorem tw_ofn (x : Int32) : nI x.toBitVec.toNat = x := by
  unfold nI
  apply Int32.toBitVec_inj.mp
  simp
theorem tw_ushr1 (x : Int32) : ∃ y, y < 2147483648 ∧ rx_iushr x (nI 1) = nI y := by
  have hn : x.toBitVec.toNat < 2 ^ 32 := x.toBitVec.isLt
  refine ⟨x.toBitVec.toNat / 2 ^ 1, by omega, ?_⟩
  have := pk_ushrN hn (nI 1) 1 (by decide)
  rw [tw_ofn] at this
  exact this
theorem tw_lot_lt (seed o t w : Int32) {m : Nat} (h : 0 < m) (hm : m < 2147483648) : ∃ j, j < m ∧ tw_lot seed o t w (nI m) = nI j := by
  unfold tw_lot
  obtain ⟨y, hy, e⟩ := tw_ushr1 (f_m_mixed (f_m_mixed (f_m_mixed seed o) t) w)
  rw [e, tw_rem hy h hm]
  exact ⟨y % m, Nat.mod_lt _ h, rfl⟩
def tm_wish (σ : rx_St) (i : Nat) (w : tw_Wi) : Prop := σ.1 108 i = nI w.1 ∧ (w.1 = 0 ∨ w.1 = 2 ∨ w.1 = 3 → σ.1 109 i = nI w.2.1) ∧ (w.1 = 2 ∨ w.1 = 3 → σ.1 110 i = nI w.2.2.1 ∧ σ.1 111 i = nI w.2.2.2.1) ∧ (w.1 ≠ 4 → ∃ a, σ.1 112 i = nI a ∧ σ.1 113 i = nI (a + w.2.2.2.2.length) ∧ tm_code σ a w.2.2.2.2 ∧ a + w.2.2.2.2.length ≤ 1400)
def tm_wishes (σ : rx_St) : Nat → List tw_Wi → Prop
  | _, [] => True
  | i, w :: ws => tm_wish σ i w ∧ tm_wishes σ (i + 1) ws
theorem tm_wish.fr {σ σ' : rx_St} (h : ∀ q j, 95 ≤ q → q ≤ 122 → σ'.1 q j = σ.1 q j) {i : Nat} {w : tw_Wi} (g : tm_wish σ i w) : tm_wish σ' i w := by
  obtain ⟨g1, g2, g3, g4⟩ := g
  refine ⟨?_, fun z => ?_, fun z => ⟨?_, ?_⟩, fun z => ?_⟩
  · rw [h _ _ (by omega) (by omega)]; exact g1
  · rw [h _ _ (by omega) (by omega)]; exact g2 z
  · rw [h _ _ (by omega) (by omega)]; exact (g3 z).1
  · rw [h _ _ (by omega) (by omega)]; exact (g3 z).2
  · obtain ⟨a, k1, k2, k3, k4⟩ := g4 z
    exact ⟨a, by rw [h _ _ (by omega) (by omega)]; exact k1, by rw [h _ _ (by omega) (by omega)]; exact k2, tm_code.fr (fun q j h1 h2 => h q j (by omega) (by omega)) _ _ k3, k4⟩
theorem tm_wishes.fr {σ σ' : rx_St} (h : ∀ q j, 95 ≤ q → q ≤ 122 → σ'.1 q j = σ.1 q j) : ∀ (ws : List tw_Wi) (i : Nat), tm_wishes σ i ws → tm_wishes σ' i ws
  | [], _, _ => trivial
  | _ :: ws, i, ⟨h1, h2⟩ => ⟨h1.fr h, tm_wishes.fr h ws (i + 1) h2⟩
/-- a WISH as it was chosen, in the model's rows -/
def tm_ev (σ : rx_St) (p : Nat) (e : tw_Ev) : Prop := (∃ s9, σ.1 139 p = nI s9 ∧ (s9 = e.1 ∨ e.1 = 2 ∧ s9 = 3)) ∧ (e.1 = 0 ∨ e.1 = 2 → σ.1 140 p = nI e.2.1) ∧ (e.1 = 2 → σ.1 141 p = nI e.2.2.2.2) ∧ (e.1 ≠ 4 → σ.1 142 p = e.2.2.1) ∧ (e.1 = 2 → σ.1 143 p = tw_opt e.2.2.2.1)
def tm_evs (σ : rx_St) : Nat → List tw_Ev → Prop
  | _, [] => True
  | p, e :: es => tm_ev σ p e ∧ tm_evs σ (p + 1) es
theorem tm_ev.fr {σ σ' : rx_St} {p : Nat} (h : ∀ q, 139 ≤ q → q ≤ 143 → σ'.1 q p = σ.1 q p) {e : tw_Ev} (g : tm_ev σ p e) : tm_ev σ' p e := by
  unfold tm_ev
  rw [h 139 (by omega) (by omega), h 140 (by omega) (by omega), h 141 (by omega) (by omega), h 142 (by omega) (by omega), h 143 (by omega) (by omega)]
  exact g
theorem tm_evs.fr {σ σ' : rx_St} : ∀ (es : List tw_Ev) (p : Nat), (∀ q j, 139 ≤ q → q ≤ 143 → p ≤ j → j < p + es.length → σ'.1 q j = σ.1 q j) → tm_evs σ p es → tm_evs σ' p es
  | [], _, _, _ => trivial
  | e :: es, p, h, ⟨h1, h2⟩ => ⟨h1.fr (fun q a b => h q p a b (Nat.le_refl _) (by rw [List.length_cons]; omega)), tm_evs.fr es (p + 1) (fun q j a b c d => h q j a b (by omega) (by rw [List.length_cons]; omega)) h2⟩
theorem tm_evs_app {σ : rx_St} : ∀ (a b : List tw_Ev) (p : Nat), tm_evs σ p (a ++ b) ↔ tm_evs σ p a ∧ tm_evs σ (p + a.length) b
  | [], b, p => ⟨fun h => ⟨trivial, h⟩, fun h => h.2⟩
  | e :: a, b, p => by
    show (tm_ev σ p e ∧ tm_evs σ (p + 1) (a ++ b)) ↔ (tm_ev σ p e ∧ tm_evs σ (p + 1) a) ∧ _
    rw [tm_evs_app a b (p + 1), List.length_cons, show p + 1 + a.length = p + (a.length + 1) by omega]
    exact ⟨fun h => ⟨⟨h.1, h.2.1⟩, h.2.2⟩, fun h => ⟨h.1.1, h.1.2, h.2⟩⟩
def tm_S3 (o q j : Nat) : Prop := tm_S1 q j ∨ q = 138 ∧ j = o ∨ 139 ≤ q ∧ q ≤ 143 ∧ 48 * o ≤ j ∧ j < 48 * o + 48
theorem tm_S32 {o : Nat} : ∀ q j, tm_S3 o q j → tm_S2 q j := fun q j h => by unfold tm_S3 at h; unfold tm_S2; rcases h with h | h | h; exact Or.inl h; exact Or.inr (Or.inr (by omega)); exact Or.inr (Or.inr (by omega))
section TM4
variable {W : tw_Wo} {N : tw_N} {E : tw_E} {R : tw_R}
theorem tm_pick4 {σ : rx_St} {o k lots : Nat} (hon : o < N.1) (he : tm_env W N E R σ) (ho : σ.1 87 80 = nI o) (hk : k < W.2.length) (hl : σ.1 87 81 = nI lots) : ∀ fuel i, i ≤ N.1 → N.1 - i < fuel →
    tw_ok (f_m_pickOf_4 fuel (nI k) (nI (tw_others N R o k i).length) (nI i) σ) (fun y => y.1 = tw_opt (tw_pick N E R o k lots).1 ∧ tw_fr tm_S0 σ y.2 ∧ y.2.1 87 81 = nI (tw_pick N E R o k lots).2) := by
  have h1 := he.1.1
  have h2 := he.1.2
  have hle := tw_oth_le N R o k N.1
  intro fuel
  induction fuel with
  | zero => intro i _ h; exact absurd h (Nat.not_lt_zero _)
  | succ m ih =>
    intro i hi hf
    have hle2 := tw_oth_le N R o k i
    rw [f_m_pickOf_4]
    by_cases hin : i = N.1
    · subst hin
      unfold tw_pick
      simp (disch := omega) only [tw_L, tw_gN, tw_cl, tw_le, tw_lt, tw_eq, nI_add, pk_mul, tw_sub, tw_B0, tw_B1, tw_nb0, tw_nb1, tw_r1s, tw_r1n, if_true, if_false, Nat.le_refl, Nat.reduceEqDiff, Nat.reduceLeDiff, Nat.reduceLT, reduceIte, h1]
      by_cases h0 : (tw_others N R o k N.1).length = 0
      · rw [if_pos h0, if_pos h0, tw_some]
        exact ⟨rfl, tw_fr.rf, hl⟩
      · rw [if_neg h0, if_neg h0, tm_nextLot he ho hl (by rw [tw_eq (by omega) (by omega)]; exact h0), Option.bind_some]
        obtain ⟨j, hj, e9⟩ := tw_lot_lt E.2.1 (nI o) (nI E.2.2) (nI lots) (m := (tw_others N R o k N.1).length) (by omega) (by omega)
        have hfr : tw_fr tm_S0 σ (rx_si σ 87 81 (nI (lots + 1))) := tw_fr.rf.si (by unfold tm_S0; omega)
        have := tm_pick45 (j := j) hon (he.fr (hfr.mn (fun q j h => tm_S12 q j (tm_S01 q j h)))) (by rw [tw_r1n _ _ (by omega)]; exact ho) hk hj rx_fu 0 (Nat.zero_le _) (by unfold rx_fu; omega) (Nat.zero_le _)
        rw [show (tw_others N R o k 0).length = 0 from rfl, Nat.sub_zero] at this
        rw [e9]
        simp (disch := omega) only [tw_L, tw_gN, tw_cl, tw_le, tw_lt, tw_eq, nI_add, pk_mul, tw_sub, tw_B0, tw_B1, tw_nb0, tw_nb1, tw_r1s, tw_r1n, if_true, if_false, Nat.le_refl, Nat.reduceEqDiff, Nat.reduceLeDiff, Nat.reduceLT, reduceIte, this, tw_some]
        exact ⟨trivial, hfr, trivial⟩
    · simp (disch := omega) only [tw_L, tw_gN, tw_cl, tw_le, tw_lt, tw_eq, nI_add, pk_mul, tw_sub, tw_B0, tw_B1, tw_nb0, tw_nb1, tw_r1s, tw_r1n, if_true, if_false, Nat.le_refl, Nat.reduceEqDiff, Nat.reduceLeDiff, Nat.reduceLT, reduceIte, h1, tm_isOther hon he ho hk (by omega : i < N.1), Option.bind_some, f_m_pickOf_24]
      rw [if_neg (by omega)]
      have ih' := ih (i + 1) (by omega) (by omega)
      rw [tw_oth_s] at ih'
      cases h : tw_oth N R o k i with
      | true =>
        rw [if_neg (by decide)]
        rw [h, if_pos rfl, List.length_append, List.length_singleton] at ih'
        exact ih'
      | false =>
        rw [if_pos rfl]
        rw [h, if_neg (by decide)] at ih'
        exact ih'
theorem tm_pickOf {σ : rx_St} {o k lots : Nat} (hon : o < N.1) (he : tm_env W N E R σ) (ho : σ.1 87 80 = nI o) (hk : k < W.2.length) (hl : σ.1 87 81 = nI lots) : tw_ok (f_m_pickOf (nI k) σ) (fun y => y.1 = tw_opt (tw_pick N E R o k lots).1 ∧ tw_fr tm_S0 σ y.2 ∧ y.2.1 87 81 = nI (tw_pick N E R o k lots).2) := by
  have h2 := he.1.2
  exact tm_pick4 hon he ho hk hl rx_fu 0 (Nat.zero_le _) (by unfold rx_fu; omega)
theorem tm_wish_l {o r kk : Nat} (hon : o < N.1) (hr : r < 80) (k46 : Int32 → Int32 → Int32 → rx_St → Option rx_St) (Q : rx_St → Prop) : ∀ (ws : List tw_Wi) (i : Nat) (done : List tw_Ev) (lots : Nat) (σ : rx_St) (fuel : Nat),
    tm_env W N E R σ → σ.1 87 80 = nI o → tm_wishes σ i ws → (∃ z, σ.1 107 r = nI z ∧ 6 * r + z = i + ws.length) → i + ws.length ≤ 480 → done.length + ws.length ≤ 48 → σ.1 138 o = nI done.length → tm_evs σ (48 * o) done → σ.1 87 81 = nI lots → (∀ w ∈ ws, tw_wiok W (tw_vc W (N.2.1 o)) w) → ws.length < fuel →
    (∀ σ', tw_fr (tm_S3 o) σ σ' → σ'.1 138 o = nI (done.length + ws.length) → tm_evs σ' (48 * o) (done ++ (tw_wishes N E R o ws lots).1) → σ'.1 87 81 = nI (tw_wishes N E R o ws lots).2 → tw_ok (k46 (nI o) (nI kk) (nI (r + 1)) σ') Q) →
    tw_ok (f_m_chooses_78 k46 fuel (nI o) (nI kk) (nI r) (nI i) σ) Q := by
  intro ws
  induction ws with
  | nil =>
    intro i done lots σ fuel he ho hm hz hi hd h38 hev hl hok hf cont
    obtain ⟨n, rfl⟩ : ∃ n, fuel = n + 1 := ⟨fuel - 1, by omega⟩
    obtain ⟨z, h7, hz⟩ := hz
    rw [List.length_nil] at hz hi
    rw [f_m_chooses_78]
    unfold f_m_chooses_263
    simp (disch := omega) only [tw_L, tw_gN, tw_cl, tw_le, tw_lt, tw_eq, nI_add, pk_mul, tw_sub, tw_B0, tw_B1, tw_nb0, tw_nb1, tw_r1s, tw_r1n, if_true, if_false, Nat.le_refl, Nat.reduceEqDiff, Nat.reduceLeDiff, Nat.reduceLT, reduceIte, h7]
    rw [if_pos (by omega)]
    exact cont σ tw_fr.rf h38 (by rw [show (tw_wishes N E R o [] lots).1 = [] from rfl, List.append_nil]; exact hev) hl
  | cons w ws ih =>
    intro i done lots σ fuel he ho hm hz hi hd h38 hev hl hok hf cont
    obtain ⟨n, rfl⟩ : ∃ n, fuel = n + 1 := ⟨fuel - 1, by omega⟩
    obtain ⟨z, h7, hz⟩ := hz
    rw [List.length_cons] at hz hi hd hf
    obtain ⟨hm1, hm2⟩ := hm
    have hN20 := he.1.2
    have hw := hok w List.mem_cons_self
    obtain ⟨w1, w2, w3, w4⟩ := hw
    obtain ⟨m1, m2, m3, m4⟩ := id hm1
    rw [f_m_chooses_78]
    simp (disch := omega) only [tw_L, tw_gN, tw_cl, tw_le, tw_lt, tw_eq, nI_add, pk_mul, tw_sub, tw_B0, tw_B1, tw_nb0, tw_nb1, tw_r1s, tw_r1n, if_true, if_false, Nat.le_refl, Nat.reduceEqDiff, Nat.reduceLeDiff, Nat.reduceLT, reduceIte, h7, h38, m1]
    rw [if_neg (by omega)]
    generalize hp : 48 * o + done.length = p
    have hp9 : 48 * o ≤ p ∧ p < 48 * o + 48 := by omega
    generalize h3 : rx_si (rx_si (rx_si σ 139 p (nI w.1)) 140 p (σ.1 109 i)) 141 p (σ.1 111 i) = σ3
    have f3 : tw_fr (tm_S3 o) σ σ3 := by
      rw [← h3]
      exact ((tw_fr.rf.si (by unfold tm_S3; omega)).si (by unfold tm_S3; omega)).si (by unfold tm_S3; omega)
    have v39 : σ3.1 139 p = nI w.1 := by rw [← h3]; simp (disch := omega) only [tw_L, tw_gN, tw_cl, tw_le, tw_lt, tw_eq, nI_add, pk_mul, tw_sub, tw_B0, tw_B1, tw_nb0, tw_nb1, tw_r1s, tw_r1n, if_true, if_false, Nat.le_refl, Nat.reduceEqDiff, Nat.reduceLeDiff, Nat.reduceLT, reduceIte]
    have v40 : σ3.1 140 p = σ.1 109 i := by rw [← h3]; simp (disch := omega) only [tw_L, tw_gN, tw_cl, tw_le, tw_lt, tw_eq, nI_add, pk_mul, tw_sub, tw_B0, tw_B1, tw_nb0, tw_nb1, tw_r1s, tw_r1n, if_true, if_false, Nat.le_refl, Nat.reduceEqDiff, Nat.reduceLeDiff, Nat.reduceLT, reduceIte]
    have v41 : σ3.1 141 p = σ.1 111 i := by rw [← h3]; simp (disch := omega) only [tw_L, tw_gN, tw_cl, tw_le, tw_lt, tw_eq, nI_add, pk_mul, tw_sub, tw_B0, tw_B1, tw_nb0, tw_nb1, tw_r1s, tw_r1n, if_true, if_false, Nat.le_refl, Nat.reduceEqDiff, Nat.reduceLeDiff, Nat.reduceLT, reduceIte]
    have kc : ∀ {σ4 : rx_St}, tw_fr (tm_S3 o) σ σ4 → ∀ q j, 95 ≤ q → q ≤ 122 → σ4.1 q j = σ.1 q j := fun h q j a b => h.i (by unfold tm_S3 tm_S1; omega)
    -- the last two writings, and on
    have fin : ∀ (e : tw_Ev) (lots' : Nat) (to : Option Nat) (σ4 : rx_St), tw_wish N E R o w lots = (e, lots') → tw_fr (tm_S3 o) σ σ4 → σ4.1 138 o = nI done.length → tm_evs σ4 (48 * o) done → σ4.1 139 p = nI w.1 → σ4.1 140 p = σ.1 109 i → σ4.1 141 p = σ.1 111 i → (e.1 ≠ 4 → σ4.1 142 p = e.2.2.1) → σ4.1 87 81 = nI lots' → (e.1 = 2 → to = e.2.2.2.1) →
        (w.1 = e.1 ∨ e.1 = 2 ∧ w.1 = 3) → (e.1 = 0 ∨ e.1 = 2 → σ.1 109 i = nI e.2.1) → (e.1 = 2 → σ.1 111 i = nI e.2.2.2.2) →
        tw_ok (f_m_chooses_246 k46 (f_m_chooses_78 k46 n) (nI o) (nI kk) (nI r) (nI i) (nI p) (tw_opt to) σ4) Q := by
      intro e lots' to σ4 hwe f4 n38 nev n39 n40 n41 n42 n81 hto hs h9 h11
      unfold f_m_chooses_246
      simp (disch := omega) only [tw_L, tw_gN, tw_cl, tw_le, tw_lt, tw_eq, nI_add, pk_mul, tw_sub, tw_B0, tw_B1, tw_nb0, tw_nb1, tw_r1s, tw_r1n, if_true, if_false, Nat.le_refl, Nat.reduceEqDiff, Nat.reduceLeDiff, Nat.reduceLT, reduceIte, n38]
      have f5 : tw_fr (tm_S3 o) σ (rx_si (rx_si σ4 143 p (tw_opt to)) 138 o (nI (done.length + 1))) := (f4.si (by unfold tm_S3; omega)).si (by unfold tm_S3; omega)
      have hwl : tw_wishes N E R o (w :: ws) lots = (e :: (tw_wishes N E R o ws lots').1, (tw_wishes N E R o ws lots').2) := by rw [tw_wishes, hwe]
      refine ih (i + 1) (done ++ [e]) lots' _ n (he.fr (f5.mn tm_S32)) (by rw [f5.i (by unfold tm_S3 tm_S1; omega)]; exact ho) (tm_wishes.fr (kc f5) ws (i + 1) hm2) ⟨z, by rw [kc f5 _ _ (by omega) (by omega)]; exact h7, by omega⟩ (by omega) (by rw [List.length_append, List.length_singleton]; omega) (by rw [tw_r1s, List.length_append, List.length_singleton]) ?_ (by rw [tw_r1n _ _ (by omega), tw_r1n _ _ (by omega)]; exact n81) (fun w hw => hok w (List.mem_cons_of_mem _ hw)) (by omega) ?_
      · rw [tm_evs_app]
        refine ⟨tm_evs.fr done _ (fun q j a b c d => by rw [tw_r1n _ _ (by omega), tw_r1n _ _ (by omega)]) nev, ?_, trivial⟩
        rw [hp]
        refine ⟨⟨w.1, by rw [tw_r1n _ _ (by omega), tw_r1n _ _ (by omega)]; exact n39, hs⟩, fun g => ?_, fun g => ?_, fun g => ?_, fun g => ?_⟩
        · rw [tw_r1n _ _ (by omega), tw_r1n _ _ (by omega), n40]; exact h9 g
        · rw [tw_r1n _ _ (by omega), tw_r1n _ _ (by omega), n41]; exact h11 g
        · rw [tw_r1n _ _ (by omega), tw_r1n _ _ (by omega)]; exact n42 g
        · rw [tw_r1n _ _ (by omega), tw_r1s, hto g]
      · intro σ' f6 k1 k2 k3
        refine cont σ' (f5.tr f6) (by rw [k1, List.length_append, List.length_singleton, List.length_cons]; congr 1; omega) ?_ (by rw [hwl]; exact k3)
        rw [hwl]
        rw [List.append_assoc] at k2
        exact k2
    have h38' : σ3.1 138 o = nI done.length := by rw [← h3]; simp (disch := omega) only [tw_L, tw_gN, tw_cl, tw_le, tw_lt, tw_eq, nI_add, pk_mul, tw_sub, tw_B0, tw_B1, tw_nb0, tw_nb1, tw_r1s, tw_r1n, if_true, if_false, Nat.le_refl, Nat.reduceEqDiff, Nat.reduceLeDiff, Nat.reduceLT, reduceIte, h38]
    have hev3 : tm_evs σ3 (48 * o) done := tm_evs.fr done _ (fun q j a b c d => by rw [← h3, tw_r1n _ _ (by omega), tw_r1n _ _ (by omega), tw_r1n _ _ (by omega)]) hev
    have hl3 : σ3.1 87 81 = nI lots := by rw [← h3]; simp (disch := omega) only [tw_L, tw_gN, tw_cl, tw_le, tw_lt, tw_eq, nI_add, pk_mul, tw_sub, tw_B0, tw_B1, tw_nb0, tw_nb1, tw_r1s, tw_r1n, if_true, if_false, Nat.le_refl, Nat.reduceEqDiff, Nat.reduceLeDiff, Nat.reduceLT, reduceIte, hl]
    obtain ⟨s, v, k, u, c⟩ := w
    dsimp only at m1 m2 m3 m4 w1 w2 w3 w4 v39 fin
    have hs5 : s = 0 ∨ s = 1 ∨ s = 2 ∨ s = 3 ∨ s = 4 := by omega
    have term : s ≠ 4 → ∀ (K : Int32 × rx_St → Option rx_St), (∀ y : Int32 × rx_St, y.1 = tw_amt (tw_ev N E R o c ([], false, lots)) → tw_fr tm_S1 σ3 y.2 → y.2.1 87 81 = nI (tw_ev N E R o c ([], false, lots)).2.2 → tw_ok (K y) Q) → tw_ok ((f_m_termOf (σ.1 112 i) (σ.1 113 i) σ3).bind K) Q := by
      intro h4 K hK
      obtain ⟨a, k1, k2, k3, k4⟩ := m4 h4
      rw [k1, k2]
      exact tw_b (tm_termOf hon (he.fr (f3.mn tm_S32)) (by rw [f3.i (by unfold tm_S3 tm_S1; omega)] <;> exact ho) (tm_code.fr (fun q j h1 h2 => kc f3 q j (by omega) (by omega)) _ _ k3) k4 (w4 h4) hl3) (fun y hy => hK y hy.1 hy.2.1 hy.2.2.2)
    -- behind the term: the amount is written
    have beh : ∀ (x : Int32) (σ4 : rx_St), tw_fr tm_S1 σ3 σ4 → tw_fr (tm_S3 o) σ (rx_si σ4 142 p x) ∧ (rx_si σ4 142 p x).1 138 o = nI done.length ∧ tm_evs (rx_si σ4 142 p x) (48 * o) done ∧ (rx_si σ4 142 p x).1 139 p = nI s ∧ (rx_si σ4 142 p x).1 140 p = σ.1 109 i ∧ (rx_si σ4 142 p x).1 141 p = σ.1 111 i ∧ (rx_si σ4 142 p x).1 142 p = x ∧ (rx_si σ4 142 p x).1 87 80 = nI o ∧ (rx_si σ4 142 p x).1 87 81 = σ4.1 87 81 := by
      intro x σ4 f4
      have f5 : tw_fr (tm_S3 o) σ (rx_si σ4 142 p x) := (f3.tr (f4.mn (fun q j h => Or.inl h))).si (by unfold tm_S3; omega)
      have g : ∀ q j, ¬ tm_S1 q j → ¬ (q = 142 ∧ j = p) → (rx_si σ4 142 p x).1 q j = σ3.1 q j := fun q j a b => (tw_r1n _ _ b).trans (f4.i a)
      refine ⟨f5, ?_, ?_, ?_, ?_, ?_, tw_r1s _ _ _ _, ?_, tw_r1n _ _ (by omega)⟩
      · rw [g _ _ (by unfold tm_S1; omega) (by omega)]; exact h38'
      · exact tm_evs.fr done _ (fun q j a b c d => g q j (by unfold tm_S1; omega) (by omega)) hev3
      · rw [g _ _ (by unfold tm_S1; omega) (by omega)]; exact v39
      · rw [g _ _ (by unfold tm_S1; omega) (by omega)]; exact v40
      · rw [g _ _ (by unfold tm_S1; omega) (by omega)]; exact v41
      · rw [f5.i (by unfold tm_S3 tm_S1; omega)] <;> exact ho
    have m108 : ∀ {σ4 : rx_St}, tw_fr (tm_S3 o) σ σ4 → σ4.1 108 i = nI s := fun h => (kc h 108 i (by omega) (by omega)).trans m1
    have e108 : σ3.1 108 i = nI s := m108 f3
    rcases hs5 with rfl | rfl | rfl | rfl | rfl
    · simp (disch := omega) only [tw_L, tw_gN, tw_cl, tw_le, tw_lt, tw_eq, nI_add, pk_mul, tw_sub, tw_B0, tw_B1, tw_nb0, tw_nb1, tw_r1s, tw_r1n, if_true, if_false, Nat.le_refl, Nat.reduceEqDiff, Nat.reduceLeDiff, Nat.reduceLT, reduceIte, e108]
      refine term (by decide) _ (fun y y1 y2 y3 => ?_)
      obtain ⟨b1, b2, b3, b4, b5, b6, b7, b8, b9⟩ := beh y.1 y.2 y2
      have yc := kc (f3.tr (y2.mn (fun q j h => Or.inl h)))
      have ye := (yc 108 i (by omega) (by omega)).trans m1
      unfold f_m_chooses_188
      simp (disch := omega) only [tw_L, tw_gN, tw_cl, tw_le, tw_lt, tw_eq, nI_add, pk_mul, tw_sub, tw_B0, tw_B1, tw_nb0, tw_nb1, tw_r1s, tw_r1n, if_true, if_false, Nat.le_refl, Nat.reduceEqDiff, Nat.reduceLeDiff, Nat.reduceLT, reduceIte, ye]
      exact fin (0, v, tw_amt (tw_ev N E R o c ([], false, lots)), none, 0) _ none _ rfl b1 b2 b3 b4 b5 b6 (fun _ => by rw [b7]; exact y1) (by rw [b9]; exact y3) (fun h => absurd h (show ¬ (0 : Nat) = 2 by decide)) (Or.inl rfl) (fun _ => m2 (Or.inl rfl)) (fun h => absurd h (show ¬ (0 : Nat) = 2 by decide))
    · simp (disch := omega) only [tw_L, tw_gN, tw_cl, tw_le, tw_lt, tw_eq, nI_add, pk_mul, tw_sub, tw_B0, tw_B1, tw_nb0, tw_nb1, tw_r1s, tw_r1n, if_true, if_false, Nat.le_refl, Nat.reduceEqDiff, Nat.reduceLeDiff, Nat.reduceLT, reduceIte, e108]
      refine term (by decide) _ (fun y y1 y2 y3 => ?_)
      obtain ⟨b1, b2, b3, b4, b5, b6, b7, b8, b9⟩ := beh y.1 y.2 y2
      have yc := kc (f3.tr (y2.mn (fun q j h => Or.inl h)))
      have ye := (yc 108 i (by omega) (by omega)).trans m1
      unfold f_m_chooses_188
      simp (disch := omega) only [tw_L, tw_gN, tw_cl, tw_le, tw_lt, tw_eq, nI_add, pk_mul, tw_sub, tw_B0, tw_B1, tw_nb0, tw_nb1, tw_r1s, tw_r1n, if_true, if_false, Nat.le_refl, Nat.reduceEqDiff, Nat.reduceLeDiff, Nat.reduceLT, reduceIte, ye]
      exact fin (1, 0, tw_amt (tw_ev N E R o c ([], false, lots)), none, 0) _ none _ rfl b1 b2 b3 b4 b5 b6 (fun _ => by rw [b7]; exact y1) (by rw [b9]; exact y3) (fun h => absurd h (show ¬ (1 : Nat) = 2 by decide)) (Or.inl rfl) (fun h => absurd h (show ¬ ((1 : Nat) = 0 ∨ (1 : Nat) = 2) by decide)) (fun h => absurd h (show ¬ (1 : Nat) = 2 by decide))
    · simp (disch := omega) only [tw_L, tw_gN, tw_cl, tw_le, tw_lt, tw_eq, nI_add, pk_mul, tw_sub, tw_B0, tw_B1, tw_nb0, tw_nb1, tw_r1s, tw_r1n, if_true, if_false, Nat.le_refl, Nat.reduceEqDiff, Nat.reduceLeDiff, Nat.reduceLT, reduceIte, e108]
      refine term (by decide) _ (fun y y1 y2 y3 => ?_)
      obtain ⟨b1, b2, b3, b4, b5, b6, b7, b8, b9⟩ := beh y.1 y.2 y2
      have yc := kc (f3.tr (y2.mn (fun q j h => Or.inl h)))
      have ye := (yc 108 i (by omega) (by omega)).trans m1
      unfold f_m_chooses_188
      simp (disch := omega) only [tw_L, tw_gN, tw_cl, tw_le, tw_lt, tw_eq, nI_add, pk_mul, tw_sub, tw_B0, tw_B1, tw_nb0, tw_nb1, tw_r1s, tw_r1n, if_true, if_false, Nat.le_refl, Nat.reduceEqDiff, Nat.reduceLeDiff, Nat.reduceLT, reduceIte, ye]
      rw [yc 110 i (by omega) (by omega), (m3 (Or.inl rfl)).1, tm_nearOf hon (he.fr (b1.mn tm_S32)) b8 (w3 (Or.inl rfl)).1, Option.bind_some]
      exact fin (2, v, tw_amt (tw_ev N E R o c ([], false, lots)), (tw_others N R o k N.1)[0]?, u) _ _ _ rfl b1 b2 b3 b4 b5 b6 (fun _ => by rw [b7]; exact y1) (by rw [b9]; exact y3) (fun _ => rfl) (Or.inl rfl) (fun _ => m2 (Or.inr (Or.inl rfl))) (fun _ => (m3 (Or.inl rfl)).2)
    · simp (disch := omega) only [tw_L, tw_gN, tw_cl, tw_le, tw_lt, tw_eq, nI_add, pk_mul, tw_sub, tw_B0, tw_B1, tw_nb0, tw_nb1, tw_r1s, tw_r1n, if_true, if_false, Nat.le_refl, Nat.reduceEqDiff, Nat.reduceLeDiff, Nat.reduceLT, reduceIte, e108]
      refine term (by decide) _ (fun y y1 y2 y3 => ?_)
      obtain ⟨b1, b2, b3, b4, b5, b6, b7, b8, b9⟩ := beh y.1 y.2 y2
      have yc := kc (f3.tr (y2.mn (fun q j h => Or.inl h)))
      have ye := (yc 108 i (by omega) (by omega)).trans m1
      unfold f_m_chooses_188
      simp (disch := omega) only [tw_L, tw_gN, tw_cl, tw_le, tw_lt, tw_eq, nI_add, pk_mul, tw_sub, tw_B0, tw_B1, tw_nb0, tw_nb1, tw_r1s, tw_r1n, if_true, if_false, Nat.le_refl, Nat.reduceEqDiff, Nat.reduceLeDiff, Nat.reduceLT, reduceIte, ye]
      rw [yc 110 i (by omega) (by omega), (m3 (Or.inr rfl)).1]
      refine tw_b (tm_pickOf hon (he.fr (b1.mn tm_S32)) b8 (w3 (Or.inr rfl)).1 (by rw [b9]; exact y3)) (fun t ht => ?_)
      obtain ⟨t1, t2, t3⟩ := ht
      have g : ∀ q j, ¬ tm_S0 q j → t.2.1 q j = (rx_si y.2 142 p y.1).1 q j := fun q j a => t2.i a
      rw [t1]
      refine fin (2, v, tw_amt (tw_ev N E R o c ([], false, lots)), (tw_pick N E R o k (tw_ev N E R o c ([], false, lots)).2.2).1, u) (tw_pick N E R o k (tw_ev N E R o c ([], false, lots)).2.2).2 _ _ rfl (b1.tr (t2.mn (fun q j h => Or.inl (tm_S01 q j h)))) ?_ ?_ ?_ ?_ ?_ (fun _ => ?_) t3 (fun _ => rfl) (Or.inr ⟨rfl, rfl⟩) (fun _ => m2 (Or.inr (Or.inr rfl))) (fun _ => (m3 (Or.inr rfl)).2)
      · rw [g _ _ (by unfold tm_S0; omega)]; exact b2
      · exact tm_evs.fr done _ (fun q j a b c d => g q j (by unfold tm_S0; omega)) b3
      · rw [g _ _ (by unfold tm_S0; omega)]; exact b4
      · rw [g _ _ (by unfold tm_S0; omega)]; exact b5
      · rw [g _ _ (by unfold tm_S0; omega)]; exact b6
      · rw [g _ _ (by unfold tm_S0; omega), b7]; exact y1
    · simp (disch := omega) only [tw_L, tw_gN, tw_cl, tw_le, tw_lt, tw_eq, nI_add, pk_mul, tw_sub, tw_B0, tw_B1, tw_nb0, tw_nb1, tw_r1s, tw_r1n, if_true, if_false, Nat.le_refl, Nat.reduceEqDiff, Nat.reduceLeDiff, Nat.reduceLT, reduceIte, e108]
      obtain ⟨b1, b2, b3, b4, b5, b6, b7, b8, b9⟩ := beh (nI 0) σ3 tw_fr.rf
      unfold f_m_chooses_188
      simp (disch := omega) only [tw_L, tw_gN, tw_cl, tw_le, tw_lt, tw_eq, nI_add, pk_mul, tw_sub, tw_B0, tw_B1, tw_nb0, tw_nb1, tw_r1s, tw_r1n, if_true, if_false, Nat.le_refl, Nat.reduceEqDiff, Nat.reduceLeDiff, Nat.reduceLT, reduceIte, m108 b1, e108]
      exact fin (4, 0, nI 0, none, 0) lots none _ rfl b1 b2 b3 b4 b5 b6 (fun h => absurd rfl h) (by rw [b9]; exact hl3) (fun h => absurd h (by decide)) (Or.inl rfl) (fun h => absurd h (by decide)) (fun h => absurd h (by decide))
end TM4
