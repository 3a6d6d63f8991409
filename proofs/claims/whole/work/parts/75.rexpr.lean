/-! THE CLASS'S READER: an E -/
def ty_tp : List Nat → Nat
  | [] => 0
  | x :: _ => if x = 35 then 0 else if x ≤ 28 then 1 else 2
theorem ty_wf_len : ∀ (ws : List Nat) (op : Nat), ty_wf ws op → ws.length ≤ 3 * op + ty_tp ws ∧ ty_bin ws ≤ 2 * op + ty_tp ws
  | [], op, _ => ⟨Nat.zero_le _, Nat.zero_le _⟩
  | x :: ws, op, h => by
    have ih := ty_wf_len ws
    rw [List.length_cons, ty_bin, ty_tp]
    have t2 : ty_tp ws ≤ 2 := by
      cases ws with
      | nil => exact Nat.zero_le _
      | cons y l =>
        rw [ty_tp]
        by_cases a : y = 35
        · rw [if_pos a]; omega
        · rw [if_neg a]
          by_cases b : y ≤ 28
          · rw [if_pos b]; omega
          · rw [if_neg b]; omega
    rcases h with ⟨h1, h2, h3⟩ | ⟨h1, h2, h3⟩ | ⟨h1, h2, h3⟩
    · have := ih _ h3
      rw [if_pos h1, if_pos h1]
      omega
    · have g := ih _ h3
      have n35 : ¬ x = 35 := by omega
      have l28 : x ≤ 28 := by omega
      rw [if_neg n35, if_neg n35, if_pos l28]
      have t0 : ty_tp ws = 0 := by
        rcases h2 with ⟨h4, -⟩ | ⟨w', h4⟩
        · rw [h4]; rfl
        · rw [h4]; rfl
      omega
    · have g := ih _ h3
      have n35 : ¬ x = 35 := by omega
      have l28 : ¬ x ≤ 28 := by omega
      rw [if_neg n35, if_neg n35, if_neg l28]
      have t0 : ty_tp ws ≤ 1 := by
        rcases h2 with ⟨h4, -⟩ | ⟨w', h4⟩ | ⟨y, w', h4, h5⟩
        · rw [h4]; exact Nat.zero_le _
        · rw [h4]; exact Nat.zero_le _
        · rw [h4, ty_tp, if_neg (by omega), if_pos (by omega)]; omega
      omega
theorem ty_tp2 (ws : List Nat) : ty_tp ws ≤ 2 := by
  cases ws with
  | nil => exact Nat.zero_le _
  | cons y l =>
    rw [ty_tp]
    by_cases a : y = 35
    · rw [if_pos a]; omega
    · rw [if_neg a]
      by_cases b : y ≤ 28
      · rw [if_pos b]; omega
      · rw [if_neg b]; omega
/-- what stays when signs come out -/
theorem ty_dr_ok (sg : Nat) : ∀ (ws : List Nat) (op : Nat), ty_wf ws op → ty_wf (ty_dr sg ws).1 op ∧ ty_bin (ty_dr sg ws).1 + (ty_dr sg ws).2.length = ty_bin ws ∧ (ty_dr sg ws).1.length ≤ ws.length ∧ (sg ≤ 28 → (ty_dr sg ws).1 = [] ∧ op = 0 ∨ ∃ w', (ty_dr sg ws).1 = 35 :: w') ∧ ((ty_dr sg ws).1 = [] ∧ op = 0 ∨ (∃ w', (ty_dr sg ws).1 = 35 :: w') ∨ ∃ y w', (ty_dr sg ws).1 = y :: w' ∧ (y = 27 ∨ y = 28))
  | [], op, h => ⟨h, rfl, Nat.le_refl _, fun _ => Or.inl ⟨rfl, h⟩, Or.inl ⟨rfl, h⟩⟩
  | x :: ws, op, h => by
    unfold ty_dr
    by_cases c : x = 35 ∨ ¬ (29 ≤ x ∨ sg ≤ 28)
    · rw [if_pos c]
      refine ⟨h, rfl, Nat.le_refl _, fun hs => ?_, ?_⟩
      · rcases c with c | c
        · subst c; exact Or.inr ⟨ws, rfl⟩
        · exact absurd (Or.inr hs) c
      · by_cases e : x = 35
        · subst e; exact Or.inr (Or.inl ⟨ws, rfl⟩)
        · have h2 : ¬ 29 ≤ x := fun z => by
            rcases c with c | c
            · exact e c
            · exact c (Or.inl z)
          rcases h with ⟨h1, -⟩ | ⟨h1, -⟩ | ⟨h1, -⟩
          · exact absurd h1 e
          · exact Or.inr (Or.inr ⟨x, ws, rfl, h1⟩)
          · omega
    · rw [if_neg c]
      have e : ¬ x = 35 := fun z => c (Or.inl z)
      have hw : ty_wf ws op := by
        rcases h with ⟨h1, -⟩ | ⟨-, -, h3⟩ | ⟨-, -, h3⟩
        · exact absurd h1 e
        · exact h3
        · exact h3
      obtain ⟨g1, g2, g3, g4, g5⟩ := ty_dr_ok sg ws op hw
      refine ⟨g1, ?_, ?_, g4, g5⟩
      · show ty_bin (ty_dr sg ws).1 + ((ty_dr sg ws).2.length + 1) = (if x = 35 then 0 else 1) + ty_bin ws
        rw [if_neg e]; omega
      · rw [List.length_cons]; show (ty_dr sg ws).1.length ≤ ws.length + 1; omega
theorem ty_wf_push {k : Nat} {ws : List Nat} {op : Nat} (h : ty_wf ws op) (hk : 27 ≤ k) (hk2 : k ≤ 30) : ty_wf (k :: (ty_dr k ws).1) op := by
  obtain ⟨g1, -, -, g4, g5⟩ := ty_dr_ok k ws op h
  by_cases c : k ≤ 28
  · refine Or.inr (Or.inl ⟨by omega, ?_, g1⟩)
    exact g4 c
  · exact Or.inr (Or.inr ⟨by omega, g5, g1⟩)
def tz_wt (σ : rx_St) : List Nat → Prop
  | [] => True
  | x :: ws => σ.1 36 ws.length = nI x ∧ tz_wt σ ws
theorem tz_wt.fr {σ σ' : rx_St} : ∀ (ws : List Nat), (∀ j, j < ws.length → σ'.1 36 j = σ.1 36 j) → tz_wt σ ws → tz_wt σ' ws
  | [], _, _ => trivial
  | x :: ws, h, ⟨h1, h2⟩ => ⟨by rw [h _ (by rw [List.length_cons]; omega)]; exact h1, tz_wt.fr ws (fun j hj => h j (by rw [List.length_cons]; omega)) h2⟩
section TZ2
variable {v : Nat} {T : List tw_Tk} {n : Nat}
/-- in an E: brackets that stand, signs that wait -/
def tz_ee (v : Nat) (T : List tw_Tk) (n : Nat) (s : ty_Ps) (d op : Nat) (ws : List Nat) (C : List tz_Cd) (σ : rx_St) : Prop := tz_tk T n σ ∧ tz_rs T s σ ∧ tz_rg v σ ∧ (s.1 = 0 → tz_cds v C σ ∧ C.length + d + ty_bin ws ≤ s.2 ∧ σ.1 35 6 = nI ws.length ∧ tz_wt σ ws ∧ ty_wf ws op ∧ op ≤ 6)
theorem tz_ee.fault {s : ty_Ps} {d op op' d' : Nat} {ws ws' : List Nat} {C C' : List tz_Cd} {σ : rx_St} (h : tz_ee v T n s d op ws C σ) (hs : ¬ s.1 = 0) : tz_ee v T n s d' op' ws' C' σ := ⟨h.1, h.2.1, h.2.2.1, fun z => absurd z hs⟩
theorem tz_ee.pp {s : ty_Ps} {d op : Nat} {ws : List Nat} {C : List tz_Cd} {σ : rx_St} (h : tz_ee v T n s d op ws C σ) : tz_pp v T n s (d + ty_bin ws) C σ := ⟨h.1, h.2.1, h.2.2.1, fun z => ⟨(h.2.2.2 z).1, by have := (h.2.2.2 z).2.1; omega⟩⟩
theorem tz_await {k : Nat} {σ : rx_St} {q : Nat} (h : σ.1 35 6 = nI q) (hq : q ≤ 21) : tw_ok (f_rea_await (nI k) σ) (fun σ' => tw_fr (fun a b => a = 35 ∧ b = 6 ∨ a = 36 ∧ b = q) σ σ' ∧ (∃ q', q' ≤ 21 ∧ σ'.1 35 6 = nI q') ∧ (q < 21 → σ'.1 35 6 = nI (q + 1) ∧ σ'.1 36 q = nI k)) := by
  unfold f_rea_await
  rw [h]
  by_cases c : 21 ≤ q
  · rw [if_pos (show (21 : Int32) ≤ nI q by rw [show (21 : Int32) = nI 21 from rfl, tw_le (by omega) (by omega)]; exact c), tw_some]
    exact ⟨tw_fr.rf, ⟨q, hq, h⟩, fun z => absurd z (by omega)⟩
  · rw [if_neg (show ¬ (21 : Int32) ≤ nI q by rw [show (21 : Int32) = nI 21 from rfl, tw_le (by omega) (by omega)]; exact c)]
    simp (disch := omega) only [tw_L, tw_gN, tw_cl, tw_le, tw_lt, tw_eq, nI_add, pk_mul, tw_sub, tw_B0, tw_B1, tw_nb0, tw_nb1, tw_r1s, tw_r1n, if_true, if_false, Nat.le_refl, Nat.reduceEqDiff, Nat.reduceLeDiff, Nat.reduceLT, reduceIte, h]
    rw [tw_some]
    refine ⟨(tw_fr.rf.si (Or.inr ⟨rfl, rfl⟩)).si (Or.inl ⟨rfl, rfl⟩), ⟨q + 1, by omega, tw_r1s _ _ _ _⟩, fun _ => ⟨tw_r1s _ _ _ _, ?_⟩⟩
    simp (disch := omega) only [tw_L, tw_gN, tw_cl, tw_le, tw_lt, tw_eq, nI_add, pk_mul, tw_sub, tw_B0, tw_B1, tw_nb0, tw_nb1, tw_r1s, tw_r1n, if_true, if_false, Nat.le_refl, Nat.reduceEqDiff, Nat.reduceLeDiff, Nat.reduceLT, reduceIte]
/-- signs come out: whatever stands there -/
theorem tz_ewF (sg : Int32) : ∀ (m q : Nat) (σ : rx_St), q < m → tz_rg v σ → σ.1 35 6 = nI q → q ≤ 21 → tw_ok (f_rea_emitWaiting_0 v m sg σ) (fun σ' => tw_fr (fun a b => a = 35 ∧ b = 6 ∨ a = 7 + 14 * v ∧ (b = 12 ∨ b = 13) ∨ 18 + 14 * v ≤ a ∧ a ≤ 20 + 14 * v) σ σ' ∧ tz_rg v σ') := by
  intro m
  induction m with
  | zero => intro q σ h; exact absurd h (Nat.not_lt_zero _)
  | succ m ih =>
    intro q σ hm hg hq hq2
    have stop : tw_ok (some σ) (fun σ' => tw_fr (fun a b => a = 35 ∧ b = 6 ∨ a = 7 + 14 * v ∧ (b = 12 ∨ b = 13) ∨ 18 + 14 * v ≤ a ∧ a ≤ 20 + 14 * v) σ σ' ∧ tz_rg v σ') := by
      rw [tw_some]; exact ⟨tw_fr.rf, hg⟩
    unfold f_rea_emitWaiting_0
    rw [hq]
    by_cases c0 : q = 0
    · subst c0
      rw [if_pos (show nI 0 ≤ (0 : Int32) by decide)]
      exact stop
    · rw [if_neg (show ¬ nI q ≤ (0 : Int32) by rw [show (0 : Int32) = nI 0 from rfl, tw_le (by omega) (by omega)]; omega), if_neg (show ¬ (21 : Int32) < nI q by rw [show (21 : Int32) = nI 21 from rfl, tw_lt (by omega) (by omega)]; omega)]
      have e1 : nI q - (1 : Int32) = nI (q - 1) := tw_sub (a := q) (b := 1) (by omega)
      rw [e1]
      refine tw_g (vp_in_nI (by omega) (by decide)) ?_
      have go : ∀ s0 x, tw_ok (f_rea_emitWaiting_48 v (f_rea_emitWaiting_0 v m) sg x s0 σ) (fun σ' => tw_fr (fun a b => a = 35 ∧ b = 6 ∨ a = 7 + 14 * v ∧ (b = 12 ∨ b = 13) ∨ 18 + 14 * v ≤ a ∧ a ≤ 20 + 14 * v) σ σ' ∧ tz_rg v σ') := by
        intro s0 x
        unfold f_rea_emitWaiting_48
        refine tw_ite (fun _ => stop) (fun _ => tw_ite (fun _ => stop) (fun _ => ?_))
        obtain ⟨c, q', r1, r2, r3, r4⟩ := id hg
        refine tw_b (tz_emit0 (x := x) (a := (0 : Int32)) (b := (0 : Int32)) r1 r2) (fun σ1 g => ?_)
        obtain ⟨g1, c', g2, g3⟩ := g
        have e6 : σ1.1 35 6 = nI q := (g1.i (by omega)).trans hq
        have f1 : tw_fr (fun a b => a = 35 ∧ b = 6 ∨ a = 7 + 14 * v ∧ (b = 12 ∨ b = 13) ∨ 18 + 14 * v ≤ a ∧ a ≤ 20 + 14 * v) σ (rx_si σ1 35 6 (nI (q - 1))) := (g1.mn (fun a b h => Or.inr h)).si (Or.inl ⟨rfl, rfl⟩)
        show tw_ok (f_rea_emitWaiting_0 v m sg (rx_si σ1 35 6 (σ1.1 35 6 - (1 : Int32)))) _
        rw [e6, e1]
        exact tw_mono (ih (q - 1) _ (by omega) ⟨c', q - 1, by rw [tw_r1n _ _ (by omega)]; exact g3, g2, tw_r1s _ _ _ _, by omega⟩ (tw_r1s _ _ _ _) (by omega)) (fun σ' h => ⟨f1.tr h.1, h.2⟩)
      unfold f_rea_emitWaiting_43
      exact tw_ite (fun _ => go _ _) (fun _ => tw_ite (fun _ => go _ _) (fun _ => go _ _))
/-- signs come out -/
theorem tz_ewG {s : ty_Ps} {d op sg : Nat} {C : List tz_Cd} (hs : s.1 = 0) (hsg : sg < 100) : ∀ (ws : List Nat) (m : Nat) (C : List tz_Cd) (σ : rx_St), ws.length < m → tz_ee v T n s d op ws C σ → tw_ok (f_rea_emitWaiting_0 v m (nI sg) σ) (fun σ' => tw_fr (tz_S v) σ σ' ∧ tz_ee v T n s d op (ty_dr sg ws).1 (C ++ (ty_dr sg ws).2.map tz_uc) σ')
  | [], m, C, σ, hm, h => by
    obtain ⟨m, rfl⟩ : ∃ m', m = m' + 1 := ⟨m - 1, by omega⟩
    obtain ⟨-, -, g3, -⟩ := h.2.2.2 hs
    unfold f_rea_emitWaiting_0
    rw [g3, if_pos (show nI [].length ≤ (0 : Int32) by decide), tw_some]
    refine ⟨tw_fr.rf, ?_⟩
    show tz_ee v T n s d op [] (C ++ []) σ
    rw [List.append_nil]
    exact h
  | x :: ws, m, C, σ, hm, h => by
    obtain ⟨m, rfl⟩ : ∃ m', m = m' + 1 := ⟨m - 1, by omega⟩
    obtain ⟨g1, g2, g3, ⟨g4, g5⟩, g6, g7⟩ := h.2.2.2 hs
    have ln := ty_wf_len _ _ g6
    have t2 := ty_tp2 (x :: ws)
    rw [List.length_cons] at ln g3 hm
    have x35 : x = 35 ∨ x = 27 ∨ x = 28 ∨ x = 29 ∨ x = 30 := by
      rcases g6 with ⟨h1, -⟩ | ⟨h1, -⟩ | ⟨h1, -⟩ <;> omega
    unfold f_rea_emitWaiting_0
    rw [g3, if_neg (show ¬ nI (ws.length + 1) ≤ (0 : Int32) by rw [show (0 : Int32) = nI 0 from rfl, tw_le (by omega) (by omega)]; omega), if_neg (show ¬ (21 : Int32) < nI (ws.length + 1) by rw [show (21 : Int32) = nI 21 from rfl, tw_lt (by omega) (by omega)]; omega)]
    have e1 : nI (ws.length + 1) - (1 : Int32) = nI ws.length := tw_sub (a := ws.length + 1) (b := 1) (by omega)
    rw [e1]
    refine tw_g (vp_in_nI (by omega) (by decide)) ?_
    rw [nI_clamp (by omega), g4]
    have w48 : ∀ s0 : Int32, (s0 = (0 : Int32)) = ¬ (29 ≤ x ∨ sg ≤ 28) → tw_ok (f_rea_emitWaiting_48 v (f_rea_emitWaiting_0 v m) (nI sg) (nI x) s0 σ) (fun σ' => tw_fr (tz_S v) σ σ' ∧ tz_ee v T n s d op (ty_dr sg (x :: ws)).1 (C ++ (ty_dr sg (x :: ws)).2.map tz_uc) σ') := by
      intro s0 hs0
      unfold f_rea_emitWaiting_48 ty_dr
      rw [tw_ifE (show (nI x = (35 : Int32)) = (x = 35) by rw [show (35 : Int32) = nI 35 from rfl, tw_eq (by omega) (by omega)])]
      have stop : tw_ok (some σ) (fun σ' => tw_fr (tz_S v) σ σ' ∧ tz_ee v T n s d op (x :: ws) (C ++ ([] : List ty_Uo).map tz_uc) σ') := by
        rw [tw_some]
        refine ⟨tw_fr.rf, ?_⟩
        show tz_ee v T n s d op (x :: ws) (C ++ []) σ
        rw [List.append_nil]
        exact h
      by_cases c1 : x = 35
      · rw [if_pos c1, if_pos (Or.inl c1)]
        exact stop
      · rw [if_neg c1]
        by_cases c2 : ¬ (29 ≤ x ∨ sg ≤ 28)
        · rw [if_pos (by rw [hs0]; exact c2), if_pos (Or.inr c2)]
          exact stop
        · rw [if_neg (by rw [hs0]; exact c2), if_neg (fun z => z.elim c1 c2)]
          have bn : ty_bin (x :: ws) = 1 + ty_bin ws := by rw [ty_bin, if_neg c1]
          have pp1 : tz_pp v T n s (d + ty_bin ws + 1) C σ := h.pp.le (by omega)
          have gw : tz_wt σ ws := g5
          -- the code
          have hv : v ≤ v := Nat.le_refl _
          obtain ⟨h1, h2, h3, h4⟩ := pp1
          have s5 := h2.2.2.2.1
          obtain ⟨cc1, cc2⟩ := h4 hs
          refine tw_b (tz_emit1 (a := (0 : Int32)) (b := (0 : Int32)) cc1 (by omega) (show x < 100 by omega)) (fun σ1 g => ?_)
          obtain ⟨k1, k2⟩ := g
          have e6 : σ1.1 35 6 = nI (ws.length + 1) := (k1.i (by omega)).trans g3
          show tw_ok (f_rea_emitWaiting_0 v m (nI sg) (rx_si σ1 35 6 (σ1.1 35 6 - (1 : Int32)))) _
          rw [e6, e1]
          have fT : tw_fr (tz_S v) σ (rx_si σ1 35 6 (nI ws.length)) := (k1.mn (fun q j h => by unfold tz_S; omega)).si (by unfold tz_S; omega)
          have hw : ty_wf ws op := by
            rcases g6 with ⟨z1, -⟩ | ⟨-, -, z3⟩ | ⟨-, -, z3⟩
            · exact absurd z1 c1
            · exact z3
            · exact z3
          have ee : tz_ee v T n s d op ws (C ++ [(x, (0 : Int32), (0 : Int32))]) (rx_si σ1 35 6 (nI ws.length)) := by
            refine ⟨h1.fr (fun q j a b => ⟨by rw [tw_r1n _ _ (by omega)]; exact k1.i (by omega), k1.l (by omega)⟩), ⟨by rw [tw_r1n _ _ (by omega), k1.i (by omega)]; exact h2.1, by rw [tw_r1n _ _ (by omega), k1.i (by omega)]; exact h2.2.1, h2.2.2⟩, ⟨_, ws.length, by rw [tw_r1n _ _ (by omega)]; exact k2.1, k2.2.1, tw_r1s _ _ _ _, by omega⟩, fun _ => ⟨k2.fr (fun q j a => tw_r1n _ _ (by omega)), ?_, tw_r1s _ _ _ _, gw.fr ws (fun j hj => by rw [tw_r1n _ _ (by omega)]; exact k1.i (by omega)), hw, g7⟩⟩
            rw [List.length_append]
            show C.length + 1 + d + ty_bin ws ≤ s.2
            omega
          have r := tz_ewG (s := s) (d := d) (op := op) (sg := sg) (C := C) hs hsg ws m _ _ (by omega) ee
          refine tw_mono r (fun σ' h => ⟨fT.tr h.1, ?_⟩)
          have : C ++ List.map tz_uc ((x - 18, 0, 0) :: (ty_dr sg ws).2) = C ++ [(x, (0 : Int32), (0 : Int32))] ++ List.map tz_uc (ty_dr sg ws).2 := by
            rw [List.map_cons, List.append_assoc]
            congr 1
            show _ :: _ = _ :: _
            congr 1
            rcases x35 with rfl | rfl | rfl | rfl | rfl
            · exact absurd rfl c1
            · rfl
            · rfl
            · rfl
            · rfl
          rw [this]
          exact h.2
    unfold f_rea_emitWaiting_43
    rw [tw_ifE (show ((29 : Int32) ≤ nI x) = (29 ≤ x) by rw [show (29 : Int32) = nI 29 from rfl, tw_le (by omega) (by omega)])]
    by_cases c : 29 ≤ x
    · rw [if_pos c]
      exact w48 _ (propext ⟨fun z => absurd z (by decide), fun z => absurd (Or.inl c) z⟩)
    · rw [if_neg c, tw_ifE (show ((28 : Int32) < nI sg) = (28 < sg) by rw [show (28 : Int32) = nI 28 from rfl, tw_lt (by omega) (by omega)])]
      by_cases c2 : 28 < sg
      · rw [if_pos c2]
        exact w48 _ (propext ⟨fun _ z => by omega, fun _ => rfl⟩)
      · rw [if_neg c2]
        exact w48 _ (propext ⟨fun z => absurd z (by decide), fun z => absurd (Or.inr (by omega)) z⟩)
theorem tz_ew {s : ty_Ps} {d op sg : Nat} {C : List tz_Cd} {ws : List Nat} {σ : rx_St} (hv : v ≤ 1) (hsg : sg < 100) (h : tz_ee v T n s d op ws C σ) : tw_ok (f_rea_emitWaiting v (nI sg) σ) (fun σ' => tw_fr (tz_S v) σ σ' ∧ tz_ee v T n s d op (ty_dr sg ws).1 (C ++ (ty_dr sg ws).2.map tz_uc) σ') := by
  unfold f_rea_emitWaiting
  by_cases z : s.1 = 0
  · obtain ⟨-, -, -, -, g6, g7⟩ := h.2.2.2 z
    have ln := ty_wf_len _ _ g6
    have t2 := ty_tp2 ws
    exact tz_ewG (C := C) z hsg ws rx_fu C σ (by show _ < 100000; omega) h
  · obtain ⟨h1, h2, ⟨c, q, r1, r2, r3, r4⟩, -⟩ := h
    refine tw_mono (tz_ewF (nI sg) rx_fu q σ (by show _ < 100000; omega) ⟨c, q, r1, r2, r3, r4⟩ r3 r4) (fun σ' g => ?_)
    obtain ⟨g1, g2⟩ := g
    exact ⟨g1.mn (fun a b h => by unfold tz_S; omega), h1.fr (fun q j a b => ⟨g1.i (by omega), g1.l (by omega)⟩), ⟨(g1.i (by omega)).trans h2.1, (g1.i (by omega)).trans h2.2.1, h2.2.2⟩, g2, fun y => absurd y z⟩
end TZ2
