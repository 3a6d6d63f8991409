/-! THE MODEL READS: an E -/
def ta_pp (X : ta_X) (T : List tw_Tk) (n : Nat) (s : ty_Ps) (d : Nat) (C : List tz_Cd) (Q : List ta_Qu) (acc : Option (Nat × Nat)) (σ : rx_St) : Prop := ta_cx X T n σ ∧ tm_rs T n s σ ∧ (∃ c, σ.1 87 46 = nI (700 * X.1 + c) ∧ c ≤ 530) ∧ (s.1 = 0 → ta_gd X.1 T n C Q acc σ ∧ C.length + Q.length + d ≤ s.2 ∧ σ.1 87 12 = nI 0)
theorem ty_dr_9 (sg : Nat) : ∀ (ws : List Nat) (op : Nat), ty_wf ws op → ∀ y ∈ (ty_dr sg ws).2, 9 ≤ y.1
  | [], op, _, y, hy => by cases hy
  | x :: ws, op, h, y, hy => by
    unfold ty_dr at hy
    by_cases c : x = 35 ∨ ¬ (29 ≤ x ∨ sg ≤ 28)
    · rw [if_pos c] at hy; cases hy
    · rw [if_neg c] at hy
      have e : ¬ x = 35 := fun z => c (Or.inl z)
      have hw : ty_wf ws op ∧ 27 ≤ x := by
        rcases h with ⟨h1, -⟩ | ⟨h1, -, h3⟩ | ⟨h1, -, h3⟩
        · exact absurd h1 e
        · exact ⟨h3, by omega⟩
        · exact ⟨h3, by omega⟩
      rcases List.mem_cons.mp hy with rfl | hy
      · show 9 ≤ x - 18; omega
      · exact ty_dr_9 sg ws op hw.1 y hy
section TAX
variable {X : ta_X} {T : List tw_Tk} {n : Nat}
theorem ta_oqs_9 : ∀ (o : List ty_Uo) (p : Nat), (∀ y ∈ o, 9 ≤ y.1) → ta_oqs X p o = []
  | [], p, _ => rfl
  | x :: o, p, h => by
    have := h x (List.mem_cons_self ..)
    rw [ta_oqs, ta_oqs_9 o _ (fun y hy => h y (List.mem_cons_of_mem _ hy)), ta_oq_s (by omega)]
    rfl
theorem ta_oes_9 : ∀ (o : List ty_Uo), (∀ y ∈ o, 9 ≤ y.1) → o.flatMap (ta_oe T X) = []
  | [], _ => rfl
  | x :: o, h => by
    have := h x (List.mem_cons_self ..)
    rw [List.flatMap_cons, ta_oes_9 o (fun y hy => h y (List.mem_cons_of_mem _ hy)), ta_oe_s (by omega)]
    rfl
/-- signs come out: whatever stands there -/
theorem ta_coF {s : ty_Ps} {sgn : Int32} (hs : ¬ s.1 = 0) : ∀ (m q : Nat) (σ : rx_St), q < m → ta_cx X T n σ → tm_rs T n s σ → (∃ c, σ.1 87 46 = nI (700 * X.1 + c) ∧ c + q ≤ 530) → σ.1 87 58 = nI q → q ≤ 30 → tw_ok (f_m_comesOut_0 m sgn σ) (fun σ' => tw_fr (ta_SE X.1) σ σ' ∧ ta_cx X T n σ' ∧ tm_rs T n s σ' ∧ ∃ c q, σ'.1 87 46 = nI (700 * X.1 + c) ∧ σ'.1 87 58 = nI q ∧ c + q ≤ 530 ∧ q ≤ 30) := by
  intro m
  induction m with
  | zero => intro q σ h; exact absurd h (Nat.not_lt_zero _)
  | succ m ih =>
    intro q σ hm h1 h2 hc hq q30
    obtain ⟨c, r1, r2⟩ := hc
    have stop : tw_ok (some σ) (fun σ' => tw_fr (ta_SE X.1) σ σ' ∧ ta_cx X T n σ' ∧ tm_rs T n s σ' ∧ ∃ c q, σ'.1 87 46 = nI (700 * X.1 + c) ∧ σ'.1 87 58 = nI q ∧ c + q ≤ 530 ∧ q ≤ 30) := by
      rw [tw_some]
      exact ⟨tw_fr.rf, h1, h2, c, q, r1, hq, r2, q30⟩
    unfold f_m_comesOut_0
    rw [hq]
    by_cases c0 : q = 0
    · subst c0
      rw [if_pos (show nI 0 ≤ (0 : Int32) by decide)]
      exact stop
    rw [if_neg (show ¬ nI q ≤ (0 : Int32) by rw [show (0 : Int32) = nI 0 from rfl, tw_le (by omega) (by omega)]; omega)]
    have e1 : nI q - (1 : Int32) = nI (q - 1) := tw_sub (a := q) (b := 1) (by omega)
    rw [e1]
    refine tw_g (vp_in_nI (by omega) (by decide)) ?_
    have x1 := h1.2.1.2
    have go : ∀ x : Int32, tw_ok (f_m_comesOut_42 (f_m_comesOut_0 m) sgn x σ) (fun σ' => tw_fr (ta_SE X.1) σ σ' ∧ ta_cx X T n σ' ∧ tm_rs T n s σ' ∧ ∃ c q, σ'.1 87 46 = nI (700 * X.1 + c) ∧ σ'.1 87 58 = nI q ∧ c + q ≤ 530 ∧ q ≤ 30) := by
      intro x
      have f88 : ∀ y : Int32, tw_ok (f_m_comesOut_88 (f_m_comesOut_0 m) sgn y (rx_si σ 87 58 (nI (q - 1)))) (fun σ' => tw_fr (ta_SE X.1) σ σ' ∧ ta_cx X T n σ' ∧ tm_rs T n s σ' ∧ ∃ c q, σ'.1 87 46 = nI (700 * X.1 + c) ∧ σ'.1 87 58 = nI q ∧ c + q ≤ 530 ∧ q ≤ 30) := by
        intro y
        unfold f_m_comesOut_88
        refine tw_b (ta_emit0 (c := c) y (0 : Int32) x1 (by rw [tw_r1n _ _ (by omega)]; exact r1) (by omega)) (fun σ1 g => ?_)
        obtain ⟨g1, g2, -⟩ := g
        have f1 : tw_fr (ta_SE X.1) σ σ1 := (tw_fr.rf.si (by unfold ta_SE; omega)).tr (g1.mn (fun q j z => by unfold ta_SE; omega))
        have e : ∀ j, j = 11 ∨ j = 13 ∨ j = 14 → σ1.1 87 j = σ.1 87 j := fun j a => by rw [g1.i (by omega)]; exact tw_r1n _ _ (by omega)
        refine tw_mono (ih (q - 1) σ1 (by omega) (h1.fr f1) (h2.fr e) ⟨c + 1, g2, by omega⟩ (by rw [g1.i (by omega)]; exact tw_r1s _ _ _ _) (by omega)) (fun σ' k => ?_)
        exact ⟨f1.tr k.1, k.2⟩
      unfold f_m_comesOut_42
      rw [hq, e1]
      exact tw_ite (fun _ => f88 _) (fun _ => tw_ite (fun _ => f88 _) (fun _ => tw_ite (fun _ => f88 _) (fun _ => f88 _)))
    exact tw_ite (fun _ => stop) (fun _ => tw_ite (fun _ => go _) (fun _ => tw_ite (fun _ => stop) (fun _ => tw_ite (fun _ => stop) (fun _ => go _))))
/-- signs come out -/
theorem ta_coG {s : ty_Ps} {d op sg : Nat} {sgn : Int32} {Q : List ta_Qu} {acc : Option (Nat × Nat)} (hs : s.1 = 0) (hsg : (sgn = (0 : Int32)) = (sg ≤ 28)) : ∀ (ws : List Nat) (m : Nat) (C : List tz_Cd) (σ : rx_St), ws.length < m → ta_ee X T n s d op ws C Q acc σ → tw_ok (f_m_comesOut_0 m sgn σ) (fun σ' => tw_fr (ta_SE X.1) σ σ' ∧ ta_ee X T n s d op (ty_dr sg ws).1 (C ++ (ty_dr sg ws).2.map (ta_oc T X)) Q acc σ')
  | [], m, C, σ, hm, h => by
    obtain ⟨m, rfl⟩ : ∃ m', m = m' + 1 := ⟨m - 1, by omega⟩
    obtain ⟨-, -, -, g4, -⟩ := h.2.2.2 hs
    unfold f_m_comesOut_0
    rw [g4, if_pos (show nI [].length ≤ (0 : Int32) by decide), tw_some]
    refine ⟨tw_fr.rf, ?_⟩
    show ta_ee X T n s d op [] (C ++ []) Q acc σ
    rw [List.append_nil]
    exact h
  | x :: ws, m, C, σ, hm, h => by
    obtain ⟨m, rfl⟩ : ∃ m', m = m' + 1 := ⟨m - 1, by omega⟩
    obtain ⟨g1, g2, g3, g4, ⟨g5, g5'⟩, g6, g7⟩ := h.2.2.2 hs
    have ln := ty_wf_len _ _ g6
    have t2 := ty_tp2 (x :: ws)
    rw [List.length_cons] at ln g4 hm
    have x35 : x = 35 ∨ x = 27 ∨ x = 28 ∨ x = 29 ∨ x = 30 := by
      rcases g6 with ⟨h1, -⟩ | ⟨h1, -⟩ | ⟨h1, -⟩ <;> omega
    have stop : (x = 35 ∨ ¬ (29 ≤ x ∨ sg ≤ 28)) → tw_ok (some σ) (fun σ' => tw_fr (ta_SE X.1) σ σ' ∧ ta_ee X T n s d op (ty_dr sg (x :: ws)).1 (C ++ (ty_dr sg (x :: ws)).2.map (ta_oc T X)) Q acc σ') := fun c => by
      unfold ty_dr
      rw [if_pos c, tw_some]
      refine ⟨tw_fr.rf, ?_⟩
      show ta_ee X T n s d op (x :: ws) (C ++ []) Q acc σ
      rw [List.append_nil]
      exact h
    unfold f_m_comesOut_0
    rw [g4, if_neg (show ¬ nI (ws.length + 1) ≤ (0 : Int32) by rw [show (0 : Int32) = nI 0 from rfl, tw_le (by omega) (by omega)]; omega)]
    have e1 : nI (ws.length + 1) - (1 : Int32) = nI ws.length := tw_sub (a := ws.length + 1) (b := 1) (by omega)
    rw [e1]
    refine tw_g (vp_in_nI (by omega) (by decide)) ?_
    rw [nI_clamp (by omega), g5]
    have s5 := h.2.1.2.2.2.2.1
    have x1 := h.1.2.1.2
    have go : ¬ (x = 35 ∨ ¬ (29 ≤ x ∨ sg ≤ 28)) → tw_ok (f_m_comesOut_42 (f_m_comesOut_0 m) sgn (nI (tw_km x)) σ) (fun σ' => tw_fr (ta_SE X.1) σ σ' ∧ ta_ee X T n s d op (ty_dr sg (x :: ws)).1 (C ++ (ty_dr sg (x :: ws)).2.map (ta_oc T X)) Q acc σ') := by
      intro c
      have c1 : ¬ x = 35 := fun z => c (Or.inl z)
      have bn : ty_bin (x :: ws) = 1 + ty_bin ws := by rw [ty_bin, if_neg c1]
      have hw : ty_wf ws op := by
        rcases g6 with ⟨z1, -⟩ | ⟨-, -, z3⟩ | ⟨-, -, z3⟩
        · exact absurd z1 c1
        · exact z3
        · exact z3
      have f88 : ∀ y : Int32, y = nI (x - 18) → tw_ok (f_m_comesOut_88 (f_m_comesOut_0 m) sgn y (rx_si σ 87 58 (nI ws.length))) (fun σ' => tw_fr (ta_SE X.1) σ σ' ∧ ta_ee X T n s d op (ty_dr sg (x :: ws)).1 (C ++ (ty_dr sg (x :: ws)).2.map (ta_oc T X)) Q acc σ') := by
        intro y hy
        unfold f_m_comesOut_88
        have f58 : tw_fr (fun q j => q = 87 ∧ j = 58) σ (rx_si σ 87 58 (nI ws.length)) := tw_fr.rf.si ⟨rfl, rfl⟩
        refine tw_b ((g1.fr (fun q j a => f58.i (by omega))).em (m := y) (x - 18) (0 : Int32) hy x1 (by omega)) (fun σ1 g => ?_)
        obtain ⟨k1, k2⟩ := g
        have f1 : tw_fr (ta_SE X.1) σ σ1 := (f58.mn (fun q j z => by unfold ta_SE; omega)).tr (k1.mn (fun q j z => by unfold ta_SE; omega))
        have e : ∀ q j, ¬ (q = 87 ∧ (j = 46 ∨ j = 58) ∨ 120 ≤ q ∧ q ≤ 122) → σ1.1 q j = σ.1 q j := fun q j a => (k1.i (by omega)).trans (f58.i (by omega))
        have e58 : σ1.1 87 58 = nI ws.length := by rw [k1.i (by omega)]; exact tw_r1s _ _ _ _
        have k46 := k2.1.1
        rw [List.length_append] at k46
        have ee : ta_ee X T n s d op ws (C ++ [(x - 18, (0 : Int32), nI 0)]) Q acc σ1 := by
          refine ⟨h.1.fr f1, h.2.1.fr (fun j a => e _ _ (by omega)), ⟨C.length + 1, ws.length, k46, e58, by omega, by omega⟩, fun _ => ⟨k2, ?_, (e _ _ (by omega)).trans g3, e58, g5'.fr ws (fun j _ => e _ _ (by omega)), hw, g7⟩⟩
          rw [List.length_append]
          show C.length + 1 + Q.length + d + ty_bin ws ≤ s.2
          omega
        refine tw_mono (ta_coG (sg := sg) hs hsg ws m _ σ1 (by omega) ee) (fun σ' k => ⟨f1.tr k.1, ?_⟩)
        have k2 := k.2
        unfold ty_dr
        rw [if_neg c, List.map_cons, ta_oc_s (show x - 18 ≠ 0 ∧ x - 18 ≠ 1 ∧ x - 18 ≠ 6 by omega)]
        rw [List.append_assoc] at k2
        exact k2
      unfold f_m_comesOut_42
      rw [g4, e1]
      rcases x35 with rfl | rfl | rfl | rfl | rfl
      · exact absurd rfl c1
      · exact f88 _ rfl
      · exact f88 _ rfl
      · exact f88 _ rfl
      · exact f88 _ rfl
    have kx : ∀ k, k < 60 → (nI (tw_km x) = nI k) = (tw_km x = k) := fun k hk => by
      have := (tw_km_b x (by omega)).1
      exact tw_eq (by omega) (by omega)
    rcases x35 with rfl | rfl | rfl | rfl | rfl
    · exact stop (Or.inl rfl)
    · show tw_ok (if sgn = (0 : Int32) then f_m_comesOut_42 (f_m_comesOut_0 m) sgn (nI (tw_km 27)) σ else some σ) _
      rw [tw_ifE hsg]
      by_cases c : sg ≤ 28
      · rw [if_pos c]; exact go (fun z => by omega)
      · rw [if_neg c]; exact stop (by omega)
    · show tw_ok (if sgn = (0 : Int32) then f_m_comesOut_42 (f_m_comesOut_0 m) sgn (nI (tw_km 28)) σ else some σ) _
      rw [tw_ifE hsg]
      by_cases c : sg ≤ 28
      · rw [if_pos c]; exact go (fun z => by omega)
      · rw [if_neg c]; exact stop (by omega)
    · show tw_ok (if sgn = (0 : Int32) then f_m_comesOut_42 (f_m_comesOut_0 m) sgn (nI (tw_km 29)) σ else f_m_comesOut_42 (f_m_comesOut_0 m) sgn (nI (tw_km 29)) σ) _
      exact tw_ite (fun _ => go (fun z => by omega)) (fun _ => go (fun z => by omega))
    · show tw_ok (if sgn = (0 : Int32) then f_m_comesOut_42 (f_m_comesOut_0 m) sgn (nI (tw_km 30)) σ else f_m_comesOut_42 (f_m_comesOut_0 m) sgn (nI (tw_km 30)) σ) _
      exact tw_ite (fun _ => go (fun z => by omega)) (fun _ => go (fun z => by omega))
/-- what has come of an E so far -/
def ta_eo (X : ta_X) (T : List tw_Tk) (n : Nat) (s : ty_Ps) (d op : Nat) (ws : List Nat) (C : List tz_Cd) (Q : List ta_Qu) (acc : Option (Nat × Nat)) (o : List ty_Uo) (σ : rx_St) : Prop := ta_ee X T n s d op ws (C ++ o.map (ta_oc T X)) (Q ++ ta_oqs X C.length o) (ty_mn T n acc (o.flatMap (ta_oe T X))) σ
theorem ta_eo.co {s : ty_Ps} {d op sg : Nat} {sgn : Int32} {ws : List Nat} {C : List tz_Cd} {Q : List ta_Qu} {acc : Option (Nat × Nat)} {o : List ty_Uo} {σ : rx_St} (hsg : (sgn = (0 : Int32)) = (sg ≤ 28)) (h : ta_eo X T n s d op ws C Q acc o σ) : tw_ok (f_m_comesOut sgn σ) (fun σ' => tw_fr (ta_SE X.1) σ σ' ∧ ta_eo X T n s d op (ty_dr sg ws).1 C Q acc (o ++ (ty_dr sg ws).2) σ') := by
  unfold f_m_comesOut
  by_cases z : s.1 = 0
  · obtain ⟨-, -, -, -, -, g6, g7⟩ := h.2.2.2 z
    have ln := ty_wf_len _ _ g6
    have t2 := ty_tp2 ws
    refine tw_mono (ta_coG (sg := sg) z hsg ws rx_fu _ σ (by show _ < 100000; omega) h) (fun σ' g => ⟨g.1, ?_⟩)
    have g2 := g.2
    have d9 := ty_dr_9 sg ws op g6
    unfold ta_eo
    rw [ta_oqs_app, ta_oqs_9 (ty_dr sg ws).2 _ d9, List.append_nil, List.flatMap_append, ta_oes_9 (ty_dr sg ws).2 d9, List.append_nil, List.map_append, ← List.append_assoc]
    exact g2
  · obtain ⟨h1, h2, ⟨c, q, r1, r2, r3, r4⟩, -⟩ := h
    refine tw_mono (ta_coF z rx_fu q σ (by show _ < 100000; omega) h1 h2 ⟨c, r1, r3⟩ r2 r4) (fun σ' g => ?_)
    obtain ⟨k1, k2, k3, k4⟩ := g
    exact ⟨k1, k2, k3, k4, fun y => absurd y z⟩
end TAX
