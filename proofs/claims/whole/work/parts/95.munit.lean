/-! THE MODEL READS: a UNIT, all sorts -/
theorem tw_km_37 : ∀ k, k < 39 → ((tw_km k < 37 ∨ 39 < tw_km k) ∨ (tw_km k = k + 20 ∧ (k = 17 ∨ k = 18 ∨ k = 19))) ∧ (k = 17 ∨ k = 18 ∨ k = 19 → tw_km k = k + 20) := by decide +kernel
section TAW
variable {X : ta_X} {T : List tw_Tk} {n : Nat}
/-- emitting where something is amiss -/
theorem ta_ee.eb {s s' : ty_Ps} {d op : Nat} {ws : List Nat} {C C' : List tz_Cd} {Q Q' : List ta_Qu} {acc acc' : Option (Nat × Nat)} {σ τ : rx_St} (a b : Int32) (hs : s.1 = 0) (hs' : ¬ s'.1 = 0) (h : ta_ee X T n s d op ws C Q acc σ) (f : tw_fr ta_S1 σ τ) (r : tm_rs T n s' τ) : tw_ok (f_m_emit a b τ) (fun σ' => tw_fr (ta_SE X.1) σ σ' ∧ ta_ee X T n s' d op ws C' Q' acc' σ') := by
  obtain ⟨h1, h2, -, h4⟩ := h
  obtain ⟨g1, g2, g3, g4, g5, g6, g7⟩ := h4 hs
  have s5 := h2.2.2.2.2.1
  have x1 := h1.2.1.2
  have ln := ty_wf_len _ _ g6
  have t2 := ty_tp2 ws
  have e46 : τ.1 87 46 = nI (700 * X.1 + C.length) := (f.i (by unfold ta_S1; omega)).trans g1.1.1
  refine tw_mono (ta_emit0 a b x1 e46 (by omega)) (fun σ' g => ?_)
  obtain ⟨k1, k2, -⟩ := g
  have fE : tw_fr (ta_SE X.1) τ σ' := k1.mn (fun q j z => by unfold ta_SE; omega)
  have fA := (f.mn (ta_S1E X.1)).tr fE
  exact ⟨fA, h1.fr fA, r.fr (fun j a => k1.i (by omega)), ⟨C.length + 1, ws.length, k2, ((k1.i (by omega)).trans (f.i (by unfold ta_S1; omega))).trans g4, by omega, by omega⟩, fun z => absurd z hs'⟩
theorem ta_ui.nil {s s' : ty_Ps} {d op : Nat} {ws : List Nat} {C : List tz_Cd} {Q : List ta_Qu} {acc : Option (Nat × Nat)} {σ σ' : rx_St} (f : tw_fr (ta_SE X.1) σ σ') (h : ta_ee X T n s' d op ws C Q acc σ') : ta_ui X T n s d op ws C Q acc (s', []) σ σ' := by
  refine ⟨f, ?_⟩
  show ta_ee X T n s' d op ws (C ++ []) (Q ++ []) acc σ'
  rw [List.append_nil, List.append_nil]
  exact h
/-- a lot -/
theorem ta_unit40 {s : ty_Ps} {d op : Nat} {ws : List Nat} {C : List tz_Cd} {Q : List ta_Qu} {acc : Option (Nat × Nat)} {σ : rx_St} (hP : ∀ i, ty_Pl T n i ≤ 2000) (hs : s.1 = 0) (hK : ty_K T s.2 = 20) (h : ta_ee X T n s d op ws C Q acc σ) : tw_ok ((f_m_next σ).bind fun y5 => if (y5.1 87 13) ≤ (0 : Int32) then (rx_g (y5.1 87 11) 503 (f_m_unit_272 (y5.1 87 11) (y5.1 92 (y5.1 87 11).toNatClampNeg) y5)) else f_m_unit_272 (y5.1 87 11) (0 : Int32) y5) (ta_ui X T n s d op ws C Q acc (ty_tkn T 24 (ty_tkn T 20 s), [(6, (ty_tkn T 20 s).2, 0)]) σ) := by
  refine tw_b (h.nx 20 (by omega) (fun _ => hK)) (fun σ1 g => ?_)
  obtain ⟨f1, g1⟩ := g
  rw [tw_ifE g1.2.1.l]
  -- where it is amiss
  have amiss : ∀ (v3 s0 : Int32), ¬ (ty_tkn T 24 (ty_tkn T 20 s)).1 = 0 → tw_ok (f_m_unit_272 v3 s0 σ1) (ta_ui X T n s d op ws C Q acc (ty_tkn T 24 (ty_tkn T 20 s), [(6, (ty_tkn T 20 s).2, 0)]) σ) := by
    intro v3 s0 z
    unfold f_m_unit_272
    refine tw_b (g1.mu (m := (2 : Int32)) 24 rfl (by omega)) (fun σ2 g => ?_)
    obtain ⟨f2, g2⟩ := g
    rw [tw_ifE g2.2.1.z, if_neg z]
    unfold f_m_unit_297
    refine tw_b (h.eb (C' := C ++ [(6, (ty_tkn T 20 s).2, 0)].map (ta_oc T X)) (Q' := Q ++ ta_oqs X C.length [(6, (ty_tkn T 20 s).2, 0)]) (acc' := ty_mn T n acc ([(6, (ty_tkn T 20 s).2, 0)].flatMap (ta_oe T X))) (6 : Int32) s0 hs z (f1.tr f2) g2.2.1) (fun σ3 g => ?_)
    rw [tw_some]
    exact g
  by_cases z1 : (ty_tkn T 20 s).1 = 0
  · obtain ⟨p1, p2, p3⟩ := g1.2.1.p z1
    rw [if_pos z1, p1]
    refine tw_g (vp_in_nI (by omega) (by decide)) ?_
    rw [nI_clamp (by omega)]
    by_cases z2 : (ty_tkn T 24 (ty_tkn T 20 s)).1 = 0
    · obtain ⟨-, k24, -, -⟩ := ty_tkn_0 z2
      obtain ⟨v1, v2⟩ := tm_val g1.1.1 k24 p2
      rw [v1]
      unfold f_m_unit_272
      refine tw_b (g1.mu (m := (2 : Int32)) 24 rfl (by omega)) (fun σ2 g => ?_)
      obtain ⟨f2, g2⟩ := g
      rw [tw_ifE g2.2.1.z, if_pos z2, tw_ifE (show (nI (ty_V T (ty_tkn T 20 s).2) = (0 : Int32)) = (ty_V T (ty_tkn T 20 s).2 = 0) from tw_eq (b := 0) (by omega) (by omega))]
      have fA : tw_fr (ta_SE X.1) σ σ2 := (f1.tr f2).mn (ta_S1E X.1)
      have last : ∀ (acc' : Option (Nat × Nat)) (τ : rx_St), tw_fr (ta_SE X.1) σ τ → ta_ee X T n (ty_tkn T 24 (ty_tkn T 20 s)) (d + 1 + 1) op ws C Q acc' τ → acc' = ty_mn T n acc (ta_oe T X (6, (ty_tkn T 20 s).2, 0)) → tw_ok (f_m_unit_297 (nI (ty_V T (ty_tkn T 20 s).2)) τ) (ta_ui X T n s d op ws C Q acc (ty_tkn T 24 (ty_tkn T 20 s), [(6, (ty_tkn T 20 s).2, 0)]) σ) := by
        intro acc' τ fτ hτ e
        unfold f_m_unit_297
        refine tw_b (hτ.em (m := (6 : Int32)) 6 (nI (ty_V T (ty_tkn T 20 s).2)) rfl z2) (fun σ3 g => ?_)
        rw [tw_some]
        refine ⟨fτ.tr g.1, ?_⟩
        have g2 := g.2.sel (d' := d) (by omega)
        rw [e] at g2
        show ta_ee X T n (ty_tkn T 24 (ty_tkn T 20 s)) d op ws (C ++ [ta_oc T X (6, (ty_tkn T 20 s).2, 0)]) (Q ++ []) (ty_mn T n acc (ta_oe T X (6, (ty_tkn T 20 s).2, 0) ++ [])) σ3
        rw [List.append_nil, List.append_nil]
        exact g2
      by_cases v0 : ty_V T (ty_tkn T 20 s).2 = 0
      · rw [if_pos v0]
        refine tw_b (g2.wr (m := (5 : Int32)) 5 (ty_tkn T 20 s).2 rfl hP z2 p2 p3 (by omega) (by omega)) (fun σ3 g => ?_)
        refine last _ σ3 (fA.tr g.1) g.2 ?_
        unfold ta_oe
        rw [if_neg (show ¬ 6 = 1 by decide), if_pos rfl, if_pos v0]
        rfl
      · rw [if_neg v0]
        refine last _ σ2 fA g2 ?_
        unfold ta_oe
        rw [if_neg (show ¬ 6 = 1 by decide), if_pos rfl, if_neg v0]
        rfl
    · exact amiss _ _ z2
  · rw [if_neg z1]
    exact amiss _ _ (fun y => z1 (ty_tkn_0 y).1)
theorem ta_unit234 {s : ty_Ps} {d op : Nat} {ws : List Nat} {C : List tz_Cd} {Q : List ta_Qu} {acc : Option (Nat × Nat)} {σ : rx_St} (hP : ∀ i, ty_Pl T n i ≤ 2000) (h17 : ty_nx T s ≠ 24 ∧ ty_nx T s ≠ 23 ∧ ty_nx T s ≠ 17 ∧ ty_nx T s ≠ 18 ∧ ty_nx T s ≠ 19) (h : ta_ee X T n s d op ws C Q acc σ) : tw_ok (f_m_unit_234 σ) (ta_ui X T n s d op ws C Q acc (ty_eU T s) σ) := by
  have K : ∀ k, k < 38 → ty_nx T s = k → s.1 = 0 ∧ ty_K T s.2 = k := fun k hk e => by
    have z := ty_nx_0 (T := T) (s := s) (by omega)
    exact ⟨z.1, by rw [← z.2]; exact e⟩
  unfold ty_eU
  rw [if_neg h17.1, if_neg h17.2.1, if_neg h17.2.2.1, if_neg h17.2.2.2.1, if_neg h17.2.2.2.2]
  unfold f_m_unit_234
  rw [tm_is (m := (40 : Int32)) 20 rfl (by omega) h.1.1 h.2.1, Option.bind_some, tm_ifz]
  by_cases c20 : ty_nx T s = 20
  · rw [if_pos c20, if_pos c20]
    exact ta_unit40 hP (K 20 (by omega) c20).1 (K 20 (by omega) c20).2 h
  rw [if_neg c20, if_neg c20, tm_is (m := (41 : Int32)) 21 rfl (by omega) h.1.1 h.2.1, Option.bind_some, tm_ifz]
  by_cases c21 : ty_nx T s = 21
  · rw [if_pos c21, if_neg (by omega), if_pos c21]
    exact ta_unit326 true (K 21 (by omega) c21).1 c21 h
  rw [if_neg c21, tm_is (m := (42 : Int32)) 22 rfl (by omega) h.1.1 h.2.1, Option.bind_some, tm_ifz]
  by_cases c22 : ty_nx T s = 22
  · rw [if_pos c22, if_pos c22]
    exact ta_unit326 false (K 22 (by omega) c22).1 c22 h
  rw [if_neg c22, if_neg c22, if_neg c21]
  refine tw_b (tm_fail (m := (1 : Int32)) 1 rfl (by omega) (by omega) h.1.1 h.2.1) (fun σ1 g => ?_)
  rw [tw_some]
  have e : ty_tkn T 23 s = if s.1 = 0 then (1, s.2) else s := by
    unfold ty_tkn
    by_cases d : s.1 = 0
    · rw [if_pos d, if_pos d, if_neg (fun z => h17.2.1 (by unfold ty_nx; rw [if_pos d]; exact z))]
    · rw [if_neg d, if_neg d]
  refine ta_ui.nil (g.1.mn (ta_S1E X.1)) ?_
  rw [e]
  refine h.of1 g.1 g.2 (fun z => ?_)
  by_cases d : s.1 = 0
  · rw [if_pos d] at z; exact absurd (show 1 = 0 from z) (by decide)
  · rw [if_neg d] at z; exact absurd z d
theorem ta_unit {s : ty_Ps} {d op : Nat} {ws : List Nat} {C : List tz_Cd} {Q : List ta_Qu} {acc : Option (Nat × Nat)} {σ : rx_St} (hP : ∀ i, ty_Pl T n i ≤ 2000) (h : ta_ee X T n s d op ws C Q acc σ) : tw_ok (f_m_unit σ) (ta_ui X T n s d op ws C Q acc (ty_eU T s) σ) := by
  unfold f_m_unit
  rw [tw_ifE h.2.1.l]
  by_cases z : s.1 = 0
  · obtain ⟨p1, p2, p3⟩ := h.2.1.p z
    obtain ⟨k1, -, k3⟩ := h.1.1.K p2 p3
    rw [if_pos z, p1]
    refine tw_g (vp_in_nI (by omega) (by decide)) ?_
    rw [nI_clamp (by omega), k1]
    have nx : ty_nx T s = ty_K T s.2 := if_pos z
    unfold f_m_unit_20
    rw [tm_is (m := (2 : Int32)) 24 rfl (by omega) h.1.1 h.2.1, Option.bind_some, tm_ifz]
    by_cases c24 : ty_nx T s = 24
    · rw [if_pos c24, p1]
      refine tw_g (vp_in_nI (by omega) (by decide)) ?_
      rw [nI_clamp (by omega), (tm_val h.1.1 (by rw [← nx]; exact c24) p2).1]
      refine tw_mono (ta_leaf (m := (0 : Int32)) 24 0 rfl (by omega) z (by rw [← nx]; exact c24) tw_fr.rf h) (fun σ' g => ?_)
      unfold ty_eU
      rw [if_pos c24]
      refine ⟨g.1, ?_⟩
      show ta_ee X T n (ty_tkn T 24 s) d op ws (C ++ [ta_oc T X (0, ty_V T s.2, 0)]) (Q ++ []) acc σ'
      rw [List.append_nil]
      exact g.2
    rw [if_neg c24, tm_is (m := (1 : Int32)) 23 rfl (by omega) h.1.1 h.2.1, Option.bind_some, tm_ifz]
    by_cases c23 : ty_nx T s = 23
    · rw [if_pos c23, p1]
      have hK : ty_K T s.2 = 23 := by rw [← nx]; exact c23
      refine tw_g (vp_in_nI (by omega) (by decide)) ?_
      rw [nI_clamp (by omega)]
      obtain ⟨e93, n2, n3, n4⟩ := tm_nameK h.1.1 hK p2
      rw [e93, h.1.2.2.1.1, ta_varOf h.1.2.2.1.2 h.1.2.2.2.2 h.1.1.2 n2 n3, Option.bind_some]
      have b6 : X.2.2.1.length ≤ 6 := h.1.2.2.2.1.2.1
      have v6 : X.2.2.2.length ≤ 6 := h.1.2.2.2.2.2.1
      have fs : ∀ j, ty_fi T (ty_Lt T s.2) X.2.2.1 0 = some j → j < 1000 := fun j hj => by have := (ty_fi_lt _ _ _ hj).2; omega
      have fv : ∀ j, ty_fi T (ty_Lt T s.2) X.2.2.2 0 = some j → j < 1000 := fun j hj => by have := (ty_fi_lt _ _ _ hj).2; omega
      have no : ∀ o, o < 1000 → ¬ nI o = (-1 : Int32) := fun o ho z => by
        have z' : nI o = -nI 1 := z
        rw [tw_m1 (by omega)] at z'
        exact z'.elim
      -- the code, whatever was amiss
      have last : ∀ (op' : Nat) (b : Int32) (m : Int32) (acc' : Option (Nat × Nat)) (τ : rx_St), m = nI op' → tw_fr (ta_SE X.1) σ τ → ta_ee X T n s d op ws C Q acc' τ → ta_oc T X (1, s.2, 0) = (op', b, nI 0) → acc' = ty_mn T n acc (ta_oe T X (1, s.2, 0)) → tw_ok (f_m_unit_194 m b τ) (ta_ui X T n s d op ws C Q acc (ty_eU T s) σ) := by
        intro op' b m acc' τ hm fτ hτ e1 e2
        unfold f_m_unit_194
        refine tw_mono (ta_leaf (b := b) 23 op' hm (by omega) z hK fτ hτ) (fun σ' g => ?_)
        unfold ty_eU
        rw [if_neg c24, if_pos c23]
        refine ⟨g.1, ?_⟩
        show ta_ee X T n (ty_tkn T 23 s) d op ws (C ++ [ta_oc T X (1, s.2, 0)]) (Q ++ []) (ty_mn T n acc (ta_oe T X (1, s.2, 0) ++ [])) σ'
        rw [List.append_nil, List.append_nil, e1, ← e2]
        exact g.2
      have o1 : ta_oc T X (1, s.2, 0) = (ty_fi T (ty_Lt T s.2) X.2.2.2 0).elim (2, nI ((ty_fi T (ty_Lt T s.2) X.2.2.1 0).getD 0), nI 0) (fun o => (1, nI o, nI 0)) := by
        unfold ta_oc
        rw [if_neg (show ¬ 1 = 0 by decide), if_pos rfl]
      have o2 : ta_oe T X (1, s.2, 0) = if ty_fi T (ty_Lt T s.2) X.2.2.2 0 = none ∧ ty_fi T (ty_Lt T s.2) X.2.2.1 0 = none then [(4, s.2)] else [] := by
        unfold ta_oe
        rw [if_pos rfl]
      refine ta_unit87 z rfl hK h ?_
      cases c1 : ty_fi T (ty_Lt T s.2) X.2.2.2 0 with
      | some o =>
        rw [c1] at o1 o2
        have n1 := no o (fv o c1)
        show tw_ok (if nI o = (-1 : Int32) then _ else f_m_unit_162 (nI o) (tw_en (-nI 1) (ty_fi T (ty_Lt T s.2) X.2.2.1 0)) σ) _
        rw [if_neg n1]
        unfold f_m_unit_162 f_m_unit_173
        rw [if_neg n1, if_neg n1]
        exact last 1 (nI o) (1 : Int32) acc σ rfl tw_fr.rf h o1 (by rw [o2, if_neg (fun y => by cases y.1)]; rfl)
      | none =>
        rw [c1] at o1 o2
        show tw_ok (if -nI 1 = (-1 : Int32) then (if tw_en (-nI 1) (ty_fi T (ty_Lt T s.2) X.2.2.1 0) = (-1 : Int32) then ((f_m_wrong (4 : Int32) (nI s.2) σ).bind fun y1 => f_m_unit_162 (-nI 1) (tw_en (-nI 1) (ty_fi T (ty_Lt T s.2) X.2.2.1 0)) y1) else f_m_unit_162 (-nI 1) (tw_en (-nI 1) (ty_fi T (ty_Lt T s.2) X.2.2.1 0)) σ) else _) _
        rw [if_pos (show -nI 1 = (-1 : Int32) from rfl)]
        cases c2 : ty_fi T (ty_Lt T s.2) X.2.2.1 0 with
        | some o =>
          rw [c2] at o1 o2
          have n1 := no o (fs o c2)
          show tw_ok (if nI o = (-1 : Int32) then _ else f_m_unit_162 (-nI 1) (nI o) σ) _
          rw [if_neg n1]
          unfold f_m_unit_162 f_m_unit_173
          rw [if_pos (show -nI 1 = (-1 : Int32) from rfl), if_pos (show -nI 1 = (-1 : Int32) from rfl), if_neg n1]
          exact last 2 (nI o) (2 : Int32) acc σ rfl tw_fr.rf h o1 (by rw [o2, if_neg (fun y => by cases y.2)]; rfl)
        | none =>
          rw [c2] at o1 o2
          show tw_ok (if -nI 1 = (-1 : Int32) then ((f_m_wrong (4 : Int32) (nI s.2) σ).bind fun y1 => f_m_unit_162 (-nI 1) (-nI 1) y1) else _) _
          rw [if_pos (show -nI 1 = (-1 : Int32) from rfl)]
          refine tw_b (h.wr (m := (4 : Int32)) 4 s.2 rfl hP z p2 p3 (by omega) (by omega)) (fun σ1 g => ?_)
          unfold f_m_unit_162 f_m_unit_173
          rw [if_pos (show -nI 1 = (-1 : Int32) from rfl), if_pos (show -nI 1 = (-1 : Int32) from rfl), if_pos (show -nI 1 = (-1 : Int32) from rfl)]
          exact last 2 (nI 0) (2 : Int32) _ σ1 rfl g.1 g.2 o1 (by rw [o2, if_pos ⟨rfl, rfl⟩]; rfl)
    rw [if_neg c23]
    have km := tw_km_37 (ty_K T s.2) (by omega)
    have kb := tw_km_b (ty_K T s.2) (by omega)
    rw [tw_ifE (show (nI (tw_km (ty_K T s.2)) < (37 : Int32)) = (tw_km (ty_K T s.2) < 37) from tw_lt (b := 37) (by omega) (by omega)), tw_ifE (show ((39 : Int32) < nI (tw_km (ty_K T s.2))) = (39 < tw_km (ty_K T s.2)) from tw_lt (a := 39) (by omega) (by omega))]
    have leaf : ∀ k, k = 17 ∨ k = 18 ∨ k = 19 → ty_nx T s = k → tw_ok (if tw_km (ty_K T s.2) < 37 then f_m_unit_234 σ else if 39 < tw_km (ty_K T s.2) then f_m_unit_234 σ else ((f_m_emit ((nI (tw_km (ty_K T s.2)) - (37 : Int32)) + (3 : Int32)) (0 : Int32) σ).bind fun y3 => (f_m_next y3).bind fun y4 => some y4)) (ta_ui X T n s d op ws C Q acc (ty_tkn T k s, [(k - 14, s.2, 0)]) σ) := by
      intro k hk e
      have eK : ty_K T s.2 = k := by rw [← nx]; exact e
      have e20 := km.2 (by omega)
      rw [e20, eK, if_neg (by omega), if_neg (by omega), show nI (k + 20) - (37 : Int32) + (3 : Int32) = nI (k - 14) by
        rw [show (37 : Int32) = nI 37 from rfl, tw_sub (by omega), show (3 : Int32) = nI 3 from rfl, nI_add, show k + 20 - 37 + 3 = k - 14 by omega]]
      refine tw_mono (ta_leaf (m := nI (k - 14)) k (k - 14) rfl (by omega) z eK tw_fr.rf h) (fun σ' g => ?_)
      refine ⟨g.1, ?_⟩
      show ta_ee X T n (ty_tkn T k s) d op ws (C ++ [ta_oc T X (k - 14, s.2, 0)]) (Q ++ (ta_oq X C.length (k - 14, s.2, 0) ++ [])) (ty_mn T n acc (ta_oe T X (k - 14, s.2, 0) ++ [])) σ'
      rw [ta_oc_s (show k - 14 ≠ 0 ∧ k - 14 ≠ 1 ∧ k - 14 ≠ 6 by omega), ta_oe_s (show k - 14 ≠ 1 ∧ k - 14 ≠ 6 by omega), ta_oq_s (show k - 14 ≠ 7 ∧ k - 14 ≠ 8 by omega), List.append_nil, List.append_nil]
      exact g.2
    by_cases c17 : ty_nx T s = 17
    · unfold ty_eU
      rw [if_neg c24, if_neg c23, if_pos c17]
      exact leaf 17 (by omega) c17
    by_cases c18 : ty_nx T s = 18
    · unfold ty_eU
      rw [if_neg c24, if_neg c23, if_neg c17, if_pos c18]
      exact leaf 18 (by omega) c18
    by_cases c19 : ty_nx T s = 19
    · unfold ty_eU
      rw [if_neg c24, if_neg c23, if_neg c17, if_neg c18, if_pos c19]
      exact leaf 19 (by omega) c19
    have r := ta_unit234 hP ⟨c24, c23, c17, c18, c19⟩ h
    by_cases l1 : tw_km (ty_K T s.2) < 37
    · rw [if_pos l1]; exact r
    · rw [if_neg l1]
      by_cases l2 : 39 < tw_km (ty_K T s.2)
      · rw [if_pos l2]; exact r
      · omega
  · have nx : ty_nx T s = 38 := ty_nx_f z
    rw [if_neg z]
    unfold f_m_unit_20
    rw [tm_is (m := (2 : Int32)) 24 rfl (by omega) h.1.1 h.2.1, Option.bind_some, tm_ifz, if_neg (by omega), tm_is (m := (1 : Int32)) 23 rfl (by omega) h.1.1 h.2.1, Option.bind_some, tm_ifz, if_neg (by omega), if_pos (by decide)]
    exact ta_unit234 hP ⟨by omega, by omega, by omega, by omega, by omega⟩ h
end TAW
