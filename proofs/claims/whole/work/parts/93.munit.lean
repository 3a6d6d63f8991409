/-! THE MODEL READS: a UNIT -/
def ta_wt (σ : rx_St) : List Nat → Prop
  | [] => True
  | x :: ws => σ.1 128 ws.length = nI (tw_km x) ∧ ta_wt σ ws
theorem ta_wt.fr {σ σ' : rx_St} : ∀ (ws : List Nat), (∀ j, j < ws.length → σ'.1 128 j = σ.1 128 j) → ta_wt σ ws → ta_wt σ' ws
  | [], _, _ => trivial
  | x :: ws, h, ⟨h1, h2⟩ => ⟨by rw [h _ (by rw [List.length_cons]; omega)]; exact h1, ta_wt.fr ws (fun j hj => h j (by rw [List.length_cons]; omega)) h2⟩
/-- in an E -/
def ta_ee (X : ta_X) (T : List tw_Tk) (n : Nat) (s : ty_Ps) (d op : Nat) (ws : List Nat) (C : List tz_Cd) (Q : List ta_Qu) (acc : Option (Nat × Nat)) (σ : rx_St) : Prop := ta_cx X T n σ ∧ tm_rs T n s σ ∧ (∃ c q, σ.1 87 46 = nI (700 * X.1 + c) ∧ σ.1 87 58 = nI q ∧ c + q ≤ 530 ∧ q ≤ 30) ∧ (s.1 = 0 → ta_gd X.1 T n C Q acc σ ∧ C.length + Q.length + d + ty_bin ws ≤ s.2 ∧ σ.1 87 12 = nI op ∧ σ.1 87 58 = nI ws.length ∧ ta_wt σ ws ∧ ty_wf ws op ∧ op ≤ 6)
/-- the code of what the class has -/
def ta_oc (T : List tw_Tk) (X : ta_X) (x : ty_Uo) : tz_Cd :=
  if x.1 = 0 then (0, nI x.2.1, nI 0)
  else if x.1 = 1 then (ty_fi T (ty_Lt T x.2.1) X.2.2.2 0).elim (2, nI ((ty_fi T (ty_Lt T x.2.1) X.2.2.1 0).getD 0), nI 0) (fun o => (1, nI o, nI 0))
  else if x.1 = 6 then (6, nI (ty_V T x.2.1), nI 0)
  else (x.1, nI 0, nI 0)
def ta_oe (T : List tw_Tk) (X : ta_X) (x : ty_Uo) : List (Nat × Nat) :=
  if x.1 = 1 then (if ty_fi T (ty_Lt T x.2.1) X.2.2.2 0 = none ∧ ty_fi T (ty_Lt T x.2.1) X.2.2.1 0 = none then [(4, x.2.1)] else [])
  else if x.1 = 6 then (if ty_V T x.2.1 = 0 then [(5, x.2.1)] else [])
  else []
def ta_oq (X : ta_X) (p : Nat) (x : ty_Uo) : List ta_Qu := if x.1 = 7 then [(0, 700 * X.1 + p, X.2.1, x.2.1, x.2.2)] else if x.1 = 8 then [(1, 700 * X.1 + p, X.2.1, x.2.1, 0)] else []
def ta_oqs (X : ta_X) : Nat → List ty_Uo → List ta_Qu
  | _, [] => []
  | p, x :: o => ta_oq X p x ++ ta_oqs X (p + 1) o
theorem ta_oqs_app (X : ta_X) : ∀ (a b : List ty_Uo) (p : Nat), ta_oqs X p (a ++ b) = ta_oqs X p a ++ ta_oqs X (p + a.length) b
  | [], b, p => rfl
  | x :: a, b, p => by rw [List.cons_append, ta_oqs, ta_oqs, ta_oqs_app X a b, List.append_assoc, List.length_cons, show p + 1 + a.length = p + (a.length + 1) by omega]
section TAU
variable {X : ta_X} {T : List tw_Tk} {n : Nat}
theorem ta_S1E (lv : Nat) : ∀ q j, ta_S1 q j → ta_SE lv q j := fun q j h => by unfold ta_S1 at h; unfold ta_SE; omega
/-- going on, with the code kept -/
theorem ta_ee.of1 {s s' : ty_Ps} {d d' op : Nat} {ws : List Nat} {C : List tz_Cd} {Q : List ta_Qu} {acc : Option (Nat × Nat)} {σ σ' : rx_St} (h : ta_ee X T n s d op ws C Q acc σ) (f : tw_fr ta_S1 σ σ') (r : tm_rs T n s' σ') (z : s'.1 = 0 → s.1 = 0 ∧ s.2 + d' ≤ s'.2 + d) : ta_ee X T n s' d' op ws C Q acc σ' := by
  obtain ⟨h1, h2, ⟨c, q, r1, r2, r3, r4⟩, h4⟩ := h
  refine ⟨h1.fr (f.mn (ta_S1E _)), r, ⟨c, q, (f.i (by unfold ta_S1; omega)).trans r1, (f.i (by unfold ta_S1; omega)).trans r2, r3, r4⟩, fun y => ?_⟩
  obtain ⟨z1, z2⟩ := z y
  obtain ⟨g1, g2, g3, g4, g5, g6, g7⟩ := h4 z1
  exact ⟨g1.fr (fun q j a => f.i (by unfold ta_S1; omega)), by omega, (f.i (by unfold ta_S1; omega)).trans g3, (f.i (by unfold ta_S1; omega)).trans g4, g5.fr ws (fun j _ => f.i (by unfold ta_S1; omega)), g6, g7⟩
theorem ta_ee.mu {s : ty_Ps} {d op : Nat} {ws : List Nat} {C : List tz_Cd} {Q : List ta_Qu} {acc : Option (Nat × Nat)} {σ : rx_St} {m : Int32} (k : Nat) (hm : m = nI (tw_km k)) (hk : k < 37) (h : ta_ee X T n s d op ws C Q acc σ) : tw_ok (f_m_must m σ) (fun σ' => tw_fr ta_S1 σ σ' ∧ ta_ee X T n (ty_tkn T k s) (d + 1) op ws C Q acc σ') := by
  refine tw_mono (tm_must k hm hk h.1.1 h.2.1) (fun σ' g => ⟨g.1, h.of1 g.1 g.2 (fun z => ?_)⟩)
  obtain ⟨a, -, -, b⟩ := ty_tkn_0 z
  exact ⟨a, by omega⟩
theorem ta_ee.nx {s : ty_Ps} {d op : Nat} {ws : List Nat} {C : List tz_Cd} {Q : List ta_Qu} {acc : Option (Nat × Nat)} {σ : rx_St} (k : Nat) (hk : k ≠ 37) (hs : s.1 = 0 → ty_K T s.2 = k) (h : ta_ee X T n s d op ws C Q acc σ) : tw_ok (f_m_next σ) (fun σ' => tw_fr ta_S1 σ σ' ∧ ta_ee X T n (ty_tkn T k s) (d + 1) op ws C Q acc σ') := by
  refine tw_mono (tm_next k hk hs h.1.1 h.2.1) (fun σ' g => ⟨g.1, h.of1 g.1 g.2 (fun z => ?_)⟩)
  obtain ⟨a, -, -, b⟩ := ty_tkn_0 z
  exact ⟨a, by omega⟩
/-- emitting where nothing is amiss; the TOKEN may be taken before or behind -/
theorem ta_ee.em {s : ty_Ps} {d op : Nat} {ws : List Nat} {C : List tz_Cd} {Q : List ta_Qu} {acc : Option (Nat × Nat)} {σ : rx_St} {m : Int32} (k : Nat) (b : Int32) (hm : m = nI k) (hs : s.1 = 0) (h : ta_ee X T n s (d + 1) op ws C Q acc σ) : tw_ok (f_m_emit m b σ) (fun σ' => tw_fr (ta_SE X.1) σ σ' ∧ ta_ee X T n s d op ws (C ++ [(k, b, nI 0)]) Q acc σ') := by
  obtain ⟨h1, h2, ⟨c, q, r1, r2, r3, r4⟩, h4⟩ := h
  obtain ⟨g1, g2, g3, g4, g5, g6, g7⟩ := h4 hs
  have s5 := h2.2.2.2.2.1
  have x1 := h1.2.1.2
  have ln := ty_wf_len _ _ g6
  have t2 := ty_tp2 ws
  refine tw_mono (g1.em k b hm x1 (by omega)) (fun σ' g => ?_)
  obtain ⟨k1, k2⟩ := g
  have fE : tw_fr (ta_SE X.1) σ σ' := k1.mn (fun q j z => by unfold ta_SE; omega)
  refine ⟨fE, h1.fr fE, h2.fr (fun j a => k1.i (by omega)), ⟨C.length + 1, ws.length, ?_, (k1.i (by omega)).trans g4, by omega, by omega⟩, fun _ => ⟨k2, ?_, (k1.i (by omega)).trans g3, (k1.i (by omega)).trans g4, g5.fr ws (fun j _ => k1.i (by omega)), g6, g7⟩⟩
  · have := k2.1.1
    rw [List.length_append] at this
    exact this
  · rw [List.length_append]
    show C.length + 1 + Q.length + d + ty_bin ws ≤ s.2
    omega
theorem ta_ee.wr {s : ty_Ps} {d op : Nat} {ws : List Nat} {C : List tz_Cd} {Q : List ta_Qu} {acc : Option (Nat × Nat)} {σ : rx_St} {m : Int32} (k t : Nat) (hm : m = nI k) (hP : ∀ i, ty_Pl T n i ≤ 2000) (hs : s.1 = 0) (h5 : t ≤ 500) (hl : t ≤ T.length) (hk : 1 ≤ k) (hk8 : k < 8) (h : ta_ee X T n s d op ws C Q acc σ) : tw_ok (f_m_wrong m (nI t) σ) (fun σ' => tw_fr (ta_SE X.1) σ σ' ∧ ta_ee X T n s d op ws C Q (ty_st T n acc (k, t)) σ') := by
  obtain ⟨h1, h2, ⟨c, q, r1, r2, r3, r4⟩, h4⟩ := h
  obtain ⟨g1, g2, g3, g4, g5, g6, g7⟩ := h4 hs
  refine tw_mono (tm_wrong hm hP h1.1 h2 hs h5 hl hk hk8 g1.2.2) (fun σ' g => ?_)
  obtain ⟨k1, k2⟩ := g
  have fE : tw_fr (ta_SE X.1) σ σ' := k1.mn (fun q j z => by unfold ta_S5 at z; unfold ta_SE; omega)
  have e : ∀ q j, ¬ (q = 87 ∧ (j = 15 ∨ j = 16)) → σ'.1 q j = σ.1 q j := fun q j a => k1.i (by unfold ta_S5; exact a)
  refine ⟨fE, h1.fr fE, h2.fr (fun j a => e _ _ (by omega)), ⟨c, q, (e _ _ (by omega)).trans r1, (e _ _ (by omega)).trans r2, r3, r4⟩, fun _ => ⟨⟨⟨(e _ _ (by omega)).trans g1.1.1, fun p x hx => ?_⟩, ⟨(e _ _ (by omega)).trans g1.2.1.1, fun p x hx => ?_⟩, k2⟩, g2, (e _ _ (by omega)).trans g3, (e _ _ (by omega)).trans g4, g5.fr ws (fun j _ => e _ _ (by omega)), g6, g7⟩⟩
  · obtain ⟨a, b, c⟩ := g1.1.2 p x hx
    exact ⟨(e _ _ (by omega)).trans a, (e _ _ (by omega)).trans b, (e _ _ (by omega)).trans c⟩
  · obtain ⟨a, b, c, d, f⟩ := g1.2.1.2 p x hx
    exact ⟨(e _ _ (by omega)).trans a, (e _ _ (by omega)).trans b, (e _ _ (by omega)).trans c, (e _ _ (by omega)).trans d, fun z => (e _ _ (by omega)).trans (f z)⟩
theorem ta_ee.as {s : ty_Ps} {d op : Nat} {ws : List Nat} {C : List tz_Cd} {Q : List ta_Qu} {acc : Option (Nat × Nat)} {σ : rx_St} {m e : Int32} (k p t t' : Nat) (hm : m = nI k) (he : k ≠ 1 → e = nI t') (hs : s.1 = 0) (h : ta_ee X T n s (d + 1) op ws C Q acc σ) : tw_ok (f_m_asks m (nI p) (nI t) e σ) (fun σ' => tw_fr (ta_SE X.1) σ σ' ∧ ta_ee X T n s d op ws C (Q ++ [(k, p, X.2.1, t, t')]) acc σ') := by
  obtain ⟨h1, h2, ⟨c, q, r1, r2, r3, r4⟩, h4⟩ := h
  obtain ⟨g1, g2, g3, g4, g5, g6, g7⟩ := h4 hs
  have s5 := h2.2.2.2.2.1
  refine tw_mono (g1.ask k p t t' hm he h1.2.2.1.1 (by omega)) (fun σ' g => ?_)
  obtain ⟨k1, k2⟩ := g
  have fE : tw_fr (ta_SE X.1) σ σ' := k1.mn (fun q j z => by unfold ta_SE; omega)
  refine ⟨fE, h1.fr fE, h2.fr (fun j a => k1.i (by omega)), ⟨c, q, (k1.i (by omega)).trans r1, (k1.i (by omega)).trans r2, r3, r4⟩, fun _ => ⟨k2, ?_, (k1.i (by omega)).trans g3, (k1.i (by omega)).trans g4, g5.fr ws (fun j _ => k1.i (by omega)), g6, g7⟩⟩
  rw [List.length_append]
  show C.length + (Q.length + 1) + d + ty_bin ws ≤ s.2
  omega
/-- a SETTING of that NAME, by a walk -/
theorem ta_unit87 {s : ty_Ps} {d op : Nat} {ws : List Nat} {C : List tz_Cd} {Q : List ta_Qu} {acc : Option (Nat × Nat)} {σ : rx_St} {P : rx_St → Prop} {v3 : Int32} {t : Nat} (hs : s.1 = 0) (hst : s.2 = t) (hn : ty_K T t = 23) (h : ta_ee X T n s d op ws C Q acc σ)
    (k : tw_ok (if v3 = (-1 : Int32) then (if tw_en (-nI 1) (ty_fi T (ty_Lt T t) X.2.2.1 0) = (-1 : Int32) then ((f_m_wrong (4 : Int32) (nI t) σ).bind fun y1 => f_m_unit_162 v3 (tw_en (-nI 1) (ty_fi T (ty_Lt T t) X.2.2.1 0)) y1) else f_m_unit_162 v3 (tw_en (-nI 1) (ty_fi T (ty_Lt T t) X.2.2.1 0)) σ) else f_m_unit_162 v3 (tw_en (-nI 1) (ty_fi T (ty_Lt T t) X.2.2.1 0)) σ) P) : tw_ok (f_m_unit_87 rx_fu (nI t) v3 (-1 : Int32) (0 : Int32) σ) P := by
  obtain ⟨⟨ht, ⟨x1, x2⟩, -, ⟨a1, a2, a3⟩, -⟩, h2, -, -⟩ := h
  obtain ⟨p1, p2, p3⟩ := h2.p hs
  obtain ⟨n1, n2, n3, n4⟩ := tm_nameK ht hn (by omega)
  have fl : ∀ (L : List Nat) (l : List Nat) (i j : Nat), ty_fi T L l i = some j → i ≤ j ∧ j < i + l.length := fun L l i j h => ty_fi_lt l i j h
  -- what is found stays
  have found : ∀ m i o, i ≤ X.2.2.1.length → X.2.2.1.length - i < m → o < 1000 → ty_fi T (ty_Lt T t) X.2.2.1 0 = some o → tw_ok (f_m_unit_87 m (nI t) v3 (nI o) (nI i) σ) P := by
    intro m
    induction m with
    | zero => intro i o _ h; exact absurd h (Nat.not_lt_zero _)
    | succ m ih =>
      intro i o hi hm ho hf
      have no : ¬ nI o = (-1 : Int32) := fun z => by
        have z' : nI o = -nI 1 := z
        rw [tw_m1 (by omega)] at z'
        exact z'.elim
      unfold f_m_unit_87
      rw [x1]
      refine tw_g (vp_in_nI (by omega) (by decide)) ?_
      rw [nI_clamp (by omega), a1]
      by_cases c : i = X.2.2.1.length
      · rw [if_pos (tp_yl (by omega) (by omega) (by omega))]
        rw [hf] at k
        exact k
      · rw [if_neg (tp_nl (by omega) (by omega) (by omega)), if_neg no]
        unfold f_m_unit_139
        rw [show nI i + (1 : Int32) = nI (i + 1) from nI_add i 1]
        exact ih (i + 1) o (by omega) (by omega) ho hf
  have main : ∀ m i, i ≤ X.2.2.1.length → X.2.2.1.length - i < m → m ≤ 100000 → ty_fi T (ty_Lt T t) X.2.2.1 0 = ty_fi T (ty_Lt T t) (X.2.2.1.drop i) i → tw_ok (f_m_unit_87 m (nI t) v3 (-1 : Int32) (nI i) σ) P := by
    intro m
    induction m with
    | zero => intro i _ h; exact absurd h (Nat.not_lt_zero _)
    | succ m ih =>
      intro i hi hm hm9 hf
      unfold f_m_unit_87
      rw [x1]
      refine tw_g (vp_in_nI (by omega) (by decide)) ?_
      rw [nI_clamp (by omega), a1]
      by_cases c : i = X.2.2.1.length
      · rw [if_pos (tp_yl (by omega) (by omega) (by omega))]
        rw [List.drop_eq_nil_of_le (by omega)] at hf
        rw [hf] at k
        exact k
      · have hl : X.2.2.1[i]? = some X.2.2.1[i] := List.getElem?_eq_getElem (by omega)
        obtain ⟨e1, e2⟩ := a3 i _ hl
        have nl := ty_nm_L ht.2 e2.1
        rw [if_neg (tp_nl (by omega) (by omega) (by omega)), if_pos rfl, show (6 : Int32) * nI X.1 + nI i = nI (6 * X.1 + i) by rw [show (6 : Int32) = nI 6 from rfl, pk_mul, nI_add]]
        refine tw_g (vp_in_nI (by omega) (by decide)) ?_
        rw [p1, hst]
        refine tw_g (vp_in_nI (by omega) (by decide)) ?_
        rw [nI_clamp (by omega), nI_clamp (by omega), e1, n1, tw_ifE (tm_cmp nl.1 nl.2 n2 n3)]
        unfold f_m_unit_139
        rw [show nI i + (1 : Int32) = nI (i + 1) from nI_add i 1]
        rw [ty_drop hl, ty_fi] at hf
        by_cases e : ty_Lt T X.2.2.1[i] = ty_Lt T t
        · rw [if_pos e] at hf ⊢
          exact found m (i + 1) i (by omega) (by omega) (by omega) hf
        · rw [if_neg e] at hf ⊢
          exact ih (i + 1) (by omega) (by omega) (by omega) hf
  exact main rx_fu 0 (Nat.zero_le _) (by show _ < 100000; omega) (Nat.le_refl _) (by rw [List.drop_zero])
end TAU
