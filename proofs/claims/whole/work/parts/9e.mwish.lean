/-! THE MODEL READS: a WISH, whole -/
theorem ty_W1_x (T : List tw_Tk) (s : ty_Ps) : (ty_nx T s = 7 → ty_W1 T s = ta_wx T 0 (ty_tkn T 23 (ty_tkn T 7 s)) (ty_tkn T 7 s).2 s.2) ∧ (ty_nx T s = 8 → ty_W1 T s = ta_wx T 1 (ty_tkn T 8 s) s.2 s.2) ∧ (ty_nx T s = 9 → ty_W1 T s = ta_wx T 2 (ty_tkn T 23 (ty_tkn T 9 s)) (ty_tkn T 9 s).2 s.2) ∧ (ty_nx T s = 13 → ty_W1 T s = ta_wx T 4 (ty_tkn T 13 s) s.2 s.2) := by
  refine ⟨fun e => ?_, fun e => ?_, fun e => ?_, fun e => ?_⟩
  · have a : ty_Wa T s = (ty_tkn T 23 (ty_tkn T 7 s), (ty_tkn T 7 s).2) := by unfold ty_Wa; rw [e]; rfl
    unfold ty_W1 ty_Wb ta_wx
    rw [a, e]
    rfl
  · have a : ty_Wa T s = (ty_tkn T 8 s, s.2) := by unfold ty_Wa; rw [e]; rfl
    unfold ty_W1 ty_Wb ta_wx
    rw [a, e]
    rfl
  · have a : ty_Wa T s = (ty_tkn T 23 (ty_tkn T 9 s), (ty_tkn T 9 s).2) := by unfold ty_Wa; rw [e]; rfl
    unfold ty_W1 ty_Wb ta_wx
    rw [a, e]
    rfl
  · have a : ty_Wa T s = (ty_tkn T 13 s, s.2) := by unfold ty_Wa; rw [e]; rfl
    unfold ty_W1 ty_Wb ta_wx
    rw [a, e]
    rfl
section TBF
variable {X : ta_X} {T : List tw_Tk} {n : Nat}
/-- an own VAR -/
theorem ta_own {s : ty_Ps} {d : Nat} {C : List tz_Cd} {Q : List ta_Qu} {acc : Option (Nat × Nat)} {L : List ta_Lr} {σ : rx_St} (hP : ∀ i, ty_Pl T n i ≤ 2000) (h : ta_pl X T n s d C Q acc L σ) : tw_ok (f_m_ownVar σ) (fun y => tw_fr (ta_SE X.1) σ y.2 ∧ ta_pl X T n (ty_tkn T 23 s) (d + 1) C Q (ty_mn T n acc (if ty_fi T (ty_Lt T s.2) X.2.2.2 0 = none then [(4, s.2)] else [])) L y.2 ∧ ((ty_tkn T 23 s).1 = 0 → y.1 = nI ((ty_fi T (ty_Lt T s.2) X.2.2.2 0).getD 0))) := by
  unfold f_m_ownVar
  refine tw_b (h.mu (m := (1 : Int32)) 23 rfl (by omega)) (fun σ1 g => ?_)
  obtain ⟨f1, h1⟩ := g
  rw [tw_ifE h1.1.2.1.l]
  by_cases z : (ty_tkn T 23 s).1 = 0
  · rw [if_pos z]
    obtain ⟨z0, z1, z2, z3⟩ := ty_tkn_0 z
    obtain ⟨p1, p2, p3⟩ := h.1.2.1.p z0
    have nm : ty_nm T s.2 := ⟨z1, z2⟩
    obtain ⟨n1, n2, n3, n4⟩ := tm_name h1.1.1.1 nm
    rw [p1]
    refine tw_g (vp_in_nI (by omega) (by decide)) ?_
    rw [nI_clamp (by omega), n1, h1.1.1.2.2.1.1, ta_varOf h1.1.1.2.2.1.2 h1.1.1.2.2.2.2 h1.1.1.1.2 n2 n3, Option.bind_some]
    have v6 : X.2.2.2.length ≤ 6 := h1.1.1.2.2.2.2.2.1
    cases c : ty_fi T (ty_Lt T s.2) X.2.2.2 0 with
    | none =>
      show tw_ok (if -nI 1 = (-1 : Int32) then ((f_m_wrong (4 : Int32) (nI s.2) σ1).bind fun y3 => f_m_ownVar_45 (-nI 1) y3) else f_m_ownVar_45 (-nI 1) σ1) _
      rw [if_pos (show -nI 1 = (-1 : Int32) from rfl)]
      obtain ⟨g1, g2, g3⟩ := h1.1.2.2.2 z
      refine tw_b (tm_wrong (m := (4 : Int32)) (k := 4) (t := s.2) rfl hP h1.1.1.1 h1.1.2.1 z p2 (by omega) (by omega) (by omega) g1.2.2) (fun σ2 k => ?_)
      obtain ⟨k1, k2⟩ := k
      unfold f_m_ownVar_45
      rw [if_pos (show -nI 1 = (-1 : Int32) from rfl), tw_some]
      have fE : tw_fr (ta_SE X.1) σ1 σ2 := k1.mn (fun q j y => by unfold ta_S5 at y; unfold ta_SE; omega)
      have e : ∀ q j, ¬ (q = 87 ∧ (j = 15 ∨ j = 16)) → σ2.1 q j = σ1.1 q j := fun q j a => k1.i (by unfold ta_S5; exact a)
      refine ⟨(f1.mn (ta_S1E X.1)).tr fE, ⟨⟨h1.1.1.fr fE, h1.1.2.1.fr (fun j a => e _ _ (by omega)), ?_, fun _ => ⟨⟨⟨(e _ _ (by omega)).trans g1.1.1, fun p x hx => ?_⟩, ⟨(e _ _ (by omega)).trans g1.2.1.1, fun p x hx => ?_⟩, k2⟩, by omega, (e _ _ (by omega)).trans g3⟩⟩, fun y => (h1.2 y).fr (fun q j a => e _ _ (by omega))⟩, fun _ => rfl⟩
      · obtain ⟨c, r1, r2⟩ := h1.1.2.2.1
        exact ⟨c, (e _ _ (by omega)).trans r1, r2⟩
      · obtain ⟨a, b, c⟩ := g1.1.2 p x hx
        exact ⟨(e _ _ (by omega)).trans a, (e _ _ (by omega)).trans b, (e _ _ (by omega)).trans c⟩
      · obtain ⟨a, b, c, d, f⟩ := g1.2.1.2 p x hx
        exact ⟨(e _ _ (by omega)).trans a, (e _ _ (by omega)).trans b, (e _ _ (by omega)).trans c, (e _ _ (by omega)).trans d, fun z => (e _ _ (by omega)).trans (f z)⟩
    | some o =>
      have ho := (ty_fi_lt _ _ _ c).2
      have no : ¬ nI o = (-1 : Int32) := fun z => by
        have z' : nI o = -nI 1 := z
        rw [tw_m1 (by omega)] at z'
        exact z'.elim
      show tw_ok (if nI o = (-1 : Int32) then _ else f_m_ownVar_45 (nI o) σ1) _
      rw [if_neg no]
      unfold f_m_ownVar_45
      rw [if_neg no, tw_some, if_neg (fun y => by cases y)]
      exact ⟨f1.mn (ta_S1E X.1), h1, fun _ => rfl⟩
  · rw [if_neg z, tw_some]
    exact ⟨f1.mn (ta_S1E X.1), ta_pl.bad h1 z, fun y => absurd y z⟩
/-- code, questions, what is amiss, row of a WISH -/
def ta_wv (T : List tw_Tk) (X : ta_X) (w : ty_Wi) : Nat := if w.1 = 0 ∨ w.1 = 2 ∨ w.1 = 3 then (ty_fi T (ty_Lt T w.2.1) X.2.2.2 0).getD 0 else 0
def ta_we (T : List tw_Tk) (X : ta_X) (w : ty_Wi) : List (Nat × Nat) := (if (w.1 = 0 ∨ w.1 = 2 ∨ w.1 = 3) ∧ ty_fi T (ty_Lt T w.2.1) X.2.2.2 0 = none then [(4, w.2.1)] else []) ++ w.2.2.2.flatMap (ta_oe T X)
def ta_wq (X : ta_X) (p i : Nat) (w : ty_Wi) : List ta_Qu := ta_oqs X p w.2.2.2 ++ (if w.1 = 2 ∨ w.1 = 3 then [(2, i, X.2.1, w.2.2.1, w.2.1)] else [])
end TBF
