/-! THE MODEL READS: tellRule -/
section TBJ
variable {X : ta_X} {T : List tw_Tk} {n : Nat}
/-- what a RULE leaves -/
def ta_rd (X : ta_X) (T : List tw_Tk) (n : Nat) (d cnt : Nat) (C : List tz_Cd) (Q : List ta_Qu) (acc : Option (Nat × Nat)) (L : List ta_Lr) (σ : rx_St) (w : ty_Ps × ty_Ru) (σ' : rx_St) : Prop := tw_fr (fun q j => cnt < 8 ∧ ta_SR (8 * X.2.1 + cnt) X.2.1 X.1 q j ∨ ta_S1 q j) σ σ' ∧ ta_pl X T n w.1 d (C ++ (ta_lop w.2.1 ++ ta_wop w.2.2).map (ta_oc T X)) (Q ++ (ta_oqs X C.length (ta_lop w.2.1) ++ ta_wqs X (8 * X.2.1 + cnt) (C.length + (ta_lop w.2.1).length) 0 w.2.2)) (ty_mn T n acc ((ta_lop w.2.1).flatMap (ta_oe T X) ++ w.2.2.flatMap (ta_we T X))) (L ++ ta_lrs C.length true w.2.1) σ' ∧ (w.1.1 = 0 → cnt < 8 ∧ σ'.1 104 X.2.1 = nI (cnt + 1) ∧ ta_r1 (8 * X.2.1 + cnt) X.1 L.length (L.length + w.2.1.length) (ta_wrs T X (C.length + (ta_lop w.2.1).length) w.2.2) σ')
theorem ta_rd.of {d cnt : Nat} {C : List tz_Cd} {Q : List ta_Qu} {acc : Option (Nat × Nat)} {L : List ta_Lr} {σ σ' : rx_St} {s1 : ty_Ps} {ls : List ty_Lf} (hc : cnt < 8) (g : tw_fr (ta_SR (8 * X.2.1 + cnt) X.2.1 X.1) σ σ' ∧ ta_pl X T n (ty_tkn T 2 (ty_wo T 7 s1 []).1) d ((C ++ (ta_lop ls).map (ta_oc T X)) ++ (ta_wop (ty_wo T 7 s1 []).2).map (ta_oc T X)) ((Q ++ ta_oqs X C.length (ta_lop ls)) ++ ta_wqs X (8 * X.2.1 + cnt) (C ++ (ta_lop ls).map (ta_oc T X)).length 0 (ty_wo T 7 s1 []).2) (ty_mn T n (ty_mn T n acc ((ta_lop ls).flatMap (ta_oe T X))) ((ty_wo T 7 s1 []).2.flatMap (ta_we T X))) (L ++ ta_lrs C.length true ls) σ' ∧ ((ty_tkn T 2 (ty_wo T 7 s1 []).1).1 = 0 → σ'.1 104 X.2.1 = nI (cnt + 1) ∧ ta_r1 (8 * X.2.1 + cnt) X.1 L.length (L ++ ta_lrs C.length true ls).length (ta_wrs T X (C ++ (ta_lop ls).map (ta_oc T X)).length (ty_wo T 7 s1 []).2) σ')) : ta_rd X T n d cnt C Q acc L σ (ty_tkn T 2 (ty_wo T 7 s1 []).1, (ls, (ty_wo T 7 s1 []).2)) σ' := by
  obtain ⟨g1, g2, g3⟩ := g
  have e1 : (C ++ (ta_lop ls).map (ta_oc T X)).length = C.length + (ta_lop ls).length := by rw [List.length_append, List.length_map]
  have e2 : (L ++ ta_lrs C.length true ls).length = L.length + ls.length := by rw [List.length_append, ta_lrs_len]
  rw [e1] at g2 g3
  rw [e2] at g3
  refine ⟨g1.mn (fun q j y => Or.inl ⟨hc, y⟩), ?_, fun z => ⟨hc, g3 z⟩⟩
  rw [List.map_append, ty_mn_app, ← List.append_assoc, ← List.append_assoc]
  exact g2
theorem ta_R {s : ty_Ps} {d cnt : Nat} {C : List tz_Cd} {Q : List ta_Qu} {acc : Option (Nat × Nat)} {L : List ta_Lr} {σ : rx_St} (hP : ∀ i, ty_Pl T n i ≤ 2000) (hs : s.1 = 0) (hK : ty_K T s.2 = 5) (hcnt : cnt ≤ 8) (h4 : σ.1 104 X.2.1 = nI cnt) (h : ta_pl X T n s d C Q acc L σ) : tw_ok (f_m_tellRule σ) (ta_rd X T n d cnt C Q acc L σ (ty_R1 T cnt s)) := by
  have x10 := h.1.1.2.2.1
  have L39 := (h.2 hs).1
  unfold f_m_tellRule
  rw [x10.1]
  refine tw_g (vp_in_nI (by omega) (by decide)) ?_
  rw [nI_clamp (by omega), h4]
  refine tm_room (F := f_m_tellRule_19) cnt 8 (fun _ => ?_) h.1.1.1 h.1.2.1 (fun σ1 f1 r1 => ?_)
  · rw [show (nI cnt = (8 : Int32)) = (cnt = 8) from tw_eq (b := 8) (by omega) (by omega)]
    omega
  unfold f_m_tellRule_19
  rw [tw_ifE r1.l]
  have f1R : tw_fr (ta_SR (8 * X.2.1 + cnt) X.2.1 X.1) σ σ1 := f1.mn (fun q j y => Or.inl (ta_S1W _ _ q j y))
  have p1 : ta_pl X T n (ty_room cnt 8 s) d C Q acc L σ1 := ⟨h.1.of1 f1 r1 (fun z => by
    obtain ⟨-, -, e⟩ := ty_room_0 z
    rw [e]
    exact ⟨hs, Nat.le_refl _⟩), fun _ => (h.2 hs).fr (fun q j y => f1.i (by unfold ta_S1; omega))⟩
  by_cases z : (ty_room cnt 8 s).1 = 0
  · obtain ⟨-, c8, er⟩ := ty_room_0 z
    rw [if_pos z]
    rw [er] at p1 r1
    have e1 : ∀ q j, ¬ q = 87 → σ1.1 q j = σ.1 q j := fun q j y => f1.i (by unfold ta_S1; omega)
    rw [p1.1.1.2.2.1.1]
    refine tw_g (vp_in_nI (by omega) (by decide)) ?_
    rw [nI_clamp (by omega), e1 _ _ (by omega), h4]
    show tw_ok ((f_m_next σ1).bind fun y2 => rx_g ((8 : Int32) * nI X.2.1 + nI cnt) 80 (rx_g ((8 : Int32) * nI X.2.1 + nI cnt) 80 ((f_m_is (26 : Int32) (rx_si (rx_si y2 105 ((8 : Int32) * nI X.2.1 + nI cnt).toNatClampNeg (y2.1 87 39)) 107 ((8 : Int32) * nI X.2.1 + nI cnt).toNatClampNeg (0 : Int32))).bind fun y3 => if y3 = (0 : Int32) then f_m_tellRule_81 ((8 : Int32) * nI X.2.1 + nI cnt) y3 (rx_si (rx_si y2 105 ((8 : Int32) * nI X.2.1 + nI cnt).toNatClampNeg (y2.1 87 39)) 107 ((8 : Int32) * nI X.2.1 + nI cnt).toNatClampNeg (0 : Int32)) else ((f_m_next (rx_si (rx_si y2 105 ((8 : Int32) * nI X.2.1 + nI cnt).toNatClampNeg (y2.1 87 39)) 107 ((8 : Int32) * nI X.2.1 + nI cnt).toNatClampNeg (0 : Int32))).bind fun y4 => f_m_tellRule_81 ((8 : Int32) * nI X.2.1 + nI cnt) y3 y4)))) _
    rw [show (8 : Int32) * nI X.2.1 + nI cnt = nI (8 * X.2.1 + cnt) by rw [show (8 : Int32) = nI 8 from rfl, pk_mul, nI_add]]
    refine tw_b (ta_pl.nx 5 (by omega) (fun _ => hK) p1) (fun σ2 g => ?_)
    obtain ⟨f2, p2⟩ := g
    refine tw_g (vp_in_nI (by omega) (by decide)) (tw_g (vp_in_nI (by omega) (by decide)) ?_)
    rw [nI_clamp (by omega)]
    have e2 : ∀ q j, ¬ (q = 87 ∧ (j = 11 ∨ j = 13 ∨ j = 14)) → σ2.1 q j = σ.1 q j := fun q j y => (f2.i (by unfold ta_S1; exact y)).trans (f1.i (by unfold ta_S1; exact y))
    rw [e2 87 39 (by omega), L39]
    have f3 : tw_fr (fun q j => (q = 105 ∨ q = 107) ∧ j = 8 * X.2.1 + cnt) σ2 (rx_si (rx_si σ2 105 (8 * X.2.1 + cnt) (nI (250 * X.1 + L.length))) 107 (8 * X.2.1 + cnt) (0 : Int32)) := (tw_fr.rf.si ⟨Or.inl rfl, rfl⟩).si ⟨Or.inr rfl, rfl⟩
    have p3 := p2.keep (f3.mn (fun q j y => by omega))
    have f3R : tw_fr (ta_SR (8 * X.2.1 + cnt) X.2.1 X.1) σ (rx_si (rx_si σ2 105 (8 * X.2.1 + cnt) (nI (250 * X.1 + L.length))) 107 (8 * X.2.1 + cnt) (0 : Int32)) := (f1R.tr (f2.mn (fun q j y => Or.inl (ta_S1W _ _ q j y)))).tr (f3.mn (fun q j y => by unfold ta_SR ta_SW; omega))
    have k3 : (rx_si (rx_si σ2 105 (8 * X.2.1 + cnt) (nI (250 * X.1 + L.length))) 107 (8 * X.2.1 + cnt) (0 : Int32)).1 104 X.2.1 = nI cnt ∧ (rx_si (rx_si σ2 105 (8 * X.2.1 + cnt) (nI (250 * X.1 + L.length))) 107 (8 * X.2.1 + cnt) (0 : Int32)).1 105 (8 * X.2.1 + cnt) = nI (250 * X.1 + L.length) ∧ (rx_si (rx_si σ2 105 (8 * X.2.1 + cnt) (nI (250 * X.1 + L.length))) 107 (8 * X.2.1 + cnt) (0 : Int32)).1 107 (8 * X.2.1 + cnt) = nI 0 := by
      refine ⟨?_, ?_, tw_r1s _ _ _ _⟩
      · rw [tw_r1n _ _ (by omega), tw_r1n _ _ (by omega), e2 _ _ (by omega)]; exact h4
      · rw [tw_r1n _ _ (by omega)]; exact tw_r1s _ _ _ _
    generalize (rx_si (rx_si σ2 105 (8 * X.2.1 + cnt) (nI (250 * X.1 + L.length))) 107 (8 * X.2.1 + cnt) (0 : Int32)) = σ3 at p3 f3R k3 ⊢
    unfold ty_R1
    rw [er]
    rw [tm_is (m := (26 : Int32)) 6 rfl (by omega) p3.1.1.1 p3.1.2.1, Option.bind_some, tm_ifz]
    -- behind the LITS, whatever they were
    have last : ∀ (s1 : ty_Ps) (ls : List ty_Lf) (τ : rx_St), (s1.1 = 0 → (ty_tkn T 5 s).1 = 0) → tw_fr (ta_SL X.1) σ3 τ → ta_pls X T n s1 d C Q acc L ls τ → tw_ok (f_m_tellRule_136 (nI (8 * X.2.1 + cnt)) τ) (ta_rd X T n d cnt C Q acc L σ (ty_tkn T 2 (ty_wo T 7 s1 []).1, (ls, (ty_wo T 7 s1 []).2))) := by
      intro s1 ls τ hz g p
      refine tw_mono (ta_r136 (cnt := cnt) (a := L.length) (σ0 := σ) hP (by omega) p (fun _ => ⟨?_, ?_, ?_⟩) (f3R.tr (g.mn (fun q j y => Or.inl (Or.inl y))))) (fun σ' y => ta_rd.of c8 y)
      · exact (g.i (by unfold ta_SL ta_SE; omega)).trans k3.1
      · exact (g.i (by unfold ta_SL ta_SE; omega)).trans k3.2.1
      · exact (g.i (by unfold ta_SL ta_SE; omega)).trans k3.2.2
    by_cases c6 : ty_nx T (ty_tkn T 5 s) = 6
    · rw [if_pos c6]
      have gz := ty_nx_0 (T := T) (s := ty_tkn T 5 s) (by omega)
      have eRa : ty_Ra T (ty_tkn T 5 s) = ty_lo T 501 (ty_L1 T (ty_tkn T 6 (ty_tkn T 5 s))).1 [(false, (ty_L1 T (ty_tkn T 6 (ty_tkn T 5 s))).2)] := by unfold ty_Ra; rw [if_pos c6]
      unfold ty_Rb
      rw [eRa]
      rw [if_pos c6]
      refine tw_b (ta_pl.nx 6 (by omega) (fun _ => by rw [← gz.2]; exact c6) p3) (fun σ4 g => ?_)
      obtain ⟨f4, p4⟩ := g
      have f4L : tw_fr (ta_SL X.1) σ3 σ4 := f4.mn (fun q j y => Or.inl (ta_S1E X.1 q j y))
      unfold f_m_tellRule_81
      rw [show rx_fu = 99999 + 1 from rfl]
      unfold f_m_tellRule_83
      rw [if_neg (show ¬ (1 : Int32) = (0 : Int32) by decide), tw_ifE p4.1.2.1.z]
      by_cases z6 : (ty_tkn T 6 (ty_tkn T 5 s)).1 = 0
      · rw [if_pos z6]
        refine tw_b (ta_L true rfl hP (p4.sel (d' := d + 1) (by omega))) (fun σ5 g => ?_)
        obtain ⟨f5, p5⟩ := g
        have p6 : ta_pls X T n (ty_L1 T (ty_tkn T 6 (ty_tkn T 5 s))).1 d C Q acc L [(false, (ty_L1 T (ty_tkn T 6 (ty_tkn T 5 s))).2)] σ5 := by
          unfold ta_pls
          show ta_pl X T n _ d (C ++ (((ty_L1 T (ty_tkn T 6 (ty_tkn T 5 s))).2.2.2.1 ++ (ty_L1 T (ty_tkn T 6 (ty_tkn T 5 s))).2.2.2.2) ++ []).map (ta_oc T X)) (Q ++ ta_oqs X C.length (((ty_L1 T (ty_tkn T 6 (ty_tkn T 5 s))).2.2.2.1 ++ (ty_L1 T (ty_tkn T 6 (ty_tkn T 5 s))).2.2.2.2) ++ [])) (ty_mn T n acc ((((ty_L1 T (ty_tkn T 6 (ty_tkn T 5 s))).2.2.2.1 ++ (ty_L1 T (ty_tkn T 6 (ty_tkn T 5 s))).2.2.2.2) ++ []).flatMap (ta_oe T X))) _ σ5
          rw [List.append_nil]
          exact p5
        exact ta_los (σ0 := σ3) hP _ 501 99999 _ _ σ5 rfl (fun y => by cases y) (by omega) p6 (f4L.tr f5) (fun τ g p => last _ _ τ (fun _ => gz.1) g p)
      · rw [if_neg z6]
        have el : (ty_L1 T (ty_tkn T 6 (ty_tkn T 5 s))).1 = ty_tkn T 6 (ty_tkn T 5 s) := ty_L1_f z6
        have eo : ∀ ms, ty_lo T 501 (ty_tkn T 6 (ty_tkn T 5 s)) ms = (ty_tkn T 6 (ty_tkn T 5 s), ms) := fun ms => by
          unfold ty_lo
          rw [if_neg (by have := ty_nx_f (T := T) z6; omega)]
        rw [el, eo]
        exact last _ _ σ4 (fun _ => gz.1) f4L (ta_pl.bad p4 z6)
    · rw [if_neg c6]
      have eRa : ty_Ra T (ty_tkn T 5 s) = (ty_tkn T 5 s, []) := by unfold ty_Ra; rw [if_neg c6]
      unfold ty_Rb
      rw [eRa, if_neg c6]
      unfold f_m_tellRule_81
      rw [show rx_fu = 99999 + 1 from rfl]
      unfold f_m_tellRule_83
      rw [if_pos rfl]
      refine last (ty_tkn T 5 s) [] σ3 (fun y => y) tw_fr.rf ?_
      show ta_pl X T n _ d (C ++ []) (Q ++ []) acc (L ++ []) σ3
      rw [List.append_nil, List.append_nil, List.append_nil]
      exact p3.sel (by omega)
  · rw [if_neg z, tw_some]
    have e5 : ty_tkn T 5 (ty_room cnt 8 s) = ty_room cnt 8 s := ty_tkn_f z
    unfold ty_R1
    rw [e5]
    have eb := ty_Rb_f (T := T) z
    refine ⟨f1.mn (fun q j y => Or.inr y), ?_, fun y => ?_⟩
    · rw [eb]; exact ta_pl.bad p1 z
    · rw [eb] at y; exact absurd y z
end TBJ
