/-! THE MODEL READS: a RULE -/
theorem ty_Rb_f {T : List tw_Tk} {s : ty_Ps} (h : ¬ s.1 = 0) : (ty_Rb T s).1 = s := by
  have nx := ty_nx_f (T := T) h
  have a : ty_Ra T s = (s, []) := by unfold ty_Ra; rw [nx, if_neg (by omega)]
  have b : (ty_wo T 7 s []).1 = s := by unfold ty_wo; rw [nx, if_neg (by omega)]
  unfold ty_Rb
  show ty_tkn T 2 (ty_wo T 7 (ty_Ra T s).1 []).1 = s
  rw [a, b]
  exact ty_tkn_f h
def ta_SR (x kk lv q j : Nat) : Prop := ta_SW x lv q j ∨ (q = 105 ∨ q = 106) ∧ j = x ∨ q = 104 ∧ j = kk
def ta_r1 (x lv a b : Nat) (Ws : List ta_Wr) (σ : rx_St) : Prop := σ.1 105 x = nI (250 * lv + a) ∧ σ.1 106 x = nI (250 * lv + b) ∧ ta_wr x lv Ws σ
section TBI
variable {X : ta_X} {T : List tw_Tk} {n : Nat}
/-- behind the LITS -/
theorem ta_r136 {s : ty_Ps} {d r cnt a : Nat} {C : List tz_Cd} {Q : List ta_Qu} {acc : Option (Nat × Nat)} {L : List ta_Lr} {σ0 σ : rx_St} (hP : ∀ i, ty_Pl T n i ≤ 2000) (hr : r < 80) (h : ta_pl X T n s d C Q acc L σ) (hc : s.1 = 0 → σ.1 104 X.2.1 = nI cnt ∧ σ.1 105 r = nI (250 * X.1 + a) ∧ σ.1 107 r = nI 0) (f : tw_fr (ta_SR r X.2.1 X.1) σ0 σ) :
    tw_ok (f_m_tellRule_136 (nI r) σ) (fun σ' => tw_fr (ta_SR r X.2.1 X.1) σ0 σ' ∧ ta_pl X T n (ty_tkn T 2 (ty_wo T 7 s []).1) d (C ++ (ta_wop (ty_wo T 7 s []).2).map (ta_oc T X)) (Q ++ ta_wqs X r C.length 0 (ty_wo T 7 s []).2) (ty_mn T n acc ((ty_wo T 7 s []).2.flatMap (ta_we T X))) L σ' ∧ ((ty_tkn T 2 (ty_wo T 7 s []).1).1 = 0 → σ'.1 104 X.2.1 = nI (cnt + 1) ∧ ta_r1 r X.1 a L.length (ta_wrs T X C.length (ty_wo T 7 s []).2) σ')) := by
  have k10 := h.1.1.2.2.1.2
  unfold f_m_tellRule_136
  refine tw_g (vp_in_nI (by omega) (by decide)) ?_
  rw [nI_clamp (by omega)]
  have f6 : tw_fr (fun q j => q = 106 ∧ j = r) σ (rx_si σ 106 r (σ.1 87 39)) := tw_fr.rf.si ⟨rfl, rfl⟩
  have h6 : ta_pl X T n s d C Q acc L (rx_si σ 106 r (σ.1 87 39)) := h.keep (f6.mn (fun q j y => by omega))
  have fW : tw_fr (ta_SR r X.2.1 X.1) σ0 (rx_si σ 106 r (σ.1 87 39)) := f.tr (f6.mn (fun q j y => by unfold ta_SR; omega))
  have p0 : ta_pws X T n r s d C Q acc L [] (rx_si σ 106 r (σ.1 87 39)) := by
    refine ⟨?_, fun z => ⟨(f6.i (by omega)).trans (hc z).2.2, fun p x hx => by cases hx⟩⟩
    show ta_pl X T n s d (C ++ []) (Q ++ []) acc L _
    rw [List.append_nil, List.append_nil]
    exact h6
  -- where 104, 105, 106 are kept
  have kp : ∀ τ, tw_fr (ta_SW r X.1) (rx_si σ 106 r (σ.1 87 39)) τ → s.1 = 0 → τ.1 104 X.2.1 = nI cnt ∧ τ.1 105 r = nI (250 * X.1 + a) ∧ τ.1 106 r = nI (250 * X.1 + L.length) := fun τ g z => by
    refine ⟨((g.i (by unfold ta_SW ta_SL ta_SE; omega)).trans (f6.i (by omega))).trans (hc z).1, ((g.i (by unfold ta_SW ta_SL ta_SE; omega)).trans (f6.i (by omega))).trans (hc z).2.1, (g.i (by unfold ta_SW ta_SL ta_SE; omega)).trans ?_⟩
    rw [tw_r1s]
    exact (h.2 z).1
  refine ta_wos (d := d) (C := C) (Q := Q) (acc := acc) (L := L) (σ0 := rx_si σ 106 r (σ.1 87 39)) hP hr _ 7 rx_fu [] s _ rfl (by show _ < 100000; omega) (fun _ => Nat.zero_le _) p0 tw_fr.rf (fun τ g p => ?_) (fun s' τ hs' g e p => ?_)
  · unfold f_m_tellRule_170
    refine tw_b (ta_pl.mu (m := (22 : Int32)) 2 rfl (by omega) p.1) (fun σ1 k => ?_)
    obtain ⟨k1, k2⟩ := k
    have fA := fW.tr ((g.tr (k1.mn (ta_S1W r X.1))).mn (fun q j y => show ta_SR r X.2.1 X.1 q j from Or.inl y))
    rw [tw_ifE k2.1.2.1.z]
    by_cases z : (ty_tkn T 2 (ty_wo T 7 s []).1).1 = 0
    · rw [if_pos z]
      have z1 := (ty_tkn_0 z).1
      have z0 : s.1 = 0 := by
        by_cases y : s.1 = 0
        · exact y
        · have : ty_wo T 7 s [] = (s, []) := by unfold ty_wo; rw [ty_nx_f y, if_neg (by omega)]
          rw [this] at z1
          exact absurd z1 y
      obtain ⟨c1, c2, c3⟩ := kp τ g z0
      have e : ∀ q j, 104 ≤ q ∧ q ≤ 113 → σ1.1 q j = τ.1 q j := fun q j y => k1.i (by unfold ta_S1; omega)
      rw [k2.1.1.2.2.1.1]
      refine tw_g (vp_in_nI (by omega) (by decide)) (tw_g (vp_in_nI (by omega) (by decide)) ?_)
      rw [nI_clamp (by omega), e _ _ (by omega), c1, show nI cnt + (1 : Int32) = nI (cnt + 1) from nI_add _ 1, tw_some]
      have f4 : tw_fr (fun q j => q = 104 ∧ j = X.2.1) σ1 (rx_si σ1 104 X.2.1 (nI (cnt + 1))) := tw_fr.rf.si ⟨rfl, rfl⟩
      refine ⟨fA.tr (f4.mn (fun q j y => by unfold ta_SR; omega)), (k2.keep (f4.mn (fun q j y => by omega))).sel (by omega), fun _ => ⟨tw_r1s _ _ _ _, ?_, ?_, ?_⟩⟩
      · exact ((f4.i (by omega)).trans (e _ _ (by omega))).trans c2
      · exact ((f4.i (by omega)).trans (e _ _ (by omega))).trans c3
      · exact (p.2 z1).fr (fun q j y => (f4.i (by omega)).trans (e _ _ (by omega)))
    · rw [if_neg z, tw_some]
      exact ⟨fA, ta_pl.bad k2 z, fun y => absurd y z⟩
  · unfold f_m_tellRule_170
    refine tw_b (ta_pl.mu (m := (22 : Int32)) 2 rfl (by omega) p.1) (fun σ1 k => ?_)
    obtain ⟨k1, k2⟩ := k
    have fA := fW.tr ((g.tr (k1.mn (ta_S1W r X.1))).mn (fun q j y => show ta_SR r X.2.1 X.1 q j from Or.inl y))
    have e2 : ty_tkn T 2 s' = s' := ty_tkn_f hs'
    rw [e2] at k2
    rw [tw_ifE k2.1.2.1.z, if_neg hs', tw_some, e]
    exact ⟨fA, ta_pl.bad k2 hs', fun y => absurd y hs'⟩
end TBI
