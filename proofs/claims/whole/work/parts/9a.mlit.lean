/-! THE MODEL READS: a LIT, whole -/
theorem tw_km_31 : ∀ k, k < 39 → (31 ≤ k ∧ k ≤ 34 → nI (tw_km k) - (11 : Int32) = nI (k - 31)) ∧ (¬ (31 ≤ k ∧ k ≤ 34) → nI (tw_km k) - (11 : Int32) < (0 : Int32) ∨ ¬ (nI (tw_km k) - (11 : Int32) ≤ (3 : Int32))) := by decide +kernel
section TBB
variable {X : ta_X} {T : List tw_Tk} {n : Nat}
theorem ta_SEL (lv : Nat) : ∀ q j, ta_SE lv q j → ta_SL lv q j := fun q j h => Or.inl h
/-- behind the sign that compares -/
theorem ta_lit85 {s : ty_Ps} {d : Nat} {C : List tz_Cd} {Q : List ta_Qu} {acc : Option (Nat × Nat)} {L : List ta_Lr} {o : List ty_Uo} {σ0 σ : rx_St} {v1 v2 v4 : Int32} {f g : Bool} {a : Nat} (k : Nat) (hk : k ≠ 37) (hs : s.1 = 0 → ty_K T s.2 = k) (hP : ∀ i, ty_Pl T n i ≤ 2000) (h1 : v1 = tw_B f) (h2 : v2 = tw_B g) (h4 : s.1 = 0 → v4 = nI a) (h : ta_po X T n s (2 * L.length + d + 1) C Q acc o σ) (hL : s.1 = 0 → ta_lr X.1 L σ) (v3 : Int32) (h3 : s.1 = 0 → v3 = nI (700 * X.1 + C.length)) (fr : tw_fr (ta_SL X.1) σ0 σ) :
    tw_ok (f_m_literal_85 v1 v2 v3 v4 σ) (fun σ' => tw_fr (ta_SL X.1) σ0 σ' ∧ ta_pl X T n (ty_E1 T (ty_tkn T k s)).1 d (C ++ (o ++ (ty_E1 T (ty_tkn T k s)).2).map (ta_oc T X)) (Q ++ ta_oqs X C.length (o ++ (ty_E1 T (ty_tkn T k s)).2)) (ty_mn T n acc ((o ++ (ty_E1 T (ty_tkn T k s)).2).flatMap (ta_oe T X))) (L ++ [(f, g, a, C.length, C.length + o.length, C.length + o.length + (ty_E1 T (ty_tkn T k s)).2.length)]) σ') := by
  unfold f_m_literal_85
  refine tw_b (ta_pp.nx k hk hs h) (fun σ1 g1 => ?_)
  obtain ⟨f1, p1⟩ := g1
  refine tw_b (ta_E hP p1) (fun σ2 g2 => ?_)
  obtain ⟨f2, p2⟩ := g2
  have f12 : tw_fr (ta_SL X.1) σ0 σ2 := fr.tr (((f1.mn (ta_S1E X.1)).tr f2).mn (ta_SEL X.1))
  -- put together
  have p2' : ta_pp X T n (ty_E1 T (ty_tkn T k s)).1 (2 * L.length + d + 1 + 1) (C ++ (o ++ (ty_E1 T (ty_tkn T k s)).2).map (ta_oc T X)) (Q ++ ta_oqs X C.length (o ++ (ty_E1 T (ty_tkn T k s)).2)) (ty_mn T n acc ((o ++ (ty_E1 T (ty_tkn T k s)).2).flatMap (ta_oe T X))) σ2 := by
    unfold ta_po at p2
    rw [List.length_append, List.length_map] at p2
    rw [ta_oqs_app, List.flatMap_append, ty_mn_app, List.map_append, ← List.append_assoc, ← List.append_assoc]
    exact p2
  rw [tw_ifE p2'.2.1.l]
  by_cases z : (ty_E1 T (ty_tkn T k s)).1.1 = 0
  · rw [if_pos z]
    obtain ⟨q1, q2, q3⟩ := p2'.2.2.2 z
    have s5 := p2'.2.1.2.2.2.2.1
    have z1 := ty_E1_0 z
    have z0 := (ty_tkn_0 z1).1
    have e46 : σ1.1 87 46 = nI (700 * X.1 + (C.length + o.length)) := by
      have := (p1.2.2.2 z1).1.1.1
      rw [List.length_append, List.length_map] at this
      exact this
    have l2 : ta_lr X.1 L σ2 := (hL z0).fr (fun q j a => (f2.i (by unfold ta_SE; omega)).trans (f1.i (by unfold ta_S1; omega)))
    have h46 := q1.1.1
    rw [List.length_append, List.length_map, List.length_append] at h46 q2
    rw [e46, h3 z0]
    refine tw_mono (ta_row (e := C.length + o.length + (ty_E1 T (ty_tkn T k s)).2.length) (a := a) (b := C.length) (c := C.length + o.length) p1.1.2.1.2 (by omega) l2 (by rw [h46, Nat.add_assoc C.length]) h1 h2 (h4 z0)) (fun σ' g3 => ?_)
    obtain ⟨k1, k2⟩ := g3
    have x1 := p1.1.2.1.2
    have fS : tw_fr (ta_SL X.1) σ2 σ' := k1.mn (fun q j y => by unfold ta_SL; omega)
    have e : ∀ q j, ¬ (q = 87 ∧ j = 39 ∨ 114 ≤ q ∧ q ≤ 119) → σ'.1 q j = σ2.1 q j := fun q j y => k1.i (by omega)
    have el : ∀ q j, ¬ (q = 87 ∧ j = 39 ∨ 114 ≤ q ∧ q ≤ 119) → σ'.2 q j = σ2.2 q j := fun q j y => k1.l (by omega)
    refine ⟨f12.tr fS, ⟨?_, p2'.2.1.fr (fun j y => e _ _ (by omega)), ?_, fun _ => ⟨q1.fr (fun q j y => e _ _ (by omega)), ?_, (e _ _ (by omega)).trans q3⟩⟩, fun _ => k2⟩
    · obtain ⟨c1, ⟨c2, c3⟩, ⟨c4, c5⟩, ⟨c6, c7, c8⟩, ⟨c9, c10, c11⟩⟩ := p2'.1
      exact ⟨c1.fr (fun q j a b => ⟨e _ _ (by omega), el _ _ (by omega)⟩), ⟨(e _ _ (by omega)).trans c2, c3⟩, ⟨(e _ _ (by omega)).trans c4, c5⟩, ⟨(e _ _ (by omega)).trans c6, c7, fun i t ht => ⟨(el _ _ (by omega)).trans (c8 i t ht).1, (c8 i t ht).2⟩⟩, ⟨(e _ _ (by omega)).trans c9, c10, fun i t ht => ⟨(el _ _ (by omega)).trans (c11 i t ht).1, (c11 i t ht).2⟩⟩⟩
    · obtain ⟨c, r1, r2⟩ := p2'.2.2.1
      exact ⟨c, (e _ _ (by omega)).trans r1, r2⟩
    · simp only [List.length_append, List.length_map, List.length_cons, List.length_nil] at q2 ⊢
      omega
  · rw [if_neg z, tw_some]
    exact ⟨f12, p2'.bad z, fun y => absurd y z⟩
theorem ta_L {s : ty_Ps} {d : Nat} {C : List tz_Cd} {Q : List ta_Qu} {acc : Option (Nat × Nat)} {L : List ta_Lr} {σ : rx_St} {v1 : Int32} (f : Bool) (h1 : v1 = tw_B f) (hP : ∀ i, ty_Pl T n i ≤ 2000) (h : ta_pl X T n s (d + 1) C Q acc L σ) :
    tw_ok (f_m_literal v1 σ) (fun σ' => tw_fr (ta_SL X.1) σ σ' ∧ ta_pl X T n (ty_L1 T s).1 d (C ++ ((ty_L1 T s).2.2.2.1 ++ (ty_L1 T s).2.2.2.2).map (ta_oc T X)) (Q ++ ta_oqs X C.length ((ty_L1 T s).2.2.2.1 ++ (ty_L1 T s).2.2.2.2)) (ty_mn T n acc (((ty_L1 T s).2.2.2.1 ++ (ty_L1 T s).2.2.2.2).flatMap (ta_oe T X))) (L ++ [(f, (ty_L1 T s).2.1, (ty_L1 T s).2.2.1, C.length, C.length + (ty_L1 T s).2.2.2.1.length, C.length + (ty_L1 T s).2.2.2.1.length + (ty_L1 T s).2.2.2.2.length)]) σ') := by
  obtain ⟨h, hL⟩ := h
  unfold f_m_literal
  refine ta_nots (d := 2 * L.length + d + 1) (σ0 := σ) _ 501 rx_fu 0 s σ (by omega) (by show _ < 100000; omega) h tw_fr.rf (fun σ1 f1 p1 => ?_)
  unfold ty_L1
  have hno := @ty_no_0 T 501 s 0
  generalize ty_no T 501 s 0 = no at p1 hno ⊢
  refine tw_b (ta_E hP p1) (fun σ2 g2 => ?_)
  obtain ⟨f2, p2⟩ := g2
  have e10 := @ty_E1_0 T no.1
  generalize ty_E1 T no.1 = e1 at p2 e10 ⊢
  have fr : tw_fr (ta_SL X.1) σ σ2 := ((f1.mn (ta_S1E X.1)).tr f2).mn (ta_SEL X.1)
  have hg : nI (no.2 % 2) = tw_B (decide (no.2 % 2 = 1)) := by
    have : no.2 % 2 = 0 ∨ no.2 % 2 = 1 := by omega
    rcases this with y | y
    · rw [y]; rfl
    · rw [y]; rfl
  have lr : e1.1.1 = 0 → ta_lr X.1 L σ2 := fun z => (hL (hno (e10 z))).fr (fun q j a => (f2.i (by unfold ta_SE; omega)).trans (f1.i (by unfold ta_S1; omega)))
  have v3 : e1.1.1 = 0 → σ1.1 87 46 = nI (700 * X.1 + C.length) := fun z => (p1.2.2.2 (e10 z)).1.1.1
  have r2 := p2.2.1
  rw [tw_ifE r2.l]
  by_cases z : e1.1.1 = 0
  · rw [if_pos z]
    obtain ⟨q1, q2, q3⟩ := r2.p z
    obtain ⟨k1, -, k3⟩ := p2.1.1.K q2 q3
    have nx : ty_nx T e1.1 = ty_K T e1.1.2 := if_pos z
    have km := tw_km_31 (ty_K T e1.1.2) (by omega)
    rw [q1]
    refine tw_g (vp_in_nI (by omega) (by decide)) ?_
    rw [nI_clamp (by omega), k1]
    unfold f_m_literal_60
    rw [tw_ifE r2.z, if_pos z]
    by_cases c : 31 ≤ ty_K T e1.1.2 ∧ ty_K T e1.1.2 ≤ 34
    · have et : ty_tst T e1.1 = ty_K T e1.1.2 := by unfold ty_tst; rw [nx, if_pos c]
      rw [km.1 c, if_neg (show ¬ nI (ty_K T e1.1.2 - 31) < (0 : Int32) by rw [show (0 : Int32) = nI 0 from rfl, tw_lt (by omega) (by omega)]; omega), if_pos (show nI (ty_K T e1.1.2 - 31) ≤ (3 : Int32) by rw [show (3 : Int32) = nI 3 from rfl, tw_le (by omega) (by omega)]; omega)]
      rw [et]
      exact ta_lit85 (f := f) (g := decide (no.2 % 2 = 1)) (a := ty_K T e1.1.2 - 31) (ty_K T e1.1.2) (by omega) (fun _ => rfl) hP h1 hg (fun _ => rfl) p2 lr _ v3 fr
    · have et : ty_tst T e1.1 = 31 := by unfold ty_tst; rw [nx, if_neg c]
      have k80 : tw_ok (f_m_literal_80 v1 (nI (no.2 % 2)) (σ1.1 87 46) (nI (tw_km (ty_K T e1.1.2)) - (11 : Int32)) σ2) (fun σ' => tw_fr (ta_SL X.1) σ σ' ∧ ta_pl X T n (ty_E1 T (ty_tkn T 31 e1.1)).1 d (C ++ (e1.2 ++ (ty_E1 T (ty_tkn T 31 e1.1)).2).map (ta_oc T X)) (Q ++ ta_oqs X C.length (e1.2 ++ (ty_E1 T (ty_tkn T 31 e1.1)).2)) (ty_mn T n acc ((e1.2 ++ (ty_E1 T (ty_tkn T 31 e1.1)).2).flatMap (ta_oe T X))) (L ++ [(f, decide (no.2 % 2 = 1), 31 - 31, C.length, C.length + e1.2.length, C.length + e1.2.length + (ty_E1 T (ty_tkn T 31 e1.1)).2.length)]) σ') := by
        unfold f_m_literal_80
        refine tw_b (tm_fail (m := (1 : Int32)) 1 rfl (by omega) (by omega) p2.1.1 r2) (fun σ3 g => ?_)
        obtain ⟨f3, r3⟩ := g
        rw [if_pos z] at r3
        have e31 : ty_tkn T 31 e1.1 = (1, e1.1.2) := by unfold ty_tkn; rw [if_pos z, if_neg (by omega)]
        have e32 : ty_tkn T 31 ((1, e1.1.2) : ty_Ps) = (1, e1.1.2) := ty_tkn_f (show ¬ (1 = 0) by decide)
        have no1 : ∀ {p : Prop}, (((1, e1.1.2) : ty_Ps).1 = 0) → p := fun y => absurd (show 1 = 0 from y) (by decide)
        rw [e31]
        have := ta_lit85 (s := (1, e1.1.2)) (f := f) (g := decide (no.2 % 2 = 1)) (a := 31 - 31) (C := C) (Q := Q) (acc := acc) (o := e1.2) (d := d) (σ0 := σ) (v4 := nI (tw_km (ty_K T e1.1.2)) - (11 : Int32)) 31 (by omega) (fun y => no1 y) hP h1 hg (fun y => no1 y) (p2.of1 f3 r3 (fun y => no1 y)) (L := L) (fun y => no1 y) (σ1.1 87 46) (fun y => no1 y) (fr.tr (f3.mn (fun q j y => Or.inl (ta_S1E X.1 q j y))))
        rw [e32] at this
        exact this
      rw [et]
      rcases km.2 c with y | y
      · rw [if_pos y]; exact k80
      · by_cases y0 : nI (tw_km (ty_K T e1.1.2)) - (11 : Int32) < (0 : Int32)
        · rw [if_pos y0]; exact k80
        · rw [if_neg y0, if_neg y]; exact k80
  · rw [if_neg z]
    unfold f_m_literal_60
    rw [tw_ifE r2.z, if_neg z]
    have et : ty_tst T e1.1 = 31 := by unfold ty_tst; rw [ty_nx_f z, if_neg (by omega)]
    rw [et]
    exact ta_lit85 (f := f) (g := decide (no.2 % 2 = 1)) (a := 31 - 31) 31 (by omega) (fun y => absurd y z) hP h1 hg (fun y => absurd y z) p2 lr _ v3 fr
end TBB
