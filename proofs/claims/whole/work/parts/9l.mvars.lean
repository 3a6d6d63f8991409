/-! THE MODEL READS: VARS -/
def ta_ve1 (T : List tw_Tk) (VN : List Nat) (t : Nat) : List (Nat × Nat) := if ty_fi T (ty_Lt T t) VN 0 = none then [] else [(3, t)]
def ta_ve (T : List tw_Tk) : List Nat → List ty_Va → List (Nat × Nat)
  | _, [] => []
  | VN, x :: vs => ta_ve1 T VN x.1 ++ ta_ve T (VN ++ [x.1]) vs
theorem ta_ve_app (T : List tw_Tk) : ∀ (as bs : List ty_Va) (VN : List Nat), ta_ve T VN (as ++ bs) = ta_ve T VN as ++ ta_ve T (VN ++ as.map (fun x => x.1)) bs
  | [], bs, VN => by rw [List.map_nil, List.append_nil]; rfl
  | x :: as, bs, VN => by
    rw [List.cons_append, ta_ve, ta_ve, ta_ve_app T as bs, List.append_assoc, List.map_cons, List.append_assoc]
    rfl
def ta_vr (kk : Nat) (T : List tw_Tk) (vs : List ty_Va) (σ : rx_St) : Prop := ∀ (i : Nat) (x : ty_Va), vs[i]? = some x → σ.1 102 (6 * kk + i) = tz_val T x ∧ σ.1 103 (6 * kk + i) = tw_B x.2.2.2
theorem ta_vr.fr {kk : Nat} {T : List tw_Tk} {vs : List ty_Va} {σ σ' : rx_St} (h : ta_vr kk T vs σ) (f : ∀ q j, (q = 102 ∨ q = 103) ∧ 6 * kk ≤ j ∧ j < 6 * kk + vs.length → σ'.1 q j = σ.1 q j) : ta_vr kk T vs σ' := by
  intro i x hx
  have il := (List.getElem?_eq_some_iff.mp hx).1
  obtain ⟨a, b⟩ := h i x hx
  exact ⟨(f _ _ (by omega)).trans a, (f _ _ (by omega)).trans b⟩
theorem ta_vn.fr {kk : Nat} {T : List tw_Tk} {VN : List Nat} {σ σ' : rx_St} (h : ta_vn kk T VN σ) (f : ∀ q j, q = 100 ∧ j = kk ∨ q = 101 ∧ 6 * kk ≤ j ∧ j < 6 * kk + VN.length → σ'.1 q j = σ.1 q j ∧ σ'.2 q j = σ.2 q j) : ta_vn kk T VN σ' := by
  obtain ⟨h1, h2, h3⟩ := h
  refine ⟨(f _ _ (by omega)).1.trans h1, h2, fun i t ht => ?_⟩
  have il := (List.getElem?_eq_some_iff.mp ht).1
  obtain ⟨a, b⟩ := h3 i t ht
  exact ⟨(f _ _ (by omega)).2.trans a, b⟩
theorem ta_sn.fr {lv : Nat} {T : List tw_Tk} {SN : List Nat} {σ σ' : rx_St} (h : ta_sn lv T SN σ) (f : ∀ q j, q = 95 ∧ j = lv ∨ q = 96 ∧ 6 * lv ≤ j ∧ j < 6 * lv + SN.length → σ'.1 q j = σ.1 q j ∧ σ'.2 q j = σ.2 q j) : ta_sn lv T SN σ' := by
  obtain ⟨h1, h2, h3⟩ := h
  refine ⟨(f _ _ (by omega)).1.trans h1, h2, fun i t ht => ?_⟩
  have il := (List.getElem?_eq_some_iff.mp ht).1
  obtain ⟨a, b⟩ := h3 i t ht
  exact ⟨(f _ _ (by omega)).2.trans a, b⟩
section TBL
variable {T : List tw_Tk} {n : Nat} {d : Nat} {C : List tz_Cd} {Q : List ta_Qu} {acc : Option (Nat × Nat)} {L : List ta_Lr}
/-- other KIND, other VARS -/
theorem ta_pl.rX {s : ty_Ps} {lv kk kk' : Nat} {SN VN VN' : List Nat} {σ σ' : rx_St} (h : ta_pl (lv, kk, SN, VN) T n s d C Q acc L σ) (f : tw_fr (fun q j => 98 ≤ q ∧ q ≤ 104 ∨ q = 87 ∧ j = 56) σ σ') (h5 : σ'.1 87 56 = nI kk' ∧ kk' < 10) (hv : ta_vn kk' T VN' σ') : ta_pl (lv, kk', SN, VN') T n s d C Q acc L σ' := by
  obtain ⟨⟨⟨a1, a2, a3, a4, a5⟩, h2, ⟨c, r1, r2⟩, h4⟩, h6⟩ := h
  refine ⟨⟨⟨a1.fr (fun q j a b => f q j (by omega)), ⟨(f.i (by omega)).trans a2.1, a2.2⟩, h5, a4.fr (fun q j a => f q j (by omega)), hv⟩, h2.fr (fun j a => f.i (by omega)), ⟨c, (f.i (by omega)).trans r1, r2⟩, fun z => ?_⟩, fun z => (h6 z).fr (fun q j a => f.i (by omega))⟩
  obtain ⟨g1, g2, g3⟩ := h4 z
  exact ⟨g1.fr (fun q j a => f.i (by omega)), g2, (f.i (by omega)).trans g3⟩
theorem ta_pl.wr {X : ta_X} {s : ty_Ps} {k t : Nat} {m : Int32} {σ : rx_St} (hm : m = nI k) (hP : ∀ i, ty_Pl T n i ≤ 2000) (hs : s.1 = 0) (h5 : t ≤ 500) (hl : t ≤ T.length) (hk : 1 ≤ k) (hk8 : k < 8) (h : ta_pl X T n s d C Q acc L σ) : tw_ok (f_m_wrong m (nI t) σ) (fun σ' => tw_fr ta_S5 σ σ' ∧ ta_pl X T n s d C Q (ty_st T n acc (k, t)) L σ') := by
  obtain ⟨⟨h1, h2, ⟨c, r1, r2⟩, h4⟩, h6⟩ := h
  obtain ⟨g1, g2, g3⟩ := h4 hs
  refine tw_mono (tm_wrong hm hP h1.1 h2 hs h5 hl hk hk8 g1.2.2) (fun σ' g => ?_)
  obtain ⟨f, w⟩ := g
  obtain ⟨⟨q1, q2⟩, ⟨q3, q4⟩, -⟩ := g1
  refine ⟨f, ⟨h1.fr (f.mn (fun q j a => by unfold ta_S5 at a; unfold ta_SE; omega)), h2.fr (fun j a => f.i (by unfold ta_S5; omega)), ⟨c, (f.i (by unfold ta_S5; omega)).trans r1, r2⟩, fun _ => ⟨⟨⟨(f.i (by unfold ta_S5; omega)).trans q1, fun p x hx => ?_⟩, ⟨(f.i (by unfold ta_S5; omega)).trans q3, fun p x hx => ?_⟩, w⟩, g2, (f.i (by unfold ta_S5; omega)).trans g3⟩⟩, fun z => (h6 z).fr (fun q j a => f.i (by unfold ta_S5; omega))⟩
  · obtain ⟨a, b, e⟩ := q2 p x hx
    exact ⟨(f.i (by unfold ta_S5; omega)).trans a, (f.i (by unfold ta_S5; omega)).trans b, (f.i (by unfold ta_S5; omega)).trans e⟩
  · obtain ⟨a, b, e, e2, e3⟩ := q4 p x hx
    exact ⟨(f.i (by unfold ta_S5; omega)).trans a, (f.i (by unfold ta_S5; omega)).trans b, (f.i (by unfold ta_S5; omega)).trans e, (f.i (by unfold ta_S5; omega)).trans e2, fun y => (f.i (by unfold ta_S5; omega)).trans (e3 y)⟩
/-- rows of a VAR -/
theorem ta_v137 {s : ty_Ps} {lv kk : Nat} {SN : List Nat} {vs : List ty_Va} {x : ty_Va} {v1 v3 v4 : Int32} {σ : rx_St} (h : ta_pl (lv, kk, SN, vs.map (fun x => x.1)) T n s d C Q acc L σ) (h6 : vs.length < 6) (vr : ta_vr kk T vs σ) (nm : ty_nm T x.1) (h1 : v1 = tw_B x.2.2.2) (h3 : v3 * v4 = tz_val T x) :
    tw_ok (f_m_tellVar_137 v1 (nI x.1) v3 v4 σ) (fun σ' => tw_fr (fun q j => q = 100 ∧ j = kk ∨ (101 ≤ q ∧ q ≤ 103) ∧ j = 6 * kk + vs.length) σ σ' ∧ ta_pl (lv, kk, SN, (vs ++ [x]).map (fun x => x.1)) T n s d C Q acc L σ' ∧ ta_vr kk T (vs ++ [x]) σ') := by
  obtain ⟨x56, k10⟩ := h.1.1.2.2.1
  obtain ⟨x100, -, x101⟩ := h.1.1.2.2.2.2
  have x56 : σ.1 87 56 = nI kk := x56
  have k10 : kk < 10 := k10
  rw [List.length_map] at x100
  have nm5 := nm.2
  obtain ⟨n1, -, -, -⟩ := tm_name (σ := σ) h.1.1.1 nm
  have b1 : vp_nar .boolean v1 = tw_B x.2.2.2 := by rw [h1]; cases x.2.2.2 <;> rfl
  unfold f_m_tellVar_137
  rw [x56]
  refine tw_g (vp_in_nI (by omega) (by decide)) ?_
  rw [nI_clamp (by omega), x100, h3, b1, show (6 : Int32) * nI kk + nI vs.length = nI (6 * kk + vs.length) by rw [show (6 : Int32) = nI 6 from rfl, pk_mul, nI_add]]
  refine tw_g (vp_in_nI (by omega) (by decide)) (tw_g (vp_in_nI (by omega) (by decide)) ?_)
  rw [nI_clamp (by omega), nI_clamp (by omega), n1]
  refine tw_g (vp_in_nI (by omega) (by decide)) (tw_g (vp_in_nI (by omega) (by decide)) ?_)
  generalize hσ2 : rx_si (rx_si (rx_sl σ 101 (6 * kk + vs.length) (qL (tw_pk 27 (ty_Lt T x.1)))) 102 (6 * kk + vs.length) (tz_val T x)) 103 (6 * kk + vs.length) (tw_B x.2.2.2) = σ2
  have f2 : tw_fr (fun q j => (101 ≤ q ∧ q ≤ 103) ∧ j = 6 * kk + vs.length) σ σ2 := by
    rw [← hσ2]
    exact ((tw_fr.rf.sl ⟨by omega, rfl⟩).si ⟨by omega, rfl⟩).si ⟨by omega, rfl⟩
  show tw_ok (rx_g (σ2.1 87 56) 10 (rx_g (σ2.1 87 56) 10 (some (rx_si σ2 100 (σ2.1 87 56).toNatClampNeg ((σ2.1 100 (σ2.1 87 56).toNatClampNeg) + (1 : Int32)))))) _
  rw [f2.i (show ¬ ((101 ≤ 87 ∧ 87 ≤ 103) ∧ 56 = 6 * kk + vs.length) by omega), x56, nI_clamp (by omega), f2.i (show ¬ ((101 ≤ 100 ∧ 100 ≤ 103) ∧ kk = 6 * kk + vs.length) by omega), x100, show nI vs.length + (1 : Int32) = nI (vs.length + 1) from nI_add _ 1]
  refine tw_g (vp_in_nI (by omega) (by decide)) (tw_g (vp_in_nI (by omega) (by decide)) ?_)
  rw [tw_some]
  have f3 : tw_fr (fun q j => q = 100 ∧ j = kk ∨ (101 ≤ q ∧ q ≤ 103) ∧ j = 6 * kk + vs.length) σ (rx_si σ2 100 kk (nI (vs.length + 1))) := (f2.mn (fun q j a => Or.inr a)).si (Or.inl ⟨rfl, rfl⟩)
  have e101 : (rx_si σ2 100 kk (nI (vs.length + 1))).2 101 (6 * kk + vs.length) = qL (tw_pk 27 (ty_Lt T x.1)) := by
    rw [← hσ2]
    show (rx_sl σ 101 (6 * kk + vs.length) (qL (tw_pk 27 (ty_Lt T x.1)))).2 101 (6 * kk + vs.length) = _
    rw [tw_r2, if_pos ⟨rfl, rfl⟩]
  have e102 : (rx_si σ2 100 kk (nI (vs.length + 1))).1 102 (6 * kk + vs.length) = tz_val T x := by
    rw [tw_r1n _ _ (by omega), ← hσ2, tw_r1n _ _ (by omega), tw_r1s]
  have e103 : (rx_si σ2 100 kk (nI (vs.length + 1))).1 103 (6 * kk + vs.length) = tw_B x.2.2.2 := by
    rw [tw_r1n _ _ (by omega), ← hσ2, tw_r1s]
  refine ⟨f3, h.rX (f3.mn (fun q j a => by omega)) ⟨(f3.i (by omega)).trans x56, k10⟩ ⟨?_, ?_, fun i t ht => ?_⟩, fun i y hy => ?_⟩
  · rw [tw_r1s, List.length_map, List.length_append]; rfl
  · rw [List.length_map, List.length_append]; show vs.length + 1 ≤ 6; omega
  · rw [List.map_append] at ht
    have ht' : (vs.map (fun x => x.1) ++ [x.1])[i]? = some t := ht
    rcases tw_app ht' with ⟨hp, hx⟩ | ⟨hp, rfl⟩
    · rw [List.length_map] at hp
      obtain ⟨a, b⟩ := x101 i t hx
      exact ⟨(f3.l (by omega)).trans a, b⟩
    · rw [List.length_map] at hp
      subst hp
      exact ⟨e101, nm⟩
  · rcases tw_app hy with ⟨hp, hx⟩ | ⟨hp, rfl⟩
    · obtain ⟨a, b⟩ := vr i y hx
      exact ⟨(f3.i (by omega)).trans a, (f3.i (by omega)).trans b⟩
    · subst hp
      exact ⟨e102, e103⟩
end TBL
