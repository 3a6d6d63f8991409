/-! THE MODEL READS: SETTINGS -/
def ta_se (T : List tw_Tk) : List Nat → List ty_Se → List (Nat × Nat)
  | _, [] => []
  | SN, x :: ss => ta_ne T SN [] x.1 ++ ta_se T (SN ++ [x.1]) ss
theorem ta_se_app (T : List tw_Tk) : ∀ (as bs : List ty_Se) (SN : List Nat), ta_se T SN (as ++ bs) = ta_se T SN as ++ ta_se T (SN ++ as.map (fun x => x.1)) bs
  | [], bs, SN => by rw [List.map_nil, List.append_nil]; rfl
  | x :: as, bs, SN => by
    rw [List.cons_append, ta_se, ta_se, ta_se_app T as bs, List.append_assoc, List.map_cons, List.append_assoc]
    rfl
def ta_sv (lv : Nat) (T : List tw_Tk) (ss : List ty_Se) (σ : rx_St) : Prop := ∀ (i : Nat) (x : ty_Se), ss[i]? = some x → σ.1 97 (6 * lv + i) = nI (ty_V T x.2)
theorem ta_sv.fr {lv : Nat} {T : List tw_Tk} {ss : List ty_Se} {σ σ' : rx_St} (h : ta_sv lv T ss σ) (f : ∀ j, 6 * lv ≤ j ∧ j < 6 * lv + ss.length → σ'.1 97 j = σ.1 97 j) : ta_sv lv T ss σ' := by
  intro i x hx
  have il := (List.getElem?_eq_some_iff.mp hx).1
  exact (f _ (by omega)).trans (h i x hx)
def ta_SS (lv q j : Nat) : Prop := ta_S1 q j ∨ ta_S5 q j ∨ q = 95 ∧ j = lv ∨ (q = 96 ∨ q = 97) ∧ (6 * lv ≤ j ∧ j < 6 * lv + 6)
section TBP
variable {T : List tw_Tk} {n : Nat} {lv : Nat} {C : List tz_Cd} {Q : List ta_Qu} {acc : Option (Nat × Nat)} {L : List ta_Lr}
theorem ta_s96 {s : ty_Ps} {ss : List ty_Se} {x : ty_Se} {v2 : Int32} {σ : rx_St} (hs : s.1 = 0) (h6 : ss.length < 6) (nm : ty_nm T x.1) (e2 : v2 = nI (ty_V T x.2)) (h : ta_ou lv T n s (ss.map (fun x => x.1)) [] C Q acc L σ) (hv : ta_sv lv T ss σ) :
    tw_ok (f_m_tellSet_96 (nI x.1) v2 σ) (fun σ' => tw_fr (ta_SS lv) σ σ' ∧ ta_ou lv T n s ((ss ++ [x]).map (fun x => x.1)) [] C Q acc L σ' ∧ ta_sv lv T (ss ++ [x]) σ') := by
  obtain ⟨h1, h2, h3⟩ := h
  obtain ⟨⟨a1, hlv⟩, ⟨b1, b2, b3⟩, a3, a4, a5, a6, a7⟩ := h3 hs
  rw [List.length_map] at b1
  have nm5 := nm.2
  obtain ⟨n1, -, -, -⟩ := tm_name (σ := σ) h1 nm
  unfold f_m_tellSet_96
  rw [a1]
  refine tw_g (vp_in_nI (by omega) (by decide)) (tw_g (vp_in_nI (by omega) (by decide)) ?_)
  rw [nI_clamp (by omega), b1, show (6 : Int32) * nI lv + nI ss.length = nI (6 * lv + ss.length) by rw [show (6 : Int32) = nI 6 from rfl, pk_mul, nI_add], nI_clamp (by omega), nI_clamp (by omega), n1]
  refine tw_g (vp_in_nI (by omega) (by decide)) ?_
  generalize hσ1 : rx_sl σ 96 (6 * lv + ss.length) (qL (tw_pk 27 (ty_Lt T x.1))) = σ1
  have z1 : σ1.1 = σ.1 := by rw [← hσ1]; rfl
  have z96 : σ1.2 96 (6 * lv + ss.length) = qL (tw_pk 27 (ty_Lt T x.1)) := by rw [← hσ1, tw_r2, if_pos ⟨rfl, rfl⟩]
  have f1 : tw_fr (fun q j => q = 96 ∧ j = 6 * lv + ss.length) σ σ1 := by rw [← hσ1]; exact tw_fr.rf.sl ⟨rfl, rfl⟩
  show tw_ok (rx_g (σ1.1 87 19) 2 (
    rx_g (((6 : Int32) * (σ1.1 87 19)) + (σ1.1 95 (σ1.1 87 19).toNatClampNeg)) 12 (
    let σ2 : rx_St := rx_si σ1 97 (((6 : Int32) * (σ1.1 87 19)) + (σ1.1 95 (σ1.1 87 19).toNatClampNeg)).toNatClampNeg v2;
    rx_g (σ2.1 87 19) 2 (
    rx_g (σ2.1 87 19) 2 (
    let σ3 : rx_St := rx_si σ2 95 (σ2.1 87 19).toNatClampNeg ((σ2.1 95 (σ2.1 87 19).toNatClampNeg) + (1 : Int32));
    some σ3))))) _
  rw [z1, a1]
  refine tw_g (vp_in_nI (by omega) (by decide)) ?_
  rw [nI_clamp (by omega), b1, show (6 : Int32) * nI lv + nI ss.length = nI (6 * lv + ss.length) by rw [show (6 : Int32) = nI 6 from rfl, pk_mul, nI_add], nI_clamp (by omega)]
  refine tw_g (vp_in_nI (by omega) (by decide)) ?_
  generalize hσ2 : rx_si σ1 97 (6 * lv + ss.length) v2 = σ2
  have f2 : tw_fr (fun q j => (q = 96 ∨ q = 97) ∧ j = 6 * lv + ss.length) σ σ2 := by rw [← hσ2]; exact (f1.mn (fun q j y => by omega)).si (by omega)
  have z97 : σ2.1 97 (6 * lv + ss.length) = nI (ty_V T x.2) := by rw [← hσ2, tw_r1s, e2]
  have z96' : σ2.2 96 (6 * lv + ss.length) = qL (tw_pk 27 (ty_Lt T x.1)) := by rw [← hσ2]; exact z96
  have y19 : σ2.1 87 19 = nI lv := (f2.i (by omega)).trans a1
  have y95 : σ2.1 95 lv = nI ss.length := (f2.i (by omega)).trans b1
  show tw_ok (rx_g (σ2.1 87 19) 2 (rx_g (σ2.1 87 19) 2 (some (rx_si σ2 95 (σ2.1 87 19).toNatClampNeg ((σ2.1 95 (σ2.1 87 19).toNatClampNeg) + (1 : Int32)))))) _
  rw [y19]
  refine tw_g (vp_in_nI (by omega) (by decide)) (tw_g (vp_in_nI (by omega) (by decide)) ?_)
  rw [nI_clamp (by omega), y95, show nI ss.length + (1 : Int32) = nI (ss.length + 1) from nI_add _ 1, tw_some]
  have f3 : tw_fr (fun q j => (q = 96 ∨ q = 97) ∧ j = 6 * lv + ss.length ∨ q = 95 ∧ j = lv) σ (rx_si σ2 95 lv (nI (ss.length + 1))) := (f2.mn (fun q j y => by omega)).si (by omega)
  have w95 : (rx_si σ2 95 lv (nI (ss.length + 1))).1 95 lv = nI (ss.length + 1) := tw_r1s _ _ _ _
  have w97 : (rx_si σ2 95 lv (nI (ss.length + 1))).1 97 (6 * lv + ss.length) = nI (ty_V T x.2) := by rw [tw_r1n _ _ (by omega)]; exact z97
  have w96 : (rx_si σ2 95 lv (nI (ss.length + 1))).2 96 (6 * lv + ss.length) = qL (tw_pk 27 (ty_Lt T x.1)) := z96'
  generalize rx_si σ2 95 lv (nI (ss.length + 1)) = σ3 at f3 w95 w96 w97 ⊢
  refine ⟨f3.mn (fun q j y => by unfold ta_SS; omega), ⟨h1.fr (fun q j a b => f3 q j (by omega)), h2.fr (fun j a => f3.i (by omega)), fun _ => ⟨⟨(f3.i (by omega)).trans a1, hlv⟩, ⟨?_, ?_, fun i t ht => ?_⟩, a3.fr (fun q j a => f3 q j (by omega)), a4.fr (fun q j a => f3.i (by omega)), a5, (f3.i (by omega)).trans a6, a7.fr (fun q j a => f3.i (by omega))⟩⟩, fun i y hy => ?_⟩
  · rw [List.length_map, List.length_append]; exact w95
  · rw [List.length_map, List.length_append]; show ss.length + 1 ≤ 6; omega
  · rw [List.map_append] at ht
    have ht' : (ss.map (fun x => x.1) ++ [x.1])[i]? = some t := ht
    rcases tw_app ht' with ⟨hp, hx⟩ | ⟨hp, rfl⟩
    · rw [List.length_map] at hp
      obtain ⟨a, b⟩ := b3 i t hx
      exact ⟨(f3.l (by omega)).trans a, b⟩
    · rw [List.length_map] at hp
      subst hp
      exact ⟨w96, nm⟩
  · rcases tw_app hy with ⟨hp, hx⟩ | ⟨hp, rfl⟩
    · exact (f3.i (by omega)).trans (hv i y hx)
    · subst hp
      exact w97
theorem ta_S1S : ∀ q j, ta_S1 q j → ta_SS lv q j := fun q j h => Or.inl h
/-- between the SETTINGS -/
def ta_si (lv : Nat) (T : List tw_Tk) (n : Nat) (s : ty_Ps) (C : List tz_Cd) (Q : List ta_Qu) (acc : Option (Nat × Nat)) (L : List ta_Lr) (ss : List ty_Se) (σ : rx_St) : Prop := ta_ou lv T n s (ss.map (fun x => x.1)) [] C Q (ty_mn T n acc (ta_se T [] ss)) L σ ∧ (s.1 = 0 → ta_sv lv T ss σ)
theorem ta_S58 {s : ty_Ps} {ss : List ty_Se} {x : ty_Se} {v1 v2 : Int32} {σ0 σ : rx_St} (hP : ∀ i, ty_Pl T n i ≤ 2000) (hx : (ty_tkn T 25 (ty_tkn T 24 s)).1 = 0 → v1 = nI x.1 ∧ ty_nm T x.1 ∧ v2 = nI (ty_V T x.2) ∧ ss.length < 6) (h : ta_si lv T n s C Q acc L ss σ) (f : tw_fr (ta_SS lv) σ0 σ) :
    tw_ok (f_m_tellSet_58 v1 v2 σ) (fun σ' => tw_fr (ta_SS lv) σ0 σ' ∧ ta_si lv T n (ty_tkn T 25 (ty_tkn T 24 s)) C Q acc L (ss ++ [x]) σ') := by
  unfold f_m_tellSet_58
  refine tw_b (ta_ou.mu (m := (2 : Int32)) 24 rfl (by omega) h.1) (fun σ1 g => ?_)
  obtain ⟨f1, p1⟩ := g
  refine tw_b (ta_ou.mu (m := (4 : Int32)) 25 rfl (by omega) p1) (fun σ2 g => ?_)
  obtain ⟨f2, p2⟩ := g
  have fA : tw_fr (ta_SS lv) σ0 σ2 := (f.tr (f1.mn ta_S1S)).tr (f2.mn ta_S1S)
  rw [tw_ifE p2.2.1.l]
  by_cases z : (ty_tkn T 25 (ty_tkn T 24 s)).1 = 0
  · rw [if_pos z]
    obtain ⟨e1, nm, e2, l6⟩ := hx z
    have nm5 := nm.2
    have hs := (ty_tkn_0 (ty_tkn_0 z).1).1
    have hv2 : ta_sv lv T ss σ2 := (h.2 hs).fr (fun j y => (f2.i (by unfold ta_S1; omega)).trans (f1.i (by unfold ta_S1; omega)))
    rw [e1]
    refine tw_g (vp_in_nI (by omega) (by decide)) ?_
    obtain ⟨n1, n2, n3, n4⟩ := tm_name (σ := σ2) p2.1 nm
    obtain ⟨⟨c1, hlv⟩, c2, c3, -⟩ := p2.2.2 z
    have eE : ta_se T [] (ss ++ [x]) = ta_se T [] ss ++ ta_ne T (ss.map (fun x => x.1)) [] x.1 := by
      rw [ta_se_app, ta_se, ta_se, List.append_nil, List.nil_append]
    rw [nI_clamp (by omega), n1, ta_named hlv c1 c2 c3 p2.1.2 n2 n3, Option.bind_some]
    have fin : ∀ (acc' : Option (Nat × Nat)) (σ3 : rx_St), acc' = ty_mn T n acc (ta_se T [] (ss ++ [x])) → tw_fr (ta_SS lv) σ0 σ3 → ta_sv lv T ss σ3 → ta_ou lv T n (ty_tkn T 25 (ty_tkn T 24 s)) (ss.map (fun x => x.1)) [] C Q acc' L σ3 → tw_ok (f_m_tellSet_96 (nI x.1) v2 σ3) (fun σ' => tw_fr (ta_SS lv) σ0 σ' ∧ ta_si lv T n (ty_tkn T 25 (ty_tkn T 24 s)) C Q acc L (ss ++ [x]) σ') := by
      intro acc' σ3 ea f3 hv3 p3
      subst ea
      refine tw_mono (ta_s96 z l6 nm e2 p3 hv3) (fun σ' k => ?_)
      obtain ⟨k1, k2, k3⟩ := k
      exact ⟨f3.tr k1, k2, fun _ => k3⟩
    by_cases c : ty_fi T (ty_Lt T x.1) (ss.map (fun x => x.1)) 0 = none ∧ ty_fi T (ty_Lt T x.1) [] 0 = none
    · rw [if_pos c, if_pos rfl]
      refine fin _ σ2 ?_ fA hv2 p2
      rw [eE, ta_ne, if_pos c, List.append_nil]
    · rw [if_neg c, if_neg (by decide)]
      refine tw_b (ta_ou.wr (m := (3 : Int32)) (k := 3) rfl hP z (by omega) (by omega) (by omega) (by omega) p2) (fun σ3 g => ?_)
      obtain ⟨f3, p3⟩ := g
      refine fin _ σ3 ?_ (fA.tr (f3.mn (fun q j a => Or.inr (Or.inl a)))) (hv2.fr (fun j y => f3.i (by unfold ta_S5; omega))) p3
      rw [eE, ta_ne, if_neg c, ty_mn_app]
      rfl
  · rw [if_neg z, tw_some]
    exact ⟨fA, p2.bad z, fun y => absurd y z⟩
theorem ta_S {s : ty_Ps} {ss : List ty_Se} {σ : rx_St} (hP : ∀ i, ty_Pl T n i ≤ 2000) (hK : ty_nx T s = 0) (h : ta_si lv T n s C Q acc L ss σ) : tw_ok (f_m_tellSet σ) (fun σ' => tw_fr (ta_SS lv) σ σ' ∧ ta_si lv T n (ty_S1 T ss.length s).1 C Q acc L (ss ++ [(ty_S1 T ss.length s).2]) σ') := by
  obtain ⟨hs, hk⟩ := ty_nx_0 (T := T) (s := s) (by omega)
  obtain ⟨⟨a1, hlv⟩, a2, -⟩ := h.1.2.2 hs
  have s6 := a2.2.1
  have s1 := a2.1
  rw [List.length_map] at s6 s1
  unfold f_m_tellSet
  rw [a1]
  refine tw_g (vp_in_nI (by omega) (by decide)) ?_
  rw [nI_clamp (by omega), s1]
  refine tm_room (F := f_m_tellSet_19) ss.length 6 (fun _ => ?_) h.1.1 h.1.2.1 (fun σ1 f1 r1 => ?_)
  · rw [show (nI ss.length = (6 : Int32)) = (ss.length = 6) from tw_eq (b := 6) (by omega) (by omega)]
    omega
  have h1 := h.1.of1 f1 r1 (fun z => by
    obtain ⟨-, -, e⟩ := ty_room_0 z
    rw [e]
    exact ⟨hs, Nat.le_refl _⟩)
  unfold f_m_tellSet_19
  refine tw_b (ta_ou.nx 0 (by omega) (fun z => by
    obtain ⟨-, -, e⟩ := ty_room_0 z
    rw [e, ← hk]
    exact hK) h1) (fun σ2 g => ?_)
  obtain ⟨f2, h2⟩ := g
  have pA := h2.2.1.p
  refine tw_b (ta_ou.mu (m := (1 : Int32)) 23 rfl (by omega) h2) (fun σ3 g => ?_)
  obtain ⟨f3, h3⟩ := g
  refine tw_b (ta_ou.mu (m := (5 : Int32)) 26 rfl (by omega) h3) (fun σ4 g => ?_)
  obtain ⟨f4, h4⟩ := g
  have f4A : tw_fr ta_S1 σ σ4 := ((f1.tr f2).tr f3).tr f4
  have si : ta_si lv T n (ty_tkn T 26 (ty_tkn T 23 (ty_tkn T 0 (ty_room ss.length 6 s)))) C Q acc L ss σ4 := ⟨h4, fun _ => (h.2 hs).fr (fun j y => f4A.i (by unfold ta_S1; omega))⟩
  have go : ∀ v2 : Int32, ((ty_tkn T 24 (ty_tkn T 26 (ty_tkn T 23 (ty_tkn T 0 (ty_room ss.length 6 s))))).1 = 0 → v2 = nI (ty_V T (ty_tkn T 26 (ty_tkn T 23 (ty_tkn T 0 (ty_room ss.length 6 s)))).2)) → tw_ok (f_m_tellSet_58 (σ2.1 87 11) v2 σ4) (fun σ' => tw_fr (ta_SS lv) σ σ' ∧ ta_si lv T n (ty_S1 T ss.length s).1 C Q acc L (ss ++ [(ty_S1 T ss.length s).2]) σ') := by
    intro v2 e2
    refine ta_S58 (x := (ty_S1 T ss.length s).2) hP (fun z => ?_) si (f4A.mn ta_S1S)
    have z24 := (ty_tkn_0 z).1
    have z23 := (ty_tkn_0 (ty_tkn_0 z24).1).1
    have z0 := (ty_tkn_0 z23).1
    obtain ⟨-, l6, -⟩ := ty_room_0 (ty_tkn_0 z0).1
    exact ⟨(pA z0).1, ty_nm_of z23, e2 z24, l6⟩
  rw [tw_ifE h4.2.1.l]
  by_cases z : (ty_tkn T 26 (ty_tkn T 23 (ty_tkn T 0 (ty_room ss.length 6 s)))).1 = 0
  · rw [if_pos z]
    obtain ⟨y1, y2, y3⟩ := h4.2.1.p z
    rw [y1]
    refine tw_g (vp_in_nI (by omega) (by decide)) ?_
    rw [nI_clamp (by omega)]
    exact go _ (fun z24 => (tm_val (σ := σ4) h4.1 (ty_tkn_0 z24).2.1 y2).1)
  · rw [if_neg z]
    exact go _ (fun z24 => absurd (ty_tkn_0 z24).1 z)
/-- all SETTINGS -/
theorem ta_sls {P : Int32 × rx_St → Prop} {σ0 : rx_St} (hP : ∀ i, ty_Pl T n i ≤ 2000) : ∀ (j m : Nat) (ss : List ty_Se) (s : ty_Ps) (σ : rx_St), j + ss.length = 7 → j < m → ta_si lv T n s C Q acc L ss σ → tw_fr (ta_SS lv) σ0 σ →
    (∀ σ', tw_fr (ta_SS lv) σ0 σ' → ta_si lv T n (ty_ss T j s ss).1 C Q acc L (ty_ss T j s ss).2 σ' → tw_ok (f_m_read_145 rx_fu σ') P) → tw_ok (f_m_read_129 m σ) P := by
  intro j
  induction j with
  | zero =>
    intro m ss s σ hj hm h f k
    obtain ⟨m, rfl⟩ : ∃ m', m = m' + 1 := ⟨m - 1, by omega⟩
    have z : ¬ s.1 = 0 := fun z => by
      have := (h.1.2.2 z).2.1.2.1
      rw [List.length_map] at this
      omega
    unfold f_m_read_129
    rw [tm_is (m := (20 : Int32)) 0 rfl (by omega) h.1.1 h.1.2.1, Option.bind_some, tm_ifz, if_neg (by rw [ty_nx_f z]; omega)]
    exact k σ f h
  | succ j ih =>
    intro m ss s σ hj hm h f k
    obtain ⟨m, rfl⟩ : ∃ m', m = m' + 1 := ⟨m - 1, by omega⟩
    unfold f_m_read_129
    rw [tm_is (m := (20 : Int32)) 0 rfl (by omega) h.1.1 h.1.2.1, Option.bind_some, tm_ifz]
    unfold ty_ss at k
    by_cases c : ty_nx T s = 0
    · rw [if_pos c]
      rw [if_pos c] at k
      refine tw_b (ta_S hP c h) (fun σ1 g => ?_)
      exact ih m _ _ σ1 (by rw [List.length_append]; show j + (ss.length + 1) = 7; omega) (by omega) g.2 (f.tr g.1) k
    · rw [if_neg c]
      rw [if_neg c] at k
      exact k σ f h
end TBP
