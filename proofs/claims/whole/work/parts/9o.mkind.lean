/-! THE MODEL READS: tellKind -/
def ta_X1 (lv : Nat) (SN : List Nat) (k : Nat) (K : ty_Ki) : ta_X := (lv, 5 * lv + k, SN, K.2.1.map (fun x => x.1))
/-- the rows of a KIND -/
def ta_k1 (lv : Nat) (T : List tw_Tk) (SN : List Nat) (σ : rx_St) (k p a : Nat) (K : ty_Ki) : Prop := ta_vn (5 * lv + k) T (K.2.1.map (fun x => x.1)) σ ∧ ta_vr (5 * lv + k) T K.2.1 σ ∧ σ.1 104 (5 * lv + k) = nI K.2.2.length ∧ K.2.2.length ≤ 8 ∧ (∀ r ∈ K.2.2, r.2.length ≤ 6) ∧ ta_rrs T (ta_X1 lv SN k K) σ 0 p a K.2.2
def ta_SQ (lv k q j : Nat) : Prop := k < 5 ∧ (ta_SK (5 * lv + k) lv q j ∨ ta_SV (5 * lv + k) q j ∨ q = 87 ∧ j = 56 ∨ q = 98 ∧ j = lv ∨ q = 99 ∧ j = 5 * lv + k) ∨ ta_S1 q j
theorem ta_k1.fr {lv : Nat} {T : List tw_Tk} {SN : List Nat} {σ σ' : rx_St} {k p a : Nat} {K : ty_Ki} (h : ta_k1 lv T SN σ k p a K) (f : ∀ q j, (q = 100 ∨ q = 104) ∧ j = 5 * lv + k ∨ (101 ≤ q ∧ q ≤ 103) ∧ 6 * (5 * lv + k) ≤ j ∧ j < 6 * (5 * lv + k) + 6 ∨ (105 ≤ q ∧ q ≤ 107) ∧ j < 8 * (5 * lv + k) + 8 ∨ (q = 108 ∨ q = 109 ∨ q = 112 ∨ q = 113) ∧ j < 48 * (5 * lv + k) + 48 → σ'.1 q j = σ.1 q j ∧ σ'.2 q j = σ.2 q j) : ta_k1 lv T SN σ' k p a K := by
  obtain ⟨h1, h2, h3, h4, h5, h6⟩ := h
  have l6 := h1.2.1
  have l6' := h1.2.1
  rw [List.length_map] at l6'
  refine ⟨h1.fr (fun q j y => f q j (by omega)), h2.fr (fun q j y => (f q j (by omega)).1), ((f _ _ (by omega)).1).trans h3, h4, h5, ta_rrs.fr2 _ _ _ _ h5 (fun q j y => (f q j ?_).1) h6⟩
  have y : (105 ≤ q ∧ q ≤ 107) ∧ j < 8 * (5 * lv + k) + (0 + K.2.2.length) ∨ (q = 108 ∨ q = 109 ∨ q = 112 ∨ q = 113) ∧ j < 6 * (8 * (5 * lv + k) + (0 + K.2.2.length)) := y
  omega
section TBO
variable {T : List tw_Tk} {n : Nat} {lv : Nat} {SN KN : List Nat} {C : List tz_Cd} {Q : List ta_Qu} {acc : Option (Nat × Nat)} {L : List ta_Lr}
/-- what a KIND leaves -/
def ta_kd (lv : Nat) (T : List tw_Tk) (n : Nat) (SN KN : List Nat) (C : List tz_Cd) (Q : List ta_Qu) (acc : Option (Nat × Nat)) (L : List ta_Lr) (σ : rx_St) (w : ty_Ps × ty_Ki) (σ' : rx_St) : Prop := tw_fr (ta_SQ lv KN.length) σ σ' ∧ ta_ou lv T n w.1 SN (KN ++ [w.2.1]) (C ++ (ta_rops w.2.2.2).map (ta_oc T (ta_X1 lv SN KN.length w.2))) (Q ++ ta_rqs (ta_X1 lv SN KN.length w.2) C.length 0 w.2.2.2) (ty_mn T n acc (ta_ne T SN KN w.2.1 ++ (ta_ve T [] w.2.2.1 ++ w.2.2.2.flatMap (ta_re T (ta_X1 lv SN KN.length w.2))))) (L ++ ta_rls C.length w.2.2.2) σ' ∧ (w.1.1 = 0 → KN.length < 5 ∧ ta_k1 lv T SN σ' KN.length C.length L.length w.2)
/-- its row, then all that stands in it -/
theorem ta_k59 {s : ty_Ps} {t : Nat} {acc0 : Option (Nat × Nat)} {σ0 σ : rx_St} (hP : ∀ i, ty_Pl T n i ≤ 2000) (hs : s.1 = 0) (hl5 : KN.length < 5) (nm : ty_nm T t) (e0 : ty_mn T n acc (ta_ne T SN KN t) = acc0) (h : ta_ou lv T n s SN KN C Q acc0 L σ) (f : tw_fr (ta_SQ lv KN.length) σ0 σ) :
    tw_ok (f_m_tellKind_59 (nI t) σ) (ta_kd lv T n SN KN C Q acc L σ0 (ty_tkn T 2 (ty_rs T 9 (ty_hs T 7 s []).1 []).1, (t, (ty_hs T 7 s []).2, (ty_rs T 9 (ty_hs T 7 s []).1 []).2))) := by
  obtain ⟨h1, h2, h3⟩ := h
  obtain ⟨⟨a1, hlv⟩, a2, ⟨k1, k2, k3⟩, a4, a5, a6, a7⟩ := h3 hs
  have nm5 := nm.2
  have hs5 := (h2.p hs).2.1
  obtain ⟨n1, -, -, -⟩ := tm_name (σ := σ) h1 nm
  unfold f_m_tellKind_59
  rw [a1]
  refine tw_g (vp_in_nI (by omega) (by decide)) ?_
  rw [nI_clamp (by omega), k1, show (5 : Int32) * nI lv + nI KN.length = nI (5 * lv + KN.length) by rw [show (5 : Int32) = nI 5 from rfl, pk_mul, nI_add]]
  refine tw_g (vp_in_nI (by omega) (by decide)) ?_
  have e56 : (rx_si σ 87 56 (nI (5 * lv + KN.length))).1 87 56 = nI (5 * lv + KN.length) := tw_r1s _ _ _ _
  rw [e56]
  refine tw_g (vp_in_nI (by omega) (by decide)) ?_
  rw [nI_clamp (by omega), nI_clamp (by omega), show (rx_si σ 87 56 (nI (5 * lv + KN.length))).2 93 t = qL (tw_pk 27 (ty_Lt T t)) from n1]
  generalize hσ2 : rx_sl (rx_si σ 87 56 (nI (5 * lv + KN.length))) 99 (5 * lv + KN.length) (qL (tw_pk 27 (ty_Lt T t))) = σ2
  have e2 : σ2.1 = (rx_si σ 87 56 (nI (5 * lv + KN.length))).1 := by rw [← hσ2]; rfl
  have f2 : tw_fr (fun q j => q = 87 ∧ j = 56 ∨ q = 99 ∧ j = 5 * lv + KN.length) σ σ2 := by
    rw [← hσ2]
    exact (tw_fr.rf.si (Or.inl ⟨rfl, rfl⟩)).sl (Or.inr ⟨rfl, rfl⟩)
  have e99 : σ2.2 99 (5 * lv + KN.length) = qL (tw_pk 27 (ty_Lt T t)) := by
    rw [← hσ2, tw_r2, if_pos ⟨rfl, rfl⟩]
  rw [← e2] at e56
  show tw_ok (rx_g (σ2.1 87 56) 10 (
    let σ3 : rx_St := rx_si σ2 100 (σ2.1 87 56).toNatClampNeg (0 : Int32);
    rx_g (σ3.1 87 56) 10 (
    let σ4 : rx_St := rx_si σ3 104 (σ3.1 87 56).toNatClampNeg (0 : Int32);
    rx_g (σ4.1 87 19) 2 (
    rx_g (σ4.1 87 19) 2 (
    let σ5 : rx_St := rx_si σ4 98 (σ4.1 87 19).toNatClampNeg ((σ4.1 98 (σ4.1 87 19).toNatClampNeg) + (1 : Int32));
    f_m_tellKind_127 rx_fu σ5))))) _
  rw [e56]
  refine tw_g (vp_in_nI (by omega) (by decide)) ?_
  rw [nI_clamp (by omega)]
  generalize hσ3 : rx_si σ2 100 (5 * lv + KN.length) (0 : Int32) = σ3
  have e3 : σ3.1 87 56 = nI (5 * lv + KN.length) := by rw [← hσ3, tw_r1n _ _ (by omega)]; exact e56
  show tw_ok (rx_g (σ3.1 87 56) 10 (
    let σ4 : rx_St := rx_si σ3 104 (σ3.1 87 56).toNatClampNeg (0 : Int32);
    rx_g (σ4.1 87 19) 2 (
    rx_g (σ4.1 87 19) 2 (
    let σ5 : rx_St := rx_si σ4 98 (σ4.1 87 19).toNatClampNeg ((σ4.1 98 (σ4.1 87 19).toNatClampNeg) + (1 : Int32));
    f_m_tellKind_127 rx_fu σ5)))) _
  rw [e3]
  refine tw_g (vp_in_nI (by omega) (by decide)) ?_
  rw [nI_clamp (by omega)]
  generalize hσ4 : rx_si σ3 104 (5 * lv + KN.length) (0 : Int32) = σ4
  have f4 : tw_fr (fun q j => q = 87 ∧ j = 56 ∨ (q = 99 ∨ q = 100 ∨ q = 104) ∧ j = 5 * lv + KN.length) σ σ4 := by
    rw [← hσ4, ← hσ3]
    exact ((f2.mn (fun q j y => by omega)).si (by omega)).si (by omega)
  have x19 : σ4.1 87 19 = nI lv := (f4.i (by omega)).trans a1
  have x98 : σ4.1 98 lv = nI KN.length := (f4.i (by omega)).trans k1
  have x56 : σ4.1 87 56 = nI (5 * lv + KN.length) := by rw [← hσ4, tw_r1n _ _ (by omega)]; exact e3
  have x100 : σ4.1 100 (5 * lv + KN.length) = nI 0 := by rw [← hσ4, ← hσ3, tw_r1n _ _ (by omega), tw_r1s]; rfl
  have x104 : σ4.1 104 (5 * lv + KN.length) = nI 0 := by rw [← hσ4, tw_r1s]; rfl
  have x99 : σ4.2 99 (5 * lv + KN.length) = qL (tw_pk 27 (ty_Lt T t)) := by rw [← hσ4, ← hσ3]; exact e99
  show tw_ok (rx_g (σ4.1 87 19) 2 (rx_g (σ4.1 87 19) 2 (f_m_tellKind_127 rx_fu (rx_si σ4 98 (σ4.1 87 19).toNatClampNeg ((σ4.1 98 (σ4.1 87 19).toNatClampNeg) + (1 : Int32)))))) _
  rw [x19]
  refine tw_g (vp_in_nI (by omega) (by decide)) (tw_g (vp_in_nI (by omega) (by decide)) ?_)
  rw [nI_clamp (by omega), x98, show nI KN.length + (1 : Int32) = nI (KN.length + 1) from nI_add _ 1]
  have f5 : tw_fr (fun q j => q = 87 ∧ j = 56 ∨ (q = 99 ∨ q = 100 ∨ q = 104) ∧ j = 5 * lv + KN.length ∨ q = 98 ∧ j = lv) σ (rx_si σ4 98 lv (nI (KN.length + 1))) := (f4.mn (fun q j y => by omega)).si (by omega)
  have y98 : (rx_si σ4 98 lv (nI (KN.length + 1))).1 98 lv = nI (KN.length + 1) := tw_r1s _ _ _ _
  have y99 : (rx_si σ4 98 lv (nI (KN.length + 1))).2 99 (5 * lv + KN.length) = qL (tw_pk 27 (ty_Lt T t)) := x99
  have y56 : (rx_si σ4 98 lv (nI (KN.length + 1))).1 87 56 = nI (5 * lv + KN.length) := by rw [tw_r1n _ _ (by omega)]; exact x56
  have y100 : (rx_si σ4 98 lv (nI (KN.length + 1))).1 100 (5 * lv + KN.length) = nI 0 := by rw [tw_r1n _ _ (by omega)]; exact x100
  have y104 : (rx_si σ4 98 lv (nI (KN.length + 1))).1 104 (5 * lv + KN.length) = nI 0 := by rw [tw_r1n _ _ (by omega)]; exact x104
  generalize rx_si σ4 98 lv (nI (KN.length + 1)) = σ5 at f5 y98 y99 y56 y100 y104 ⊢
  have fA : tw_fr (ta_SQ lv KN.length) σ0 σ5 := f.tr (f5.mn (fun q j y => by
    unfold ta_SQ ta_SV ta_SK
    omega))
  have hkn : ta_kn lv T (KN ++ [t]) σ5 := by
    refine ⟨by rw [List.length_append]; exact y98, by rw [List.length_append]; show KN.length + 1 ≤ 5; omega, fun i u hu => ?_⟩
    rcases tw_app hu with ⟨hp, hx⟩ | ⟨hp, rfl⟩
    · obtain ⟨a, b⟩ := k3 i u hx
      exact ⟨(f5.l (by omega)).trans a, b⟩
    · subst hp
      exact ⟨y99, nm⟩
  have pl : ta_pl (lv, 5 * lv + KN.length, SN, []) T n s 0 C Q acc0 L σ5 := by
    refine ⟨⟨⟨h1.fr (fun q j a b => f5 q j (by omega)), ⟨(f5.i (by omega)).trans a1, hlv⟩, ⟨y56, by show 5 * lv + KN.length < 10; omega⟩, a2.fr (fun q j a => f5 q j (by omega)), y100, Nat.zero_le _, fun i u hu => by cases hu⟩, h2.fr (fun j a => f5.i (by omega)), ⟨C.length, (f5.i (by omega)).trans a4.1.1, by omega⟩, fun _ => ⟨a4.fr (fun q j a => f5.i (by omega)), by omega, (f5.i (by omega)).trans a6⟩⟩, fun _ => a7.fr (fun q j a => f5.i (by omega))⟩
  refine ta_vls (lv := lv) (kk := 5 * lv + KN.length) (SN := SN) (d := 0) (C := C) (Q := Q) (acc := acc0) (L := L) (σ0 := σ5) hP 7 rx_fu [] s σ5 rfl (by show 7 < 100000; omega) ⟨[], pl, fun _ => ⟨rfl, by decide, fun i x hx => by cases hx⟩⟩ tw_fr.rf (fun σ6 f6 h6 => ?_)
  have hT := h1.2
  generalize hvs : ty_hs T 7 s [] = V at h6 ⊢
  obtain ⟨VN, p6, q6⟩ := h6
  have i6 : ta_in (lv, 5 * lv + KN.length, SN, VN) T n V.1 0 C Q (ty_mn T n acc0 (ta_ve T [] V.2)) L [] σ6 := by
    refine ⟨?_, fun z => ⟨(f6.i (by unfold ta_SV ta_S1 ta_S5; omega)).trans y104, Nat.zero_le _, fun r hr => (by cases hr), trivial⟩⟩
    show ta_pl (lv, 5 * lv + KN.length, SN, VN) T n V.1 0 (C ++ []) (Q ++ []) _ (L ++ []) σ6
    rw [List.append_nil, List.append_nil, List.append_nil]
    exact p6
  refine tw_mono (ta_rul (σ0 := σ6) hP 9 rx_fu [] V.1 σ6 rfl (by show 9 < 100000; omega) i6 tw_fr.rf) (fun σ7 g => ?_)
  obtain ⟨f7, i7⟩ := g
  have fB : tw_fr (ta_SQ lv KN.length) σ0 σ7 := (fA.tr (f6.mn (fun q j y => Or.inl ⟨hl5, Or.inr (Or.inl y)⟩))).tr (f7.mn (fun q j y => Or.inl ⟨hl5, Or.inl y⟩))
  refine ⟨fB, ?_, fun z => ?_⟩
  · refine ⟨i7.1.1.1.1, i7.1.1.2.1, fun z => ?_⟩
    have zr := (ty_tkn_0 z).1
    have zv := (ty_rs_v hT 9 V.1 [] zr).1
    obtain ⟨ev, v6, vr⟩ := q6 zv
    subst ev
    obtain ⟨⟨⟨c1, c2, c3, c4, c5⟩, -, -, c6⟩, c7⟩ := i7.1
    obtain ⟨b1, b2, b3⟩ := c6 z
    have c7 := c7 z
    refine ⟨c2, c4, (hkn.fr (fun q j y => f6 q j (by unfold ta_SV ta_S1 ta_S5; omega))).fr (fun q j y => f7 q j (by unfold ta_SK ta_SL ta_SE; omega)), ?_, ?_, b3, c7⟩
    · rw [ty_mn_app, e0, ty_mn_app]
      exact b1
    · have b2 : (C ++ (ta_rops (ty_rs T 9 V.1 []).2).map (ta_oc T (lv, 5 * lv + KN.length, SN, V.2.map (fun x => x.1)))).length + (Q ++ ta_rqs (lv, 5 * lv + KN.length, SN, V.2.map (fun x => x.1)) C.length 0 (ty_rs T 9 V.1 []).2).length + (2 * (L ++ ta_rls C.length (ty_rs T 9 V.1 []).2).length + 0) ≤ (ty_tkn T 2 (ty_rs T 9 V.1 []).1).2 := b2
      exact b2
  · have zr := (ty_tkn_0 z).1
    have zv := (ty_rs_v hT 9 V.1 [] zr).1
    obtain ⟨ev, v6, vr⟩ := q6 zv
    subst ev
    obtain ⟨b1, b2, b3, b4⟩ := i7.2 z
    refine ⟨hl5, i7.1.1.1.2.2.2.2, vr.fr (fun q j y => f7.i (by unfold ta_SK ta_SL ta_SE; omega)), b1, b2, b3, b4⟩
theorem ta_K {s : ty_Ps} {σ : rx_St} (hP : ∀ i, ty_Pl T n i ≤ 2000) (hK : ty_nx T s = 1) (h : ta_ou lv T n s SN KN C Q acc L σ) : tw_ok (f_m_tellKind σ) (ta_kd lv T n SN KN C Q acc L σ (ty_K1 T KN.length s)) := by
  obtain ⟨hs, hk⟩ := ty_nx_0 (T := T) (s := s) (by omega)
  obtain ⟨⟨a1, hlv⟩, a2, a3, -⟩ := h.2.2 hs
  have k5 := a3.2.1
  have hT := h.1.2
  unfold f_m_tellKind
  rw [a1]
  refine tw_g (vp_in_nI (by omega) (by decide)) ?_
  rw [nI_clamp (by omega), a3.1]
  refine tm_room (F := f_m_tellKind_18) KN.length 5 (fun _ => ?_) h.1 h.2.1 (fun σ1 f1 r1 => ?_)
  · rw [show (nI KN.length = (5 : Int32)) = (KN.length = 5) from tw_eq (b := 5) (by omega) (by omega)]
    omega
  have h1 : ta_ou lv T n (ty_room KN.length 5 s) SN KN C Q acc L σ1 := h.of1 f1 r1 (fun z => by
    obtain ⟨-, -, e⟩ := ty_room_0 z
    rw [e]
    exact ⟨hs, Nat.le_refl _⟩)
  unfold f_m_tellKind_18
  refine tw_b (ta_ou.nx 1 (by omega) (fun z => by
    obtain ⟨-, -, e⟩ := ty_room_0 z
    rw [e, ← hk]
    exact hK) h1) (fun σ2 g => ?_)
  obtain ⟨f2, h2⟩ := g
  have h2 : ta_ou lv T n (ty_Ko T KN.length s) SN KN C Q acc L σ2 := h2
  have pA := h2.2.1.p
  refine tw_b (ta_ou.mu (m := (1 : Int32)) 23 rfl (by omega) h2) (fun σ3 g => ?_)
  obtain ⟨f3, h3⟩ := g
  have fA : tw_fr (ta_SQ lv KN.length) σ σ3 := ((f1.tr f2).tr f3).mn (fun q j y => Or.inr y)
  rw [tw_ifE h3.2.1.l]
  by_cases z : (ty_tkn T 23 (ty_Ko T KN.length s)).1 = 0
  · rw [if_pos z]
    have za := (ty_tkn_0 z).1
    have zr := (ty_tkn_0 (show (ty_tkn T 1 (ty_room KN.length 5 s)).1 = 0 from za)).1
    obtain ⟨-, l5, -⟩ := ty_room_0 zr
    have nm : ty_nm T (ty_Ko T KN.length s).2 := ty_nm_of z
    have nm5 := nm.2
    rw [(pA za).1]
    refine tw_g (vp_in_nI (by omega) (by decide)) ?_
    obtain ⟨n1, n2, n3, n4⟩ := tm_name (σ := σ3) h3.1 nm
    obtain ⟨⟨c1, -⟩, c2, c3, -⟩ := h3.2.2 z
    rw [nI_clamp (by omega), n1, ta_named hlv c1 c2 c3 hT n2 n3, Option.bind_some]
    by_cases c : ty_fi T (ty_Lt T (ty_Ko T KN.length s).2) SN 0 = none ∧ ty_fi T (ty_Lt T (ty_Ko T KN.length s).2) KN 0 = none
    · rw [if_pos c, if_pos rfl]
      exact ta_k59 hP z l5 nm (by rw [ta_ne, if_pos c]; rfl) h3 fA
    · rw [if_neg c, if_neg (by decide)]
      refine tw_b (ta_ou.wr (m := (3 : Int32)) (k := 3) rfl hP z (by omega) (by omega) (by omega) (by omega) h3) (fun σ4 g => ?_)
      obtain ⟨f4, h4⟩ := g
      exact ta_k59 hP z l5 nm (by rw [ta_ne, if_neg c]; rfl) h4 (fA.tr (f4.mn (fun q j y => Or.inl ⟨l5, Or.inr (Or.inl (Or.inr (Or.inl y)))⟩)))
  · rw [if_neg z, tw_some]
    have ehs : ty_hs T 7 (ty_tkn T 23 (ty_Ko T KN.length s)) [] = (ty_tkn T 23 (ty_Ko T KN.length s), []) := by
      unfold ty_hs
      rw [if_neg (by rw [ty_nx_f z]; omega)]
    have ers : ty_rs T 9 (ty_tkn T 23 (ty_Ko T KN.length s)) [] = (ty_tkn T 23 (ty_Ko T KN.length s), []) := by
      unfold ty_rs
      rw [if_neg (by rw [ty_nx_f z]; omega)]
    have ek : (ty_K1 T KN.length s).1 = ty_tkn T 23 (ty_Ko T KN.length s) := by
      unfold ty_K1
      rw [ehs, ers]
      exact ty_tkn_f z
    refine ⟨fA, ?_, fun y => ?_⟩
    · rw [ek]; exact h3.bad z
    · rw [ek] at y; exact absurd y z
end TBO
