/-! THE CLASS'S CHECKER: NAMES become numbers -/
section TZE
variable {v : Nat} {T : List tw_Tk} {n : Nat} {U : ty_Wo}
theorem tz_cx.set {acc : Option (Nat × Nat)} {D : List tz_Cd} {σ σ' : rx_St} {i : Nat} {y : tz_Cd} (h : tz_cx v T n U acc D σ) (f : tw_fr (fun q j => 18 + 14 * v ≤ q ∧ q ≤ 20 + 14 * v ∧ j = i) σ σ') (hv : v ≤ 1) (r : σ'.1 (18 + 14 * v) i = nI y.1 ∧ σ'.1 (19 + 14 * v) i = y.2.1 ∧ σ'.1 (20 + 14 * v) i = y.2.2) : tz_cx v T n U acc (D.set i y) σ' := by
  obtain ⟨h1, h2, ⟨h3, h4, h5⟩, h6⟩ := h
  refine ⟨h1.fr (fun q j a b => ⟨f.i (by omega), f.l (by omega)⟩), h2.fr (fun q j a => f.i (by omega)), ⟨by rw [List.length_set]; exact (f.i (by omega)).trans h3, by rw [List.length_set]; exact h4, fun p x hx => ?_⟩, ?_⟩
  · rw [List.getElem?_set] at hx
    by_cases e : i = p
    · subst e
      rw [if_pos rfl] at hx
      by_cases l : i < D.length
      · rw [if_pos l] at hx
        cases hx
        exact r
      · rw [if_neg l] at hx; cases hx
    · rw [if_neg e] at hx
      obtain ⟨a, b, c⟩ := h5 p x hx
      exact ⟨(f.i (by omega)).trans a, (f.i (by omega)).trans b, (f.i (by omega)).trans c⟩
  · unfold tz_fd at h6 ⊢
    cases acc with
    | none => exact ⟨(f.i (by omega)).trans h6.1, (f.i (by omega)).trans h6.2⟩
    | some m => exact ⟨(f.i (by omega)).trans h6.1, (f.i (by omega)).trans h6.2.1, h6.2.2⟩
theorem ty_mn_app {acc : Option (Nat × Nat)} {a b : List (Nat × Nat)} : ty_mn T n acc (a ++ b) = ty_mn T n (ty_mn T n acc a) b := List.foldl_append
theorem tz_row {acc : Option (Nat × Nat)} {D : List tz_Cd} {σ : rx_St} {i : Nat} {x : tz_Cd} (h : tz_cx v T n U acc D σ) (hx : D[i]? = some x) : i < 500 ∧ σ.1 (18 + 14 * v) i = nI x.1 ∧ σ.1 (19 + 14 * v) i = x.2.1 ∧ σ.1 (20 + 14 * v) i = x.2.2 := by
  have il := (List.getElem?_eq_some_iff.mp hx).1
  obtain ⟨-, -, ⟨-, h4, h5⟩, -⟩ := h
  exact ⟨by omega, h5 i x hx⟩
/-- what resolving one sign writes -/
def tz_SI (v i q j : Nat) : Prop := tz_S37 q j ∨ 18 + 14 * v ≤ q ∧ q ≤ 20 + 14 * v ∧ j = i
theorem tz_resolveName {acc : Option (Nat × Nat)} {D : List tz_Cd} {σ : rx_St} {k i t : Nat} {x : tz_Cd} (hv : v ≤ 1) (hP : ∀ i, ty_Pl T n i ≤ 2000) (hU : ty_vP T U) (hk : k < U.2.length) (h : tz_cx v T n U acc D σ) (hx : D[i]? = some x) (hc : x.1 = 23) (ht : x.2.1 = nI t) (hn : ty_nm T t) : tw_ok (f_chk_resolveName v (nI k) (nI i) σ) (fun σ' => tw_fr (tz_SI v i) σ σ' ∧ tz_cx v T n U (ty_mn T n acc (tz_ev T U k x)) (D.set i (tz_rv T U k x)) σ') := by
  obtain ⟨i5, r1, r2, r3⟩ := tz_row h hx
  have u5 := hU.2.2.2
  have u6 := hU.2.1
  have hK : U.2[k]? = some U.2[k] := List.getElem?_eq_getElem hk
  have vK := hU.2.2.1 _ (List.getElem_mem hk)
  have ev : ty_vn U k = U.2[k].2.1.map (fun x => x.1) := by unfold ty_vn; rw [hK]
  have lv : (ty_vn U k).length = U.2[k].2.1.length := by rw [ev]; exact List.length_map _
  have v6 := vK.2.2.2.1
  have ls : (ty_sn U).length = U.1.length := List.length_map _
  obtain ⟨n1, n2, n3, n4⟩ := tz_name h.1 hn
  have fv : ∀ j, ty_fi T (ty_Lt T t) (ty_vn U k) 0 = some j → j < 1000 := fun j hj => by have := (ty_fi_lt _ _ _ hj).2; omega
  have fs : ∀ j, ty_fi T (ty_Lt T t) (ty_sn U) 0 = some j → j < 1000 := fun j hj => by have := (ty_fi_lt _ _ _ hj).2; omega
  have tk : ty_tok x.2.1 = t := by rw [ht]; exact ty_tok_nI (by have := hn.2; omega)
  have last : ∀ (acc' : Option (Nat × Nat)) (τ : rx_St), tw_fr (tz_SI v i) σ τ → tz_cx v T n U acc' D τ → tw_ok (f_chk_resolveName_56 v (nI i) (tw_en (-nI 1) (ty_fi T (ty_Lt T t) (ty_vn U k) 0)) (tw_en (-nI 1) (ty_fi T (ty_Lt T t) (ty_sn U) 0)) τ) (fun σ' => tw_fr (tz_SI v i) σ σ' ∧ tz_cx v T n U acc' (D.set i (tz_rv T U k x)) σ') := by
    intro acc' τ fτ hτ
    obtain ⟨-, -, -, q3⟩ := tz_row hτ hx
    have put : ∀ (op a : Int32) (y : tz_Cd), y = tz_rv T U k x → nI y.1 = op → y.2.1 = a → y.2.2 = x.2.2 → tw_fr (tz_SI v i) σ (rx_si (rx_si τ (18 + 14 * v) i op) (19 + 14 * v) i a) ∧ tz_cx v T n U acc' (D.set i (tz_rv T U k x)) (rx_si (rx_si τ (18 + 14 * v) i op) (19 + 14 * v) i a) := by
      intro op a y hy h1 h2 h3
      refine ⟨(fτ.si (Or.inr ⟨by omega, by omega, rfl⟩)).si (Or.inr ⟨by omega, by omega, rfl⟩), ?_⟩
      rw [← hy]
      refine hτ.set ((tw_fr.rf.si ⟨by omega, by omega, rfl⟩).si ⟨by omega, by omega, rfl⟩) hv ⟨?_, ?_, ?_⟩
      · rw [tw_r1n _ _ (by omega), tw_r1s, h1]
      · rw [tw_r1s, h2]
      · rw [tw_r1n _ _ (by omega), tw_r1n _ _ (by omega), h3]; exact q3
    unfold f_chk_resolveName_56 f_chk_resolveName_76
    rw [tw_ifE (tw_en_l (Or.inl rfl) fv), tw_ifE (tw_en_l (Or.inl rfl) fv)]
    by_cases c : ty_fi T (ty_Lt T t) (ty_vn U k) 0 = none
    · rw [if_pos c]
      refine tw_g (vp_in_nI (by omega) (by decide)) ?_
      rw [if_pos c]
      refine tw_g (vp_in_nI (by omega) (by decide)) ?_
      rw [nI_clamp (by omega), tw_some]
      exact put (40 : Int32) _ (40, tw_en (-nI 1) (ty_fi T (ty_Lt T t) (ty_sn U) 0), x.2.2) (by unfold tz_rv; rw [if_pos hc, tk, if_pos c, if_pos c]) rfl rfl rfl
    · rw [if_neg c]
      refine tw_g (vp_in_nI (by omega) (by decide)) ?_
      rw [tw_ifE (tw_en_l (Or.inl rfl) fv), if_neg c]
      refine tw_g (vp_in_nI (by omega) (by decide)) ?_
      rw [nI_clamp (by omega), tw_some]
      exact put (39 : Int32) _ (39, tw_en (-nI 1) (ty_fi T (ty_Lt T t) (ty_vn U k) 0), x.2.2) (by unfold tz_rv; rw [if_pos hc, tk, if_neg c, if_neg c]) rfl rfl rfl
  unfold f_chk_resolveName
  refine tw_g (vp_in_nI (by omega) (by decide)) ?_
  rw [nI_clamp (by omega), r2, ht, n1, Option.bind_some, tz_varN h.1 hU h.2.1 hk n2 n3, Option.bind_some, tz_setN h.1 hU h.2.1 n2 n3, Option.bind_some, tw_ifE (tw_en_g fv)]
  have e : tz_ev T U k x = if ty_fi T (ty_Lt T t) (ty_vn U k) 0 = none ∧ ty_fi T (ty_Lt T t) (ty_sn U) 0 = none then [(4, t)] else [] := by
    unfold tz_ev
    rw [if_pos hc, tk]
  rw [e]
  by_cases c1 : ty_fi T (ty_Lt T t) (ty_vn U k) 0 = none
  · rw [if_neg (fun z => z c1), tw_ifE (tw_en_g fs)]
    by_cases c2 : ty_fi T (ty_Lt T t) (ty_sn U) 0 = none
    · rw [if_neg (fun z => z c2), if_pos ⟨c1, c2⟩]
      refine tw_g (vp_in_nI (by omega) (by decide)) ?_
      refine tw_b (h.find hv hP (k := 4) (t := t) (by have := hn.2; omega) n4 (by omega) (by omega)) (fun σ1 g => ?_)
      exact last _ σ1 (g.1.mn (fun q j h => Or.inl h)) g.2
    · rw [if_pos c2, if_neg (fun z => c2 z.2)]
      exact last acc σ tw_fr.rf h
  · rw [if_pos c1, if_neg (fun z => c1 z.1)]
    exact last acc σ tw_fr.rf h
theorem tz_resolveSum {acc : Option (Nat × Nat)} {D : List tz_Cd} {σ : rx_St} {k i t t' : Nat} {x : tz_Cd} (hv : v ≤ 1) (hP : ∀ i, ty_Pl T n i ≤ 2000) (hU : ty_vP T U) (hk : k < U.2.length) (h : tz_cx v T n U acc D σ) (hx : D[i]? = some x) (hc : x.1 = 21) (ht : x.2.1 = nI t) (hn : ty_nm T t) (ht' : x.2.2 = nI t') (hn' : ty_nm T t') : tw_ok (f_chk_resolveSum v (nI k) (nI i) σ) (fun σ' => tw_fr (tz_SI v i) σ σ' ∧ tz_cx v T n U (ty_mn T n acc (tz_ev T U k x)) (D.set i (tz_rv T U k x)) σ') := by
  obtain ⟨i5, r1, r2, r3⟩ := tz_row h hx
  have il := (List.getElem?_eq_some_iff.mp hx).1
  have u5 := hU.2.2.2
  have lk : (ty_kn U).length = U.2.length := List.length_map _
  have tk : ty_tok x.2.1 = t := by rw [ht]; exact ty_tok_nI (by have := hn.2; omega)
  have tk' : ty_tok x.2.2 = t' := by rw [ht']; exact ty_tok_nI (by have := hn'.2; omega)
  have fk : ∀ j, ty_fi T (ty_Lt T t) (ty_kn U) 0 = some j → j < 1000 := fun j hj => by have := (ty_fi_lt _ _ _ hj).2; omega
  unfold f_chk_resolveSum
  refine tw_g (vp_in_nI (by omega) (by decide)) ?_
  rw [nI_clamp (by omega), r2, ht]
  refine tw_b (tz_needKind hv hP hU h hn) (fun y g => ?_)
  obtain ⟨y1, f1, h1⟩ := g
  rw [y1, tw_ifE (tw_en_g fk)]
  have eev : tz_ev T U k x = ((ty_fi T (ty_Lt T t) (ty_kn U) 0).elim [(4, t)] (fun o => (ty_fi T (ty_Lt T t') (ty_vn U o) 0).elim [(4, t')] (fun w => if o ≠ k ∧ ty_scr U o w = true then [(6, t')] else []))) := by
    unfold tz_ev
    rw [if_neg (by omega), if_neg (by omega), if_pos hc, tk, tk']
  have erv : tz_rv T U k x = (ty_fi T (ty_Lt T t) (ty_kn U) 0).elim x (fun o => (21, nI o, tw_en (-nI 1) (ty_fi T (ty_Lt T t') (ty_vn U o) 0))) := by
    unfold tz_rv
    rw [if_neg (by omega), if_neg (by omega), if_pos hc, tk, tk']
  rw [eev, erv]
  cases c1 : ty_fi T (ty_Lt T t) (ty_kn U) 0 with
  | none =>
    rw [if_neg (fun z => z rfl), tw_some]
    rw [c1, if_pos rfl] at h1
    refine ⟨f1.mn (fun q j h => Or.inl h), ?_⟩
    have e : D.set i x = D := by
      refine List.ext_getElem? (fun p => ?_)
      rw [List.getElem?_set]
      by_cases e : i = p
      · subst e; rw [if_pos rfl, if_pos il, hx]
      · rw [if_neg e]
    show tz_cx v T n U (ty_mn T n acc [(4, t)]) (D.set i x) y.2
    rw [e]
    exact h1
  | some o =>
    rw [if_pos (fun z => by cases z)]
    rw [c1, if_neg (fun z => by cases z)] at h1
    have ho : o < U.2.length := by have := (ty_fi_lt _ _ _ c1).2; omega
    have hO : U.2[o]? = some U.2[o] := List.getElem?_eq_getElem ho
    have vO := hU.2.2.1 _ (List.getElem_mem ho)
    have evo : ty_vn U o = U.2[o].2.1.map (fun x => x.1) := by unfold ty_vn; rw [hO]
    have lvo : (ty_vn U o).length = U.2[o].2.1.length := by rw [evo]; exact List.length_map _
    have v6 := vO.2.2.2.1
    obtain ⟨-, -, -, q3⟩ := tz_row h1 hx
    refine tw_g (vp_in_nI (by omega) (by decide)) ?_
    rw [q3, ht']
    show tw_ok ((f_chk_needVar v (nI o) (nI t') y.2).bind _) _
    refine tw_b (tz_needVar hv hP hU ho h1 hn') (fun z g => ?_)
    obtain ⟨z1, f2, h2⟩ := g
    have fw : ∀ j, ty_fi T (ty_Lt T t') (ty_vn U o) 0 = some j → j < 1000 := fun j hj => by have := (ty_fi_lt _ _ _ hj).2; omega
    rw [z1]
    have fT : tw_fr (tz_SI v i) σ z.2 := (f1.mn (fun q j h => Or.inl h)).tr (f2.mn (fun q j h => Or.inl h))
    have last : ∀ (acc' : Option (Nat × Nat)) (τ : rx_St), tw_fr (tz_SI v i) σ τ → tz_cx v T n U acc' D τ → tw_ok (f_chk_resolveSum_78 v (nI i) (nI o) (tw_en (-nI 1) (ty_fi T (ty_Lt T t') (ty_vn U o) 0)) τ) (fun σ' => tw_fr (tz_SI v i) σ σ' ∧ tz_cx v T n U acc' (D.set i (21, nI o, tw_en (-nI 1) (ty_fi T (ty_Lt T t') (ty_vn U o) 0))) σ') := by
      intro acc' τ fτ hτ
      obtain ⟨-, w1, -, -⟩ := tz_row hτ hx
      unfold f_chk_resolveSum_78
      refine tw_g (vp_in_nI (by omega) (by decide)) (tw_g (vp_in_nI (by omega) (by decide)) ?_)
      rw [nI_clamp (by omega), tw_some]
      refine ⟨(fτ.si (Or.inr ⟨by omega, by omega, rfl⟩)).si (Or.inr ⟨by omega, by omega, rfl⟩), ?_⟩
      refine hτ.set ((tw_fr.rf.si ⟨by omega, by omega, rfl⟩).si ⟨by omega, by omega, rfl⟩) hv ⟨?_, ?_, ?_⟩
      · rw [tw_r1n _ _ (by omega), tw_r1n _ _ (by omega), w1, hc]
      · rw [tw_r1n _ _ (by omega), tw_r1s]
      · rw [tw_r1s]
    show tw_ok (if tw_en (-nI 1) (ty_fi T (ty_Lt T t') (ty_vn U o) 0) < (0 : Int32) then f_chk_resolveSum_78 v (nI i) (nI o) (tw_en (-nI 1) (ty_fi T (ty_Lt T t') (ty_vn U o) 0)) z.2 else if nI o = nI k then f_chk_resolveSum_78 v (nI i) (nI o) (tw_en (-nI 1) (ty_fi T (ty_Lt T t') (ty_vn U o) 0)) z.2 else rx_g ((nI o * (6 : Int32)) + tw_en (-nI 1) (ty_fi T (ty_Lt T t') (ty_vn U o) 0)) 30 (if z.2.1 (15 + 14 * v) ((nI o * (6 : Int32)) + tw_en (-nI 1) (ty_fi T (ty_Lt T t') (ty_vn U o) 0)).toNatClampNeg = (0 : Int32) then f_chk_resolveSum_78 v (nI i) (nI o) (tw_en (-nI 1) (ty_fi T (ty_Lt T t') (ty_vn U o) 0)) z.2 else rx_g (nI i) 500 ((f_chk_find (6 : Int32) (z.2.1 (20 + 14 * v) i) z.2).bind fun y3 => f_chk_resolveSum_78 v (nI i) (nI o) (tw_en (-nI 1) (ty_fi T (ty_Lt T t') (ty_vn U o) 0)) y3))) (fun σ' => tw_fr (tz_SI v i) σ σ' ∧ tz_cx v T n U (ty_mn T n acc ((ty_fi T (ty_Lt T t') (ty_vn U o) 0).elim [(4, t')] (fun w => if o ≠ k ∧ ty_scr U o w = true then [(6, t')] else []))) (D.set i (21, nI o, tw_en (-nI 1) (ty_fi T (ty_Lt T t') (ty_vn U o) 0))) σ')
    rw [tw_ifE (tw_en_l (Or.inl rfl) fw)]
    cases c2 : ty_fi T (ty_Lt T t') (ty_vn U o) 0 with
    | none =>
      rw [c2, if_pos rfl] at h2
      rw [if_pos rfl]
      have := last _ z.2 fT h2
      rw [c2] at this
      exact this
    | some w =>
      rw [c2, if_neg (fun z => by cases z)] at h2
      rw [if_neg (fun z => by cases z), tw_ifE (tw_eq (a := o) (b := k) (by omega) (by omega))]
      have lw := last _ z.2 fT h2
      rw [c2] at lw
      have wl : w < U.2[o].2.1.length := by have := (ty_fi_lt _ _ _ c2).2; omega
      by_cases c3 : o = k
      · rw [if_pos c3]
        show tw_ok _ (fun σ' => tw_fr (tz_SI v i) σ σ' ∧ tz_cx v T n U (ty_mn T n acc (if o ≠ k ∧ ty_scr U o w = true then [(6, t')] else [])) (D.set i (21, nI o, tw_en (-nI 1) (some w))) σ')
        rw [if_neg (fun y => y.1 c3)]
        exact lw
      · rw [if_neg c3]
        have hw : U.2[o].2.1[w]? = some U.2[o].2.1[w] := List.getElem?_eq_getElem wl
        obtain ⟨-, ⟨-, -, b3⟩, -⟩ := tz_Krs_get U.2 0 0 o _ h2.2.1.2.2.2 hO
        rw [Nat.zero_add] at b3
        obtain ⟨-, -, b6⟩ := b3 w _ hw
        have es : ty_scr U o w = U.2[o].2.1[w].2.2.2 := by unfold ty_scr; rw [hO]; show (match U.2[o].2.1[w]? with | some x => x.2.2.2 | none => false) = _; rw [hw]
        have ix : nI o * (6 : Int32) + tw_en (-nI 1) (some w) = nI (o * 6 + w) := by
          show nI o * (6 : Int32) + nI w = _
          rw [show (6 : Int32) = nI 6 from rfl, pk_mul, nI_add]
        rw [ix]
        refine tw_g (vp_in_nI (by omega) (by decide)) ?_
        rw [nI_clamp (by omega), b6]
        show tw_ok _ (fun σ' => tw_fr (tz_SI v i) σ σ' ∧ tz_cx v T n U (ty_mn T n acc (if o ≠ k ∧ ty_scr U o w = true then [(6, t')] else [])) (D.set i (21, nI o, tw_en (-nI 1) (some w))) σ')
        rw [es]
        cases c4 : U.2[o].2.1[w].2.2.2 with
        | false =>
          rw [if_pos (show tw_B false = (0 : Int32) from rfl), if_neg (fun y => by cases y.2)]
          exact lw
        | true =>
          rw [if_neg (show ¬ tw_B true = (0 : Int32) by decide), if_pos ⟨c3, rfl⟩]
          obtain ⟨-, -, -, q3'⟩ := tz_row h2 hx
          obtain ⟨-, -, -, n4⟩ := tz_name h.1 hn'
          refine tw_g (vp_in_nI (by omega) (by decide)) ?_
          rw [q3', ht']
          refine tw_b (h2.find hv hP (k := 6) (t := t') (by have := hn'.2; omega) n4 (by omega) (by omega)) (fun σ1 g => ?_)
          have := last _ σ1 (fT.tr (g.1.mn (fun q j h => Or.inl h))) g.2
          rw [c2] at this
          exact this
theorem tz_resolveGive {acc : Option (Nat × Nat)} {D : List tz_Cd} {σ : rx_St} {k i t t' : Nat} {x : tz_Cd} (hv : v ≤ 1) (hP : ∀ i, ty_Pl T n i ≤ 2000) (hU : ty_vP T U) (hk : k < U.2.length) (h : tz_cx v T n U acc D σ) (hx : D[i]? = some x) (hc : x.1 = 11 ∨ x.1 = 12) (ht : x.2.1 = nI t) (hn : ty_nm T t) (ht' : x.2.2 = nI t') (hn' : ty_nm T t') : tw_ok (f_chk_resolveGive v (nI k) (nI i) σ) (fun σ' => tw_fr (tz_SI v i) σ σ' ∧ tz_cx v T n U (ty_mn T n acc (tz_ev T U k x)) (D.set i (tz_rv T U k x)) σ') := by
  obtain ⟨i5, r1, r2, r3⟩ := tz_row h hx
  have u5 := hU.2.2.2
  have lk : (ty_kn U).length = U.2.length := List.length_map _
  have tk : ty_tok x.2.1 = t := by rw [ht]; exact ty_tok_nI (by have := hn.2; omega)
  have tk' : ty_tok x.2.2 = t' := by rw [ht']; exact ty_tok_nI (by have := hn'.2; omega)
  have fk : ∀ j, ty_fi T (ty_Lt T t') (ty_kn U) 0 = some j → j < 1000 := fun j hj => by have := (ty_fi_lt _ _ _ hj).2; omega
  obtain ⟨n1, n2, n3, n4⟩ := tz_name h.1 hn
  obtain ⟨-, -, -, n4'⟩ := tz_name h.1 hn'
  unfold f_chk_resolveGive
  refine tw_g (vp_in_nI (by omega) (by decide)) ?_
  rw [nI_clamp (by omega), r2, ht, n1, Option.bind_some]
  refine tw_g (vp_in_nI (by omega) (by decide)) ?_
  rw [r3, ht']
  refine tw_b (tz_needKind hv hP hU h hn') (fun y g => ?_)
  obtain ⟨y1, f1, h1⟩ := g
  rw [y1]
  have eev : tz_ev T U k x = ((ty_fi T (ty_Lt T t') (ty_kn U) 0).elim [(4, t')] (fun o => if ty_fi T (ty_Lt T t) (ty_vn U o) 0 = none then [(4, t')] else [])) ++ (if ty_fi T (ty_Lt T t) (ty_vn U k) 0 = none then [(4, t)] else []) := by
    unfold tz_ev
    rw [if_neg (by omega), if_neg (by omega), if_neg (by omega), if_neg (by omega), if_neg (by omega), if_pos hc, tk, tk']
  have erv : tz_rv T U k x = (x.1, tw_en (-nI 1) (ty_fi T (ty_Lt T t) (ty_vn U k) 0), (tw_en (-nI 1) (ty_fi T (ty_Lt T t') (ty_kn U) 0)) * (6 : Int32) + ((ty_fi T (ty_Lt T t') (ty_kn U) 0).elim (-nI 1) (fun o => tw_en (-nI 1) (ty_fi T (ty_Lt T t) (ty_vn U o) 0)))) := by
    unfold tz_rv
    rw [if_neg (by omega), if_neg (by omega), if_neg (by omega), if_neg (by omega), if_neg (by omega), if_pos hc, tk, tk']
  rw [eev, erv]
  have last : ∀ (acc' : Option (Nat × Nat)) (a b : Int32) (τ : rx_St), tw_fr (tz_SI v i) σ τ → tz_cx v T n U acc' D τ → tw_ok (f_chk_resolveGive_65 v (nI k) (nI i) a b τ) (fun σ' => tw_fr (tz_SI v i) σ σ' ∧ tz_cx v T n U (ty_mn T n acc' (if ty_fi T (ty_Lt T t) (ty_vn U k) 0 = none then [(4, t)] else [])) (D.set i (x.1, tw_en (-nI 1) (ty_fi T (ty_Lt T t) (ty_vn U k) 0), a * (6 : Int32) + b)) σ') := by
    intro acc' a b τ fτ hτ
    obtain ⟨-, w1, w2, -⟩ := tz_row hτ hx
    unfold f_chk_resolveGive_65
    refine tw_g (vp_in_nI (by omega) (by decide)) ?_
    rw [nI_clamp (by omega), w2, ht]
    refine tw_b (tz_needVar hv hP hU hk hτ hn) (fun z g => ?_)
    obtain ⟨z1, f2, h2⟩ := g
    obtain ⟨-, w1', -, -⟩ := tz_row h2 hx
    refine tw_g (vp_in_nI (by omega) (by decide)) (tw_g (vp_in_nI (by omega) (by decide)) ?_)
    rw [tw_some, z1]
    refine ⟨((fτ.tr (f2.mn (fun q j h => Or.inl h))).si (Or.inr ⟨by omega, by omega, rfl⟩)).si (Or.inr ⟨by omega, by omega, rfl⟩), ?_⟩
    refine h2.set ((tw_fr.rf.si ⟨by omega, by omega, rfl⟩).si ⟨by omega, by omega, rfl⟩) hv ⟨?_, ?_, ?_⟩
    · rw [tw_r1n _ _ (by omega), tw_r1n _ _ (by omega), w1']
    · rw [tw_r1n _ _ (by omega), tw_r1s]
    · rw [tw_r1s]
  cases c1 : ty_fi T (ty_Lt T t') (ty_kn U) 0 with
  | none =>
    rw [c1, if_pos rfl] at h1
    show tw_ok ((f_chk_varNamed v (-nI 1) (qL (tw_pk 32 (ty_Lt T t))) y.2).bind _) _
    rw [tz_varNm h1.2.1, Option.bind_some]
    show tw_ok (if -nI 1 < (0 : Int32) then f_chk_resolveGive_65 v (nI k) (nI i) (-nI 1) (-nI 1) y.2 else _) (fun σ' => tw_fr (tz_SI v i) σ σ' ∧ tz_cx v T n U (ty_mn T n acc ([(4, t')] ++ _)) _ σ')
    rw [if_pos (show -nI 1 < (0 : Int32) by decide), ty_mn_app]
    exact last _ _ _ y.2 (f1.mn (fun q j h => Or.inl h)) h1
  | some o =>
    rw [c1, if_neg (fun z => by cases z)] at h1
    have ho : o < U.2.length := by have := (ty_fi_lt _ _ _ c1).2; omega
    have hO : U.2[o]? = some U.2[o] := List.getElem?_eq_getElem ho
    have vO := hU.2.2.1 _ (List.getElem_mem ho)
    have evo : ty_vn U o = U.2[o].2.1.map (fun x => x.1) := by unfold ty_vn; rw [hO]
    have lvo : (ty_vn U o).length = U.2[o].2.1.length := by rw [evo]; exact List.length_map _
    have v6 := vO.2.2.2.1
    have fw : ∀ j, ty_fi T (ty_Lt T t) (ty_vn U o) 0 = some j → j < 1000 := fun j hj => by have := (ty_fi_lt _ _ _ hj).2; omega
    show tw_ok ((f_chk_varNamed v (nI o) (qL (tw_pk 32 (ty_Lt T t))) y.2).bind _) _
    rw [tz_varN h1.1 hU h1.2.1 ho n2 n3, Option.bind_some]
    show tw_ok (if nI o < (0 : Int32) then _ else if (0 : Int32) ≤ tw_en (-nI 1) (ty_fi T (ty_Lt T t) (ty_vn U o) 0) then f_chk_resolveGive_65 v (nI k) (nI i) (nI o) (tw_en (-nI 1) (ty_fi T (ty_Lt T t) (ty_vn U o) 0)) y.2 else _) (fun σ' => tw_fr (tz_SI v i) σ σ' ∧ tz_cx v T n U (ty_mn T n acc ((if ty_fi T (ty_Lt T t) (ty_vn U o) 0 = none then [(4, t')] else []) ++ _)) (D.set i (x.1, _, nI o * (6 : Int32) + tw_en (-nI 1) (ty_fi T (ty_Lt T t) (ty_vn U o) 0))) σ')
    rw [if_neg (show ¬ nI o < (0 : Int32) by rw [show (0 : Int32) = nI 0 from rfl, tw_lt (by omega) (by omega)]; omega), tw_ifE (tw_en_g fw), ty_mn_app]
    by_cases c2 : ty_fi T (ty_Lt T t) (ty_vn U o) 0 = none
    · rw [if_neg (fun z => z c2), if_pos c2]
      obtain ⟨-, -, -, q3'⟩ := tz_row h1 hx
      refine tw_g (vp_in_nI (by omega) (by decide)) ?_
      rw [q3', ht']
      refine tw_b (h1.find hv hP (k := 4) (t := t') (by have := hn'.2; omega) n4' (by omega) (by omega)) (fun σ1 g => ?_)
      exact last _ _ _ σ1 ((f1.mn (fun q j h => Or.inl h)).tr (g.1.mn (fun q j h => Or.inl h))) g.2
    · rw [if_pos c2, if_neg c2]
      exact last _ _ _ y.2 (f1.mn (fun q j h => Or.inl h)) h1
end TZE
