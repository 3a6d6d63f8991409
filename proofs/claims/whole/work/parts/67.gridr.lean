/-! span, meets, met, untold on both sides -/
section TL
variable {w : Nat} {W : tw_Wo} {lv : Nat} {N : tw_N} {pl : Nat → Nat} {bg : Nat → Int32} {dl : Bool} {st : Nat → Int32} {sp : List tw_Sp} {se : List tw_Se}
theorem tc_hasSpan {σ : rx_St} {s : Nat} (hok : tw_gok W sp se) (hG : tc_G sp se σ) (hs : s < W.1.length) (h6 : W.1.length ≤ 6) : f_gri_hasSpan (nI s) σ = some (tw_B (sp.any (fun x => x.1 == s))) := by
  obtain ⟨s3, -, -, s4⟩ := hok.1
  have main : ∀ m i, i ≤ sp.length → sp.length - i < m → f_gri_hasSpan_2 m (nI s) (nI i) σ = some (tw_B ((sp.drop i).any (fun x => x.1 == s))) := by
    intro m
    induction m with
    | zero => intro i _ h; exact absurd h (Nat.not_lt_zero _)
    | succ m ih =>
      intro i hi hm
      unfold f_gri_hasSpan_2
      rw [hG.1.1]
      by_cases c : i = sp.length
      · subst c
        rw [if_pos (tp_yl (by omega) (by omega) (Nat.le_refl _)), List.drop_length]
        rfl
      · have hi' : i < sp.length := by omega
        have hx : sp[i]? = some sp[i] := List.getElem?_eq_getElem hi'
        have e0 := (hG.1.2.2 i _ hx).1
        have b0 := (s4 i _ hx).1
        rw [if_neg (tp_nl (by omega) (by omega) (by omega)), tw_gN (by omega) (by decide), nI_clamp (by omega), e0, List.drop_eq_getElem_cons hi', List.any_cons, show nI i + (1 : Int32) = nI (i + 1) from nI_add i 1, ih (i + 1) (by omega) (by omega)]
        by_cases d : sp[i].1 = s
        · rw [if_pos (by rw [d]), beq_iff_eq.mpr d]
          rfl
        · rw [if_neg (by rw [tw_eq (by omega) (by omega)]; exact d), beq_eq_false_iff_ne.mpr d, Bool.false_or]
  have := main rx_fu 0 (Nat.zero_le _) (by show _ < 100000; omega)
  rw [List.drop_zero] at this
  exact this
theorem tm_hasSpan {σ : rx_St} {s : Nat} {a b c : Int32} (hok : tw_gok W sp se) (hG : tm_G sp se σ) (hs : s < W.1.length) (h6 : W.1.length ≤ 6) : ∀ m i, i ≤ sp.length → sp.length - i < m → ((sp.drop i).any (fun x => x.1 == s) = true → f_m_span_57 m (nI s) a b c (nI i) σ = some ((-1 : Int32), σ)) ∧ ((sp.drop i).any (fun x => x.1 == s) = false → ∃ m', f_m_span_57 m (nI s) a b c (nI i) σ = f_m_span_57 (m' + 1) (nI s) a b c (nI sp.length) σ) := by
  obtain ⟨s3, -, -, s4⟩ := hok.1
  intro m
  induction m with
  | zero => intro i _ h; exact absurd h (Nat.not_lt_zero _)
  | succ m ih =>
    intro i hi hm
    by_cases ce : i = sp.length
    · subst ce
      rw [List.drop_length]
      exact ⟨fun z => (by cases z), fun _ => ⟨m, rfl⟩⟩
    · have hi' : i < sp.length := by omega
      have hx : sp[i]? = some sp[i] := List.getElem?_eq_getElem hi'
      have e0 := (hG.1.2 i _ hx).1
      have b0 := (s4 i _ hx).1
      have ih' := ih (i + 1) (by omega) (by omega)
      rw [List.drop_eq_getElem_cons hi', List.any_cons]
      have step : ∀ r, r = (if nI sp[i].1 = nI s then some ((-1 : Int32), σ) else f_m_span_57 m (nI s) a b c (nI (i + 1)) σ) → f_m_span_57 (m + 1) (nI s) a b c (nI i) σ = r := by
        intro r hr
        rw [hr, f_m_span_57, hG.1.1, if_neg (tp_nl (by omega) (by omega) (by omega)), tw_gN (by omega) (by decide), nI_clamp (by omega), e0, show nI i + (1 : Int32) = nI (i + 1) from nI_add i 1]
      by_cases d : sp[i].1 = s
      · rw [beq_iff_eq.mpr d]
        refine ⟨fun _ => (step _ rfl).trans (if_pos (by rw [d])), fun z => (by cases z)⟩
      · have ne : ¬ nI sp[i].1 = nI s := by rw [tw_eq (by omega) (by omega)]; exact d
        rw [beq_eq_false_iff_ne.mpr d, Bool.false_or]
        refine ⟨fun z => ((step _ rfl).trans (if_neg ne)).trans (ih'.1 z), fun z => ?_⟩
        obtain ⟨m', hm'⟩ := ih'.2 z
        exact ⟨m', ((step _ rfl).trans (if_neg ne)).trans hm'⟩
theorem tq_span {σ : rx_St} {x : Nat} (h : tq_T w W lv N pl bg dl st σ) (hG : tq_G W sp se σ) (hV : tq_try w W N dl st pl bg sp se x σ) (a0 a1 a2 a3 : Int32) : ∃ o1 o2 sp', f_c_span w a0 a1 a2 a3 σ = some o1 ∧ f_m_span a0 a1 a2 a3 o1.2 = some o2 ∧ o1.1 = o2.1 ∧ tw_fr tq_SG σ o2.2 ∧ tq_G W sp' se o2.2 ∧ tq_try w W N dl st pl bg sp' se x o2.2 := by
  have thr := tq_thr h (nI 0)
  have h6 := h.2.1.1.2.2.2.1
  obtain ⟨hok, hc, hm⟩ := id hG
  obtain ⟨⟨s3, p1, p2, s4⟩, e8, e9⟩ := id hok
  have bad : f_gri_tellSpan w a0 a1 a2 a3 σ = some ((-1 : Int32), σ) → f_m_span a0 a1 a2 a3 σ = some ((-1 : Int32), rx_si σ 87 0 (nI 0)) → ∃ o1 o2 sp', f_c_span w a0 a1 a2 a3 σ = some o1 ∧ f_m_span a0 a1 a2 a3 o1.2 = some o2 ∧ o1.1 = o2.1 ∧ tw_fr tq_SG σ o2.2 ∧ tq_G W sp' se o2.2 ∧ tq_try w W N dl st pl bg sp' se x o2.2 := fun q1 q2 =>
    ⟨((-1 : Int32), σ), _, sp, by unfold f_c_span; rw [q1]; rfl, q2, rfl, tw_fr.rf.si (by unfold tq_SG; omega), hG.thr _, hV.thr _⟩
  have m96 : (rx_si σ 87 0 (0 : Int32)).1 87 96 = nI sp.length := (tw_r1n _ _ (by omega)).trans hm.1.1
  by_cases c3 : sp.length = 3
  · refine bad ?_ ?_
    · unfold f_gri_tellSpan
      rw [hc.1.1, c3]
      exact if_pos (by decide)
    · unfold f_m_span
      refine if_pos ?_
      rw [m96, c3]
      rfl
  have c3' : ¬ (3 : Int32) ≤ nI sp.length := by rw [show (3 : Int32) = nI 3 from rfl, tw_le (by omega) (by omega)]; omega
  have m3' : ¬ (rx_si σ 87 0 (0 : Int32)).1 87 96 = (3 : Int32) := by rw [m96, show (3 : Int32) = nI 3 from rfl, tw_eq (by omega) (by omega)]; exact c3
  rcases tq_hasS a0 h thr.1 with ⟨d1, d2⟩ | ⟨s, hs, rfl, d1, d2⟩
  · refine bad ?_ ?_
    · unfold f_gri_tellSpan
      rw [hc.1.1, if_neg c3', d1]
      exact if_pos rfl
    · unfold f_m_span
      refine (if_neg m3').trans ?_
      have d2' : f_m_isSetting a0 (rx_si σ 87 0 (0 : Int32)) = some (nI 0) := d2
      rw [d2']
      rfl
  have d2' : f_m_isSetting (nI s) (rx_si σ 87 0 (0 : Int32)) = some (nI 1) := d2
  have hmz : tm_G sp se (rx_si σ 87 0 (0 : Int32)) := hm.fr (fun q j a => tw_r1n _ _ (by omega))
  have hsp := tc_hasSpan hok hc hs h6
  have mstart : ∀ (τ : rx_St), tm_G sp se τ → f_m_isSetting (nI s) (rx_si τ 87 0 (0 : Int32)) = some (nI 1) → ∀ {r}, (if f_m_isNumber a1 = (0 : Int32) then some ((-1 : Int32), rx_si τ 87 0 (0 : Int32)) else if f_m_isNumber a2 = (0 : Int32) then some ((-1 : Int32), rx_si τ 87 0 (0 : Int32)) else if a2 < a1 then some ((-1 : Int32), rx_si τ 87 0 (0 : Int32)) else if f_m_in a3 (1 : Int32) (9999 : Int32) = (0 : Int32) then some ((-1 : Int32), rx_si τ 87 0 (0 : Int32)) else f_m_span_57 rx_fu (nI s) a1 a2 a3 (0 : Int32) (rx_si τ 87 0 (0 : Int32))) = r → f_m_span (nI s) a1 a2 a3 τ = r := by
    intro τ hτ hs2 r hr
    have m3 : ¬ (rx_si τ 87 0 (0 : Int32)).1 87 96 = (3 : Int32) := by rw [show (rx_si τ 87 0 (0 : Int32)).1 87 96 = nI sp.length from (tw_r1n _ _ (by omega)).trans hτ.1.1, show (3 : Int32) = nI 3 from rfl, tw_eq (by omega) (by omega)]; exact c3
    unfold f_m_span
    refine (if_neg m3).trans ?_
    rw [hs2, Option.bind_some]
    exact (if_neg (by decide)).trans hr
  have cstart : ∀ {r}, ((f_gri_hasSpan (nI s) σ).bind fun y1 => if y1 = (0 : Int32) then
      if a2 < a1 then some ((-1 : Int32), σ) else if f_c_isNumber a1 = (0 : Int32) then some ((-1 : Int32), σ) else if f_c_isNumber a2 = (0 : Int32) then some ((-1 : Int32), σ) else if a3 < (1 : Int32) then some ((-1 : Int32), σ) else if a3 ≤ (9999 : Int32) then
      (rx_c (¬ a3 = 0) (
      if ((σ.1 76 13) * (((a2 - a1) / a3) + (1 : Int32))) ≤ (200 : Int32) then
      (rx_g (σ.1 76 8) 3 (rx_g ((rx_si σ 82 (σ.1 76 8).toNatClampNeg (nI s)).1 76 8) 3 (
      rx_g ((rx_si (rx_si σ 82 (σ.1 76 8).toNatClampNeg (nI s)) 83 ((rx_si σ 82 (σ.1 76 8).toNatClampNeg (nI s)).1 76 8).toNatClampNeg a1).1 76 8) 3 (
      let σ3 : rx_St := rx_si (rx_si (rx_si σ 82 (σ.1 76 8).toNatClampNeg (nI s)) 83 ((rx_si σ 82 (σ.1 76 8).toNatClampNeg (nI s)).1 76 8).toNatClampNeg a1) 84 ((rx_si (rx_si σ 82 (σ.1 76 8).toNatClampNeg (nI s)) 83 ((rx_si σ 82 (σ.1 76 8).toNatClampNeg (nI s)).1 76 8).toNatClampNeg a1).1 76 8).toNatClampNeg a3;
      rx_g (σ3.1 76 8) 3 (
      let σ4 : rx_St := rx_si σ3 85 (σ3.1 76 8).toNatClampNeg (((a2 - a1) / a3) + (1 : Int32));
      let σ5 : rx_St := rx_si σ4 76 8 ((σ4.1 76 8) + (1 : Int32));
      let σ6 : rx_St := rx_si σ5 76 13 ((σ5.1 76 13) * (((a2 - a1) / a3) + (1 : Int32)));
      (f_gri_forget σ6).bind fun y4 => some (y4.1 76 13, y4))))))
      else some ((-1 : Int32), σ))) else some ((-1 : Int32), σ) else some ((-1 : Int32), σ)) = r → f_gri_tellSpan w (nI s) a1 a2 a3 σ = r := by
    intro r hr
    unfold f_gri_tellSpan
    rw [if_neg (by rw [hc.1.1]; exact c3'), d1, if_neg (by decide)]
    exact hr
  have nb : (sp.drop 0).any (fun x => x.1 == s) = sp.any (fun x => x.1 == s) := by rw [List.drop_zero]
  have mloop : ∀ (τ : rx_St), tm_G sp se τ → (sp.any (fun x => x.1 == s) = true → f_m_span_57 rx_fu (nI s) a1 a2 a3 (0 : Int32) τ = some ((-1 : Int32), τ)) ∧ (sp.any (fun x => x.1 == s) = false → ∃ m', f_m_span_57 rx_fu (nI s) a1 a2 a3 (0 : Int32) τ = f_m_span_57 (m' + 1) (nI s) a1 a2 a3 (nI sp.length) τ) := fun τ hτ => by
    have := tm_hasSpan (a := a1) (b := a2) (c := a3) hok hτ hs h6 rx_fu 0 (Nat.zero_le _) (by show _ < 100000; omega)
    rw [nb] at this
    exact this
  rw [hsp] at cstart
  cases sb : sp.any (fun x => x.1 == s) with
  | true =>
    rw [sb] at cstart
    refine bad (cstart rfl) (mstart σ hm d2' ?_)
    have e57 : f_m_span_57 rx_fu (nI s) a1 a2 a3 (0 : Int32) (rx_si σ 87 0 (0 : Int32)) = some ((-1 : Int32), rx_si σ 87 0 (0 : Int32)) := (mloop _ hmz).1 sb
    rw [e57]
    exact tq_ite0 (tq_ite0 (tq_ite0 (tq_ite0 rfl)))
  | false =>
    rw [sb] at cstart
    by_cases lt : a2 < a1
    · refine bad (cstart ?_) (mstart σ hm d2' ?_)
      · exact if_pos lt
      · rw [if_pos lt]
        exact tq_ite0 (tq_ite0 rfl)
    rcases tq_num01 a1 with n1 | n1
    · refine bad (cstart ?_) (mstart σ hm d2' ?_)
      · show (if a2 < a1 then _ else _) = _
        rw [if_neg lt, tq_num, n1]
        exact if_pos rfl
      · rw [n1]
        exact if_pos rfl
    rcases tq_num01 a2 with n2 | n2
    · refine bad (cstart ?_) (mstart σ hm d2' ?_)
      · show (if a2 < a1 then _ else _) = _
        rw [if_neg lt, tq_num, n1, if_neg (by decide), tq_num, n2]
        exact if_pos rfl
      · rw [n1, if_neg (by decide), n2]
        exact if_pos rfl
    have cin : ∀ {r}, (if a3 < (1 : Int32) then some ((-1 : Int32), σ) else if a3 ≤ (9999 : Int32) then r else some ((-1 : Int32), σ)) = if a3 < (1 : Int32) then some ((-1 : Int32), σ) else if a3 ≤ (9999 : Int32) then r else some ((-1 : Int32), σ) := rfl
    rcases tq_in a3 1 9999 (by omega) (by omega) with ⟨i0, iv⟩ | ⟨d, rfl, dl1, dl2, i1⟩
    · refine bad (cstart ?_) (mstart σ hm d2' ?_)
      · show (if a2 < a1 then _ else _) = _
        rw [if_neg lt, tq_num, n1, if_neg (by decide), tq_num, n2, if_neg (by decide)]
        rcases iv with iv | iv
        · exact if_pos iv
        · exact tq_ite0 (if_neg (Int32.not_le.mpr iv))
      · have i0' : f_m_in a3 (1 : Int32) (9999 : Int32) = nI 0 := i0
        rw [n1, if_neg (by decide), n2, if_neg (by decide), if_neg lt, i0']
        exact if_pos rfl
    obtain ⟨D, hD, eD⟩ := tq_diff (tq_numr n1) (tq_numr n2) lt
    have i1' : f_m_in (nI d) (1 : Int32) (9999 : Int32) = nI 1 := i1
    have zle : D / d ≤ 19998 := by have := Nat.div_le_self D d; omega
    have ez : (a2 - a1) / nI d + (1 : Int32) = nI (D / d + 1) := by
      rw [eD, tw_div (by omega) (by omega) (by omega)]
      exact nI_add _ 1
    have dne : ¬ nI d = (0 : Int32) := by rw [show (0 : Int32) = nI 0 from rfl, tw_eq (by omega) (by omega)]; omega
    have pz : tw_pts sp * (D / d + 1) < 2147483648 := by
      have : tw_pts sp * (D / d + 1) ≤ 200 * 19999 := Nat.mul_le_mul p2 (by omega)
      omega
    have mbody : ∀ (τ : rx_St), tm_G sp se τ → f_m_isSetting (nI s) (rx_si τ 87 0 (0 : Int32)) = some (nI 1) → ∀ {r}, (if (200 : Int32) < nI (D / d + 1) then some ((-1 : Int32), rx_si τ 87 0 (0 : Int32)) else ((f_m_points (rx_si τ 87 0 (0 : Int32))).bind fun y3 =>
        if (y3 * nI (D / d + 1)) ≤ (200 : Int32) then
        (rx_g ((rx_si τ 87 0 (0 : Int32)).1 87 96) 3 (
        let σ1 : rx_St := rx_si (rx_si τ 87 0 (0 : Int32)) 157 ((rx_si τ 87 0 (0 : Int32)).1 87 96).toNatClampNeg (nI s);
        rx_g (σ1.1 87 96) 3 (
        let σ2 : rx_St := rx_si σ1 158 (σ1.1 87 96).toNatClampNeg a1;
        rx_g (σ2.1 87 96) 3 (
        let σ3 : rx_St := rx_si σ2 159 (σ2.1 87 96).toNatClampNeg (nI d);
        rx_g (σ3.1 87 96) 3 (
        let σ4 : rx_St := rx_si σ3 160 (σ3.1 87 96).toNatClampNeg (nI (D / d + 1));
        let σ5 : rx_St := rx_si σ4 87 96 ((σ4.1 87 96) + (1 : Int32));
        (f_m_points σ5).bind fun y4 =>
        some (y4, σ5))))))
        else
        some ((-1 : Int32), rx_si τ 87 0 (0 : Int32)))) = r → f_m_span (nI s) a1 a2 (nI d) τ = r := by
      intro τ hτ hs2 r hr
      refine mstart τ hτ hs2 ?_
      have hτz : tm_G sp se (rx_si τ 87 0 (0 : Int32)) := hτ.fr (fun q j a => tw_r1n _ _ (by omega))
      obtain ⟨m', e57'⟩ := (mloop _ hτz).2 sb
      have mt96 : (rx_si τ 87 0 (0 : Int32)).1 87 96 = nI sp.length := hτz.1.1
      rw [n1, if_neg (by decide), n2, if_neg (by decide), if_neg lt, i1', if_neg (by decide), e57', f_m_span_57, mt96, if_pos (tp_yl (by omega) (by omega) (Nat.le_refl _)), tw_cE dne]
      show (if (200 : Int32) < (a2 - a1) / nI d + (1 : Int32) then _ else _) = _
      rw [ez]
      rw [mt96] at hr
      exact hr
    have cbody : ∀ {r}, (if nI (tw_pts sp) * nI (D / d + 1) ≤ (200 : Int32) then
        ((f_gri_forget (rx_si (rx_si (rx_si (rx_si (rx_si (rx_si σ 82 sp.length (nI s)) 83 sp.length a1) 84 sp.length (nI d)) 85 sp.length (nI (D / d + 1))) 76 8 (nI (sp.length + 1))) 76 13 (nI (tw_pts sp * (D / d + 1))))).bind fun y4 => some (y4.1 76 13, y4)) else some ((-1 : Int32), σ)) = r → f_gri_tellSpan w (nI s) a1 a2 (nI d) σ = r := by
      intro r hr
      refine cstart ?_
      show (if a2 < a1 then _ else _) = _
      have hd1 : ¬ nI d < (1 : Int32) := by rw [show (1 : Int32) = nI 1 from rfl, tw_lt (by omega) (by omega)]; omega
      have hd2 : nI d ≤ (9999 : Int32) := by rw [show (9999 : Int32) = nI 9999 from rfl, tw_le (by omega) (by omega)]; omega
      rw [if_neg lt, tq_num, n1, if_neg (by decide), tq_num, n2, if_neg (by decide), if_neg hd1, if_pos hd2, tw_cE dne, ez, hc.1.2.1]
      by_cases l2 : nI (tw_pts sp) * nI (D / d + 1) ≤ (200 : Int32)
      · rw [if_pos l2] at hr ⊢
        rw [← hr]
        have g8 := hc.1.1
        have g13 := hc.1.2.1
        simp (disch := omega) only [tw_L, tw_gN, tw_cl, tw_le, tw_lt, tw_eq, nI_add, pk_mul, tw_sub, tw_B0, tw_B1, tw_nb0, tw_nb1, tw_r1s, tw_r1n, if_true, if_false, Nat.le_refl, Nat.reduceEqDiff, Nat.reduceLeDiff, Nat.reduceLT, reduceIte, g8, g13]
      · rw [if_neg l2] at hr ⊢
        exact hr
    by_cases big : tw_pts sp * (D / d + 1) ≤ 200
    · have z200 : D / d + 1 ≤ 200 := by
        have : 1 * (D / d + 1) ≤ tw_pts sp * (D / d + 1) := Nat.mul_le_mul_right _ p1
        omega
      have pp := tw_app_p (sp := sp) (x := (s, a1, nI d, D / d + 1))
      have hok' : tw_gok W (sp ++ [(s, a1, nI d, D / d + 1)]) se := by
        refine ⟨⟨?_, ?_, ?_, fun i y hy => ?_⟩, e8, e9⟩
        · rw [List.length_append]; show sp.length + 1 ≤ 3; omega
        · rw [pp]; exact Nat.mul_pos (by omega) (Nat.succ_pos _)
        · rw [pp]; exact big
        · rcases tw_app hy with ⟨-, hy⟩ | ⟨-, rfl⟩
          · exact s4 i y hy
          · exact ⟨hs, Nat.le_add_left 1 _, z200⟩
      obtain ⟨σf, ef, ff, f15, f86⟩ := tc_forget (rx_si (rx_si (rx_si (rx_si (rx_si (rx_si σ 82 sp.length (nI s)) 83 sp.length a1) 84 sp.length (nI d)) 85 sp.length (nI (D / d + 1))) 76 8 (nI (sp.length + 1))) 76 13 (nI (tw_pts sp * (D / d + 1))))
      have l200 : nI (tw_pts sp) * nI (D / d + 1) ≤ (200 : Int32) := by rw [pk_mul, show (200 : Int32) = nI 200 from rfl, tw_le (by omega) (by omega)]; exact big
      have r13 : σf.1 76 13 = nI (tw_pts sp * (D / d + 1)) := (ff.i (by omega)).trans (tw_r1s _ _ _ _)
      have hmf : tm_G sp se σf := hm.fr (fun q j a => by
        rw [ff.i (by omega)]
        simp (disch := omega) only [tw_L, tw_gN, tw_cl, tw_le, tw_lt, tw_eq, nI_add, pk_mul, tw_sub, tw_B0, tw_B1, tw_nb0, tw_nb1, tw_r1s, tw_r1n, if_true, if_false, Nat.le_refl, Nat.reduceEqDiff, Nat.reduceLeDiff, Nat.reduceLT, reduceIte])
      have hMf : tm_MW W lv (rx_si σf 87 0 (nI 0)) := h.2.1.2.1.fr (fun q j a b => by
        rw [tw_r1n _ _ (by omega), ff.i (by omega)]
        simp (disch := omega) only [tw_L, tw_gN, tw_cl, tw_le, tw_lt, tw_eq, nI_add, pk_mul, tw_sub, tw_B0, tw_B1, tw_nb0, tw_nb1, tw_r1s, tw_r1n, if_true, if_false, Nat.le_refl, Nat.reduceEqDiff, Nat.reduceLeDiff, Nat.reduceLT, reduceIte]) (by
        rw [tw_r1n _ _ (by omega), ff.i (by omega)]
        simp (disch := omega) only [tw_L, tw_gN, tw_cl, tw_le, tw_lt, tw_eq, nI_add, pk_mul, tw_sub, tw_B0, tw_B1, tw_nb0, tw_nb1, tw_r1s, tw_r1n, if_true, if_false, Nat.le_refl, Nat.reduceEqDiff, Nat.reduceLeDiff, Nat.reduceLT, reduceIte])
      have sf : f_m_isSetting (nI s) (rx_si σf 87 0 (0 : Int32)) = some (nI 1) := by
        obtain ⟨q1, q2, q3, q4, q5, q6⟩ := hMf
        obtain ⟨r1, r2, r3, r4, r5, r6⟩ := thr.1.2.1.2.1
        unfold f_m_isSetting at d2' ⊢
        rw [show (rx_si σf 87 0 (0 : Int32)).1 87 18 = nI lv from q2, show (rx_si σf 87 0 (0 : Int32)).1 95 (nI lv).toNatClampNeg = nI W.1.length by rw [nI_clamp (by omega)]; exact q3]
        rw [show (rx_si σ 87 0 (0 : Int32)).1 87 18 = nI lv from r2, show (rx_si σ 87 0 (0 : Int32)).1 95 (nI lv).toNatClampNeg = nI W.1.length by rw [nI_clamp (by omega)]; exact r3] at d2'
        exact d2'
      have r96 : (rx_si σf 87 0 (0 : Int32)).1 87 96 = nI sp.length := (tw_r1n _ _ (by omega)).trans hmf.1.1
      have hmfz : tm_G sp se (rx_si σf 87 0 (0 : Int32)) := hmf.fr (fun q j a => tw_r1n _ _ (by omega))
      have z2 : ¬ (200 : Int32) < nI (D / d + 1) := by rw [show (200 : Int32) = nI 200 from rfl, tw_lt (by omega) (by omega)]; omega
      let τ : rx_St := rx_si (rx_si (rx_si (rx_si (rx_si (rx_si σf 87 0 (0 : Int32)) 157 sp.length (nI s)) 158 sp.length a1) 159 sp.length (nI d)) 160 sp.length (nI (D / d + 1))) 87 96 (nI (sp.length + 1))
      have hmτ : tm_G (sp ++ [(s, a1, nI d, D / d + 1)]) se τ := by
        refine ⟨⟨?_, fun i y hy => ?_⟩, ?_, fun i y hy => ?_⟩
        · rw [List.length_append]
          exact tw_r1s _ _ _ _
        · rcases tw_app hy with ⟨hi, hy⟩ | ⟨hi, rfl⟩
          · obtain ⟨x1, x2, x3, x4⟩ := hmf.1.2 i y hy
            show (rx_si (rx_si (rx_si (rx_si (rx_si (rx_si σf 87 0 (0 : Int32)) 157 sp.length (nI s)) 158 sp.length a1) 159 sp.length (nI d)) 160 sp.length (nI (D / d + 1))) 87 96 (nI (sp.length + 1))).1 157 i = _ ∧ (rx_si (rx_si (rx_si (rx_si (rx_si (rx_si σf 87 0 (0 : Int32)) 157 sp.length (nI s)) 158 sp.length a1) 159 sp.length (nI d)) 160 sp.length (nI (D / d + 1))) 87 96 (nI (sp.length + 1))).1 158 i = _ ∧ (rx_si (rx_si (rx_si (rx_si (rx_si (rx_si σf 87 0 (0 : Int32)) 157 sp.length (nI s)) 158 sp.length a1) 159 sp.length (nI d)) 160 sp.length (nI (D / d + 1))) 87 96 (nI (sp.length + 1))).1 159 i = _ ∧ (rx_si (rx_si (rx_si (rx_si (rx_si (rx_si σf 87 0 (0 : Int32)) 157 sp.length (nI s)) 158 sp.length a1) 159 sp.length (nI d)) 160 sp.length (nI (D / d + 1))) 87 96 (nI (sp.length + 1))).1 160 i = _
            simp (disch := omega) only [tw_L, tw_gN, tw_cl, tw_le, tw_lt, tw_eq, nI_add, pk_mul, tw_sub, tw_B0, tw_B1, tw_nb0, tw_nb1, tw_r1s, tw_r1n, if_true, if_false, Nat.le_refl, Nat.reduceEqDiff, Nat.reduceLeDiff, Nat.reduceLT, reduceIte, x1, x2, x3, x4]
            exact ⟨trivial, trivial, trivial, trivial⟩
          · subst hi
            show (rx_si (rx_si (rx_si (rx_si (rx_si (rx_si σf 87 0 (0 : Int32)) 157 sp.length (nI s)) 158 sp.length a1) 159 sp.length (nI d)) 160 sp.length (nI (D / d + 1))) 87 96 (nI (sp.length + 1))).1 157 sp.length = nI s ∧ (rx_si (rx_si (rx_si (rx_si (rx_si (rx_si σf 87 0 (0 : Int32)) 157 sp.length (nI s)) 158 sp.length a1) 159 sp.length (nI d)) 160 sp.length (nI (D / d + 1))) 87 96 (nI (sp.length + 1))).1 158 sp.length = a1 ∧ (rx_si (rx_si (rx_si (rx_si (rx_si (rx_si σf 87 0 (0 : Int32)) 157 sp.length (nI s)) 158 sp.length a1) 159 sp.length (nI d)) 160 sp.length (nI (D / d + 1))) 87 96 (nI (sp.length + 1))).1 159 sp.length = nI d ∧ (rx_si (rx_si (rx_si (rx_si (rx_si (rx_si σf 87 0 (0 : Int32)) 157 sp.length (nI s)) 158 sp.length a1) 159 sp.length (nI d)) 160 sp.length (nI (D / d + 1))) 87 96 (nI (sp.length + 1))).1 160 sp.length = nI (D / d + 1)
            simp (disch := omega) only [tw_L, tw_gN, tw_cl, tw_le, tw_lt, tw_eq, nI_add, pk_mul, tw_sub, tw_B0, tw_B1, tw_nb0, tw_nb1, tw_r1s, tw_r1n, if_true, if_false, Nat.le_refl, Nat.reduceEqDiff, Nat.reduceLeDiff, Nat.reduceLT, reduceIte]
            exact ⟨trivial, trivial, trivial, trivial⟩
        · exact (tw_r1n _ _ (by omega)).trans ((tw_r1n _ _ (by omega)).trans ((tw_r1n _ _ (by omega)).trans ((tw_r1n _ _ (by omega)).trans ((tw_r1n _ _ (by omega)).trans ((tw_r1n _ _ (by omega)).trans hmf.2.1)))))
        · obtain ⟨x1, x2, x3, x4, x5⟩ := hmf.2.2 i y hy
          have g : ∀ q j, 152 ≤ q → q ≤ 156 → τ.1 q j = σf.1 q j := fun q j h1 h2 => (tw_r1n _ _ (by omega)).trans ((tw_r1n _ _ (by omega)).trans ((tw_r1n _ _ (by omega)).trans ((tw_r1n _ _ (by omega)).trans ((tw_r1n _ _ (by omega)).trans (tw_r1n _ _ (by omega))))))
          exact ⟨by rw [g _ _ (by omega) (by omega)]; exact x1, by rw [g _ _ (by omega) (by omega)]; exact x2, by rw [g _ _ (by omega) (by omega)]; exact x3, by rw [g _ _ (by omega) (by omega)]; exact x4, by rw [g _ _ (by omega) (by omega)]; exact x5⟩
      have gτ : ∀ q j, q < 157 → ¬ (q = 87 ∧ (j = 0 ∨ j = 96)) → τ.1 q j = σf.1 q j := fun q j h1 h2 => (tw_r1n _ _ (by omega)).trans ((tw_r1n _ _ (by omega)).trans ((tw_r1n _ _ (by omega)).trans ((tw_r1n _ _ (by omega)).trans ((tw_r1n _ _ (by omega)).trans (tw_r1n _ _ (by omega))))))
      have gf : ∀ q j, ¬ (82 ≤ q ∧ q ≤ 86) → ¬ (q = 76 ∧ (j = 8 ∨ j = 13 ∨ j = 15)) → σf.1 q j = σ.1 q j := fun q j h1 h2 => by
        rw [ff.i (by omega), tw_r1n _ _ (by omega), tw_r1n _ _ (by omega), tw_r1n _ _ (by omega), tw_r1n _ _ (by omega), tw_r1n _ _ (by omega), tw_r1n _ _ (by omega)]
      refine ⟨(nI (tw_pts sp * (D / d + 1)), σf), (nI (tw_pts sp * (D / d + 1)), τ), sp ++ [(s, a1, nI d, D / d + 1)], ?_, mbody σf hmf sf ?_, rfl, ?_, ⟨hok', ⟨⟨?_, ?_, fun i y hy => ?_⟩, ?_, fun i y hy => ?_⟩, hmτ⟩, ?_⟩
      · have e := cbody (if_pos l200)
        rw [ef, Option.bind_some, r13] at e
        unfold f_c_span
        rw [e]
        rfl
      · have pe := tm_points hok' hmτ
        rw [pp] at pe
        rw [if_neg z2, tm_points hok hmfz, Option.bind_some, if_pos l200]
        have pe' : f_m_points (rx_si (rx_si (rx_si (rx_si (rx_si (rx_si σf 87 0 (nI 0)) 157 sp.length (nI s)) 158 sp.length a1) 159 sp.length (nI d)) 160 sp.length (nI (D / d + 1))) 87 96 (nI (sp.length + 1))) = some (nI (tw_pts sp * (D / d + 1))) := pe
        have r96' : σf.1 87 96 = nI sp.length := hmf.1.1
        simp (disch := omega) only [tw_L, tw_gN, tw_cl, tw_le, tw_lt, tw_eq, nI_add, pk_mul, tw_sub, tw_B0, tw_B1, tw_nb0, tw_nb1, tw_r1s, tw_r1n, if_true, if_false, Nat.le_refl, Nat.reduceEqDiff, Nat.reduceLeDiff, Nat.reduceLT, reduceIte, r96']
        rw [pe']
        rfl
      · intro q j n
        unfold tq_SG at n
        refine ⟨?_, ff.l (by omega)⟩
        show τ.1 q j = σ.1 q j
        rw [← gf q j (by omega) (by omega)]
        exact (tw_r1n _ _ (by omega)).trans ((tw_r1n _ _ (by omega)).trans ((tw_r1n _ _ (by omega)).trans ((tw_r1n _ _ (by omega)).trans ((tw_r1n _ _ (by omega)).trans (tw_r1n _ _ (by omega))))))
      · show τ.1 76 8 = _
        rw [gτ _ _ (by omega) (by omega), ff.i (by omega), List.length_append]
        simp (disch := omega) only [tw_L, tw_gN, tw_cl, tw_le, tw_lt, tw_eq, nI_add, pk_mul, tw_sub, tw_B0, tw_B1, tw_nb0, tw_nb1, tw_r1s, tw_r1n, if_true, if_false, Nat.le_refl, Nat.reduceEqDiff, Nat.reduceLeDiff, Nat.reduceLT, reduceIte]
        rfl
      · show τ.1 76 13 = _
        rw [gτ _ _ (by omega) (by omega), r13, pp]
      · show τ.1 82 i = _ ∧ τ.1 83 i = _ ∧ τ.1 84 i = _ ∧ τ.1 85 i = _
        rw [gτ _ _ (by omega) (by omega), gτ _ _ (by omega) (by omega), gτ _ _ (by omega) (by omega), gτ _ _ (by omega) (by omega), ff.i (by omega), ff.i (by omega), ff.i (by omega), ff.i (by omega)]
        rcases tw_app hy with ⟨hi, hy⟩ | ⟨hi, rfl⟩
        · obtain ⟨x1, x2, x3, x4⟩ := hc.1.2.2 i y hy
          simp (disch := omega) only [tw_L, tw_gN, tw_cl, tw_le, tw_lt, tw_eq, nI_add, pk_mul, tw_sub, tw_B0, tw_B1, tw_nb0, tw_nb1, tw_r1s, tw_r1n, if_true, if_false, Nat.le_refl, Nat.reduceEqDiff, Nat.reduceLeDiff, Nat.reduceLT, reduceIte, x1, x2, x3, x4]
          exact ⟨trivial, trivial, trivial, trivial⟩
        · subst hi
          simp (disch := omega) only [tw_L, tw_gN, tw_cl, tw_le, tw_lt, tw_eq, nI_add, pk_mul, tw_sub, tw_B0, tw_B1, tw_nb0, tw_nb1, tw_r1s, tw_r1n, if_true, if_false, Nat.le_refl, Nat.reduceEqDiff, Nat.reduceLeDiff, Nat.reduceLT, reduceIte]
          exact ⟨trivial, trivial, trivial, trivial⟩
      · show τ.1 76 2 = _
        rw [gτ _ _ (by omega) (by omega), gf _ _ (by omega) (by omega)]
        exact hc.2.1
      · show τ.1 77 i = _ ∧ τ.1 78 i = _ ∧ τ.1 79 i = _ ∧ τ.1 80 i = _ ∧ τ.1 81 i = _
        rw [gτ _ _ (by omega) (by omega), gτ _ _ (by omega) (by omega), gτ _ _ (by omega) (by omega), gτ _ _ (by omega) (by omega), gτ _ _ (by omega) (by omega), gf _ _ (by omega) (by omega), gf _ _ (by omega) (by omega), gf _ _ (by omega) (by omega), gf _ _ (by omega) (by omega), gf _ _ (by omega) (by omega)]
        exact hc.2.2 i y hy
      · obtain ⟨y, n, v1, v2, v3, v4, -⟩ := hV
        refine ⟨y, 0, ?_, ?_, v3, v4, fun _ => ⟨Nat.zero_le _, ?_, fun p hp => ?_⟩⟩
        · show τ.1 76 16 = _
          rw [gτ _ _ (by omega) (by omega), gf _ _ (by omega) (by omega)]; exact v1
        · show τ.1 38 8 = _
          rw [gτ _ _ (by omega) (by omega), gf _ _ (by omega) (by omega)]; exact v2
        · show τ.1 76 15 = _
          rw [gτ _ _ (by omega) (by omega)]; exact f15
        · show τ.1 86 p = _
          rw [pp] at hp
          have hp' : p < tw_pts sp * (D / d + 1) := hp
          rw [gτ _ _ (by omega) (by omega)]; exact f86 p (by omega)
    · have l200 : ¬ nI (tw_pts sp) * nI (D / d + 1) ≤ (200 : Int32) := by rw [pk_mul, show (200 : Int32) = nI 200 from rfl, tw_le (by omega) (by omega)]; exact big
      refine bad (cbody (if_neg l200)) (mbody σ hm d2' ?_)
      by_cases b2 : (200 : Int32) < nI (D / d + 1)
      · exact if_pos b2
      · rw [if_neg b2, tm_points hok hmz, Option.bind_some]
        exact if_neg l200
end TL
