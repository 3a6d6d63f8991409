/-! THE MODEL: what meets what was SEEN; both sides' point by point -/
def tw_ms (W : tw_Wo) (N : tw_N) (dl : Bool) (st : Nat → Int32) (pl : Nat → Nat) (bg : Nat → Int32) (sp : List tw_Sp) (se : List tw_Se) (s p : Nat) : Bool := (List.range s).all (fun x => tw_meet W N dl st pl bg sp se p x)
theorem tw_ms_iff {W : tw_Wo} {N : tw_N} {dl : Bool} {st : Nat → Int32} {pl : Nat → Nat} {bg : Nat → Int32} {sp : List tw_Sp} {se : List tw_Se} {s p : Nat} : tw_ms W N dl st pl bg sp se s p = true ↔ ∀ x, x < s → tw_meet W N dl st pl bg sp se p x = true := by
  unfold tw_ms
  simp only [List.all_eq_true, List.mem_range]
section TJ
variable {w : Nat} {W : tw_Wo} {lv : Nat} {N : tw_N} {pl : Nat → Nat} {bg : Nat → Int32} {dl : Bool} {st : Nat → Int32} {sp : List tw_Sp} {se : List tw_Se}
/-- places that the model's meeting writes -/
def tm_SM (q j : Nat) : Prop := tm_S8 q j ∨ q = 134
theorem tm_m15 {p seed s : Nat} {k7 : Int32 → Int32 → rx_St → Option (Int32 × rx_St)} (hok : tw_gok W sp se) (Q : Int32 × rx_St → Prop) :
    ∀ m i σ, tm_T W N pl bg dl σ → tm_MW W lv σ → tm_G sp se σ → (∀ j, j < W.1.length → σ.1 134 j = tw_stp sp st p j) → i ≤ se.length → se.length - i < m →
    (∀ σ', tw_fr tm_S8 σ σ' → (se.drop i).all (fun x => tw_sat N (tw_RP W N dl st pl bg sp p seed x.1) x) = true → tw_ok (k7 (nI s) (nI (seed + 1)) σ') Q) →
    (∀ σ', tw_fr tm_S8 σ σ' → (se.drop i).all (fun x => tw_sat N (tw_RP W N dl st pl bg sp p seed x.1) x) = false → Q (nI 0, σ')) →
    tw_ok (f_m_isMeeting_15 k7 m (nI s) (nI seed) (nI i) σ) Q := by
  obtain ⟨-, s8, s9⟩ := hok
  intro m
  induction m with
  | zero => intro i σ _ _ _ _ _ h; exact absurd h (Nat.not_lt_zero _)
  | succ m ih =>
    intro i σ hT hM hG hst hi hm h1 h0
    unfold f_m_isMeeting_15
    rw [hG.2.1]
    by_cases c : i = se.length
    · subst c
      rw [if_pos (tp_yl (by omega) (by omega) (Nat.le_refl _)), show nI seed + (1 : Int32) = nI (seed + 1) from nI_add seed 1]
      exact h1 σ tw_fr.rf (by rw [List.drop_length]; rfl)
    · have hi' : i < se.length := by omega
      have hx : se[i]? = some se[i] := List.getElem?_eq_getElem hi'
      obtain ⟨e0, e1, e2, e3, e4⟩ := hG.2.2 i _ hx
      obtain ⟨k1, k2, k3⟩ := s9 i _ hx
      have all := tw_all_i (fun x => tw_sat N (tw_RP W N dl st pl bg sp p seed x.1) x) se hi'
      rw [if_neg (tp_nl (by omega) (by omega) (by omega)), tw_gN (by omega) (by decide), tw_gN (by omega) (by decide), tw_gN (by omega) (by decide), nI_clamp (by omega), e0, e1, e2]
      refine tw_b (tm_figureOf (seed := nI seed) k1 hM hT hst k2 k3) (fun y h => ?_)
      obtain ⟨y1, y2⟩ := h
      have g3 : y.2.1 155 i = se[i].2.2.2.1 := (y2.i (by unfold tm_S8; omega)).trans e3
      have g4 : y.2.1 156 i = se[i].2.2.2.2 := (y2.i (by unfold tm_S8; omega)).trans e4
      rw [tw_gN (by omega) (by decide), g3, y1]
      unfold tw_sat at all
      by_cases l : tw_fig N (tw_run W N dl (tw_stp sp st p) (nI seed) tw_plain (tw_R0 pl bg) se[i].1) se[i].2.1 se[i].2.2.1 < se[i].2.2.2.1
      · rw [if_pos l, tw_some]
        refine h0 y.2 y2 ?_
        unfold tw_sat
        rw [all]
        unfold tw_RP
        rw [decide_eq_true l]
        rfl
      · rw [if_neg l, tw_gN (by omega) (by decide), g4]
        by_cases h : tw_fig N (tw_run W N dl (tw_stp sp st p) (nI seed) tw_plain (tw_R0 pl bg) se[i].1) se[i].2.1 se[i].2.2.1 ≤ se[i].2.2.2.2
        · rw [if_pos h, show nI i + (1 : Int32) = nI (i + 1) from nI_add i 1]
          have here : (!decide (tw_fig N (tw_RP W N dl st pl bg sp p seed se[i].1) se[i].2.1 se[i].2.2.1 < se[i].2.2.2.1) && decide (tw_fig N (tw_RP W N dl st pl bg sp p seed se[i].1) se[i].2.1 se[i].2.2.1 ≤ se[i].2.2.2.2)) = true := by
            unfold tw_RP
            rw [decide_eq_false l, decide_eq_true h]
            rfl
          have eqd : (se.drop i).all (fun x => tw_sat N (tw_RP W N dl st pl bg sp p seed x.1) x) = (se.drop (i + 1)).all (fun x => tw_sat N (tw_RP W N dl st pl bg sp p seed x.1) x) := by
            unfold tw_sat
            rw [all, here, Bool.true_and]
          refine ih (i + 1) y.2 (hT.fr (fun q j a b => y2.i (by unfold tm_S8; omega)) (y2.i (by unfold tm_S8; omega)) (y2.i (by unfold tm_S8; omega))) (hM.fr (fun q j a b => y2.i (by unfold tm_S8; omega)) (y2.i (by unfold tm_S8; omega))) (hG.fr (fun q j a => y2.i (by unfold tm_S8; omega))) (fun j hj => by rw [y2.i (by unfold tm_S8; omega)]; exact hst j hj) (by omega) (by omega) (fun σ' f' z => h1 σ' (y2.tr f') (by rw [eqd]; exact z)) (fun σ' f' z => h0 σ' (y2.tr f') (by rw [eqd]; exact z))
        · rw [if_neg h, tw_some]
          refine h0 y.2 y2 ?_
          unfold tw_sat
          rw [all]
          unfold tw_RP
          rw [decide_eq_false h, Bool.and_false, Bool.false_and]
theorem tm_isMeeting {σ : rx_St} {p s : Nat} (hT : tm_T W N pl bg dl σ) (hM : tm_MW W lv σ) (hst : ∀ i, i < W.1.length → σ.1 129 i = st i) (hok : tw_gok W sp se) (hG : tm_G sp se σ) (hp : p < 2147483648) (hs : s ≤ 3) :
    tw_ok (f_m_isMeeting (nI p) (nI s) σ) (fun y => tw_fr tm_SM σ y.2 ∧ y.1 = tw_B (tw_ms W N dl st pl bg sp se s p)) := by
  have s8 := hok.2.1
  unfold f_m_isMeeting
  refine tw_b (tm_stands (st := st) hok hG hT.2.2.2.1 hst hp) (fun σ1 h => ?_)
  obtain ⟨f1, g1⟩ := h
  have main : ∀ m x σ', x ≤ s → s - x < m → tw_fr tm_SM σ σ' → (∀ j, j < W.1.length → σ'.1 134 j = tw_stp sp st p j) → (∀ y, y < x → tw_meet W N dl st pl bg sp se p y = true) → tw_ok (f_m_isMeeting_7 m (nI s) (nI x) σ') (fun y => tw_fr tm_SM σ y.2 ∧ y.1 = tw_B (tw_ms W N dl st pl bg sp se s p)) := by
    intro m
    induction m with
    | zero => intro x σ' _ h; exact absurd h (Nat.not_lt_zero _)
    | succ m ih =>
      intro x σ' hx hm f g a
      unfold f_m_isMeeting_7
      by_cases c : x = s
      · subst c
        rw [if_pos (tp_yl (by omega) (by omega) (Nat.le_refl _)), tw_some]
        exact ⟨f, by rw [tw_ms_iff.mpr a]; rfl⟩
      · rw [if_neg (tp_nl (by omega) (by omega) (by omega))]
        refine tm_m15 (st := st) (sp := sp) (p := p) (seed := x) hok _ rx_fu 0 σ' (hT.fr (fun q j a b => f.i (by unfold tm_SM tm_S8; omega)) (f.i (by unfold tm_SM tm_S8; omega)) (f.i (by unfold tm_SM tm_S8; omega))) (hM.fr (fun q j a b => f.i (by unfold tm_SM tm_S8; omega)) (f.i (by unfold tm_SM tm_S8; omega))) (hG.fr (fun q j a => f.i (by unfold tm_SM tm_S8; omega))) g (Nat.zero_le _) (by show _ < 100000; omega) (fun σ2 f2 z => ?_) (fun σ2 f2 z => ?_)
        · rw [List.drop_zero] at z
          refine ih (x + 1) σ2 (by omega) (by omega) (f.tr (f2.mn (fun q j h => Or.inl h))) (fun j hj => by rw [f2.i (by unfold tm_S8; omega)]; exact g j hj) (fun y hy => ?_)
          by_cases e : y = x
          · subst e; exact z
          · exact a y (by omega)
        · rw [List.drop_zero] at z
          refine ⟨f.tr (f2.mn (fun q j h => Or.inl h)), ?_⟩
          cases b : tw_ms W N dl st pl bg sp se s p with
          | false => rfl
          | true =>
            have := tw_ms_iff.mp b x (by omega)
            unfold tw_meet at this
            rw [z] at this
            cases this
  exact main rx_fu 0 σ1 (Nat.zero_le _) (by show _ < 100000; omega) (f1.mn (fun q j h => Or.inr h)) g1 (fun y hy => absurd hy (Nat.not_lt_zero _))
/-- what the class kept says the same -/
theorem tc_msV {σ : rx_St} {n s p : Nat} (hV : tc_V w W N dl st pl bg sp se n σ) (hs : s ≤ n) (hp : p < tw_pts sp) : (σ.1 86 p < nI s) = (tw_ms W N dl st pl bg sp se s p = false) := by
  have l := tw_led_le (tw_meet W N dl st pl bg sp se p) n
  have v := hV.1
  have g := tw_led_ge (tw_meet W N dl st pl bg sp se p) n s hs
  rw [hV.2.2 p hp, tw_lt (by omega) (by omega)]
  refine propext ⟨fun h => ?_, fun h => ?_⟩
  · cases b : tw_ms W N dl st pl bg sp se s p with
    | false => rfl
    | true => exact absurd (g.mpr (tw_ms_iff.mp b)) (by omega)
  · by_cases c : s ≤ tw_led (tw_meet W N dl st pl bg sp se p) n
    · rw [tw_ms_iff.mpr (g.mp c)] at h
      cases h
    · omega
/-! meets -/
def tw_cn (P : Nat → Bool) : Nat → Nat
  | 0 => 0
  | n + 1 => if P n = true then tw_cn P n + 1 else tw_cn P n
theorem tc_count {σ : rx_St} {n s : Nat} (hok : tw_gok W sp se) (hG : tc_G sp se σ) (hV : tc_V w W N dl st pl bg sp se n σ) (hs : s ≤ n) : f_gri_countMeeting (nI s) σ = some (nI (tw_cn (tw_ms W N dl st pl bg sp se s) (tw_pts sp))) := by
  have p2 := hok.1.2.2.1
  have v3 := hV.1
  have main : ∀ m i, i ≤ tw_pts sp → tw_pts sp - i < m → f_gri_countMeeting_4 m (nI s) (nI (tw_cn (tw_ms W N dl st pl bg sp se s) i)) (nI i) σ = some (nI (tw_cn (tw_ms W N dl st pl bg sp se s) (tw_pts sp))) := by
    intro m
    induction m with
    | zero => intro i _ h; exact absurd h (Nat.not_lt_zero _)
    | succ m ih =>
      intro i hi hm
      unfold f_gri_countMeeting_4
      rw [hG.1.2.1]
      by_cases c : i = tw_pts sp
      · subst c
        exact if_pos (tp_yl (by omega) (by omega) (Nat.le_refl _))
      · have ih' := ih (i + 1) (by omega) (by omega)
        rw [tw_cn] at ih'
        rw [if_neg (tp_nl (by omega) (by omega) (by omega)), tw_gN (by omega) (by decide), nI_clamp (by omega), tw_ifE (tc_msV hV hs (show i < tw_pts sp by omega))]
        unfold f_gri_countMeeting_25
        rw [show nI i + (1 : Int32) = nI (i + 1) from nI_add i 1]
        cases b : tw_ms W N dl st pl bg sp se s i with
        | false =>
          rw [if_pos rfl]
          rw [b, if_neg (by decide)] at ih'
          exact ih'
        | true =>
          rw [if_neg (by decide), show nI (tw_cn (tw_ms W N dl st pl bg sp se s) i) + (1 : Int32) = nI (tw_cn (tw_ms W N dl st pl bg sp se s) i + 1) from nI_add _ 1]
          rw [b, if_pos rfl] at ih'
          exact ih'
  exact main rx_fu 0 (Nat.zero_le _) (by show _ < 100000; omega)
/-- what the model's points keep -/
def tm_K (W : tw_Wo) (lv : Nat) (N : tw_N) (pl : Nat → Nat) (bg : Nat → Int32) (dl : Bool) (st : Nat → Int32) (sp : List tw_Sp) (se : List tw_Se) (σ : rx_St) : Prop := tm_T W N pl bg dl σ ∧ tm_MW W lv σ ∧ (∀ i, i < W.1.length → σ.1 129 i = st i) ∧ tm_G sp se σ
theorem tm_K.fr {σ σ' : rx_St} (h : tm_K W lv N pl bg dl st sp se σ) (f : tw_fr tm_SM σ σ') : tm_K W lv N pl bg dl st sp se σ' :=
  ⟨h.1.fr (fun q j a b => f.i (by unfold tm_SM tm_S8; omega)) (f.i (by unfold tm_SM tm_S8; omega)) (f.i (by unfold tm_SM tm_S8; omega)), h.2.1.fr (fun q j a b => f.i (by unfold tm_SM tm_S8; omega)) (f.i (by unfold tm_SM tm_S8; omega)), fun i hi => by
    have := h.1.2.2.2.1
    rw [f.i (by unfold tm_SM tm_S8; omega)]; exact h.2.2.1 i hi, h.2.2.2.fr (fun q j a => f.i (by unfold tm_SM tm_S8; omega))⟩
theorem tm_point {σ : rx_St} {p s : Nat} (hok : tw_gok W sp se) (h : tm_K W lv N pl bg dl st sp se σ) (hp : p < 2147483648) (hs : s ≤ 3) :
    tw_ok (f_m_isMeeting (nI p) (nI s) σ) (fun y => tw_fr tm_SM σ y.2 ∧ tm_K W lv N pl bg dl st sp se y.2 ∧ y.1 = tw_B (tw_ms W N dl st pl bg sp se s p)) :=
  tw_mono (tm_isMeeting h.1 h.2.1 h.2.2.1 hok h.2.2.2 hp hs) (fun y z => ⟨z.1, h.fr z.1, z.2⟩)
theorem tm_meets {s : Nat} (hok : tw_gok W sp se) (hs : s ≤ 3) {σ0 : rx_St} : ∀ m i σ, i ≤ tw_pts sp → tw_pts sp - i < m → tw_fr tm_SM σ0 σ → tm_K W lv N pl bg dl st sp se σ →
    tw_ok (f_m_meets_18 m (nI s) (nI (tw_cn (tw_ms W N dl st pl bg sp se s) i)) (nI i) σ) (fun y => tw_fr tm_SM σ0 y.2 ∧ y.1 = nI (tw_cn (tw_ms W N dl st pl bg sp se s) (tw_pts sp))) := by
  have p2 := hok.1.2.2.1
  intro m
  induction m with
  | zero => intro i σ _ h; exact absurd h (Nat.not_lt_zero _)
  | succ m ih =>
    intro i σ hi hm f hK
    unfold f_m_meets_18
    rw [tm_points hok hK.2.2.2, Option.bind_some]
    by_cases c : i = tw_pts sp
    · subst c
      rw [if_pos (tp_yl (by omega) (by omega) (Nat.le_refl _)), tw_some]
      exact ⟨f, rfl⟩
    · rw [if_neg (tp_nl (by omega) (by omega) (by omega))]
      refine tw_b (tm_point hok hK (by omega) hs) (fun y h => ?_)
      obtain ⟨y1, y2, y3⟩ := h
      have ih' := ih (i + 1) y.2 (by omega) (by omega) (f.tr y1) y2
      rw [tw_cn] at ih'
      unfold f_m_meets_38
      rw [y3, show nI i + (1 : Int32) = nI (i + 1) from nI_add i 1]
      cases b : tw_ms W N dl st pl bg sp se s i with
      | false =>
        rw [if_pos (by rfl)]
        rw [b, if_neg (by decide)] at ih'
        exact ih'
      | true =>
        rw [if_neg (by decide), show nI (tw_cn (tw_ms W N dl st pl bg sp se s) i) + (1 : Int32) = nI (tw_cn (tw_ms W N dl st pl bg sp se s) i + 1) from nI_add _ 1]
        rw [b, if_pos rfl] at ih'
        exact ih'
end TJ
