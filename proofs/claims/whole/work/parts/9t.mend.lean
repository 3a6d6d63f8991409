/-! THE MODEL READS: all questions, and the end -/
def ta_SB (Q : List ta_Qu) (a j : Nat) : Prop := ∃ x ∈ Q, ta_SA x a j
section TBT
variable {T : List tw_Tk} {n lv : Nat} {s : ty_Ps} {U : ty_Wo} {Q : List ta_Qu} {acc : Option (Nat × Nat)}
theorem ta_qr.fr {x y : ta_Qu} {σ σ' : rx_St} (h : ta_qr T U x σ) (f : tw_fr (ta_SA y) σ σ') (d : ¬ ((x.1 = 2 ↔ y.1 = 2) ∧ x.2.1 = y.2.1)) : ta_qr T U x σ' := by
  intro o w e e'
  obtain ⟨a, b⟩ := h o w e e'
  refine ⟨fun z => ?_, fun z => ?_⟩
  · obtain ⟨a1, a2⟩ := a z
    have k : ∀ q, q = 110 ∨ q = 111 → ¬ ta_SA y q x.2.1 := fun q hq y' => by
      unfold ta_SA ta_S5 at y'
      rcases y' with y' | ⟨y1, -, y2⟩ | ⟨-, y1, -⟩
      · omega
      · exact d ⟨⟨fun _ => y1, fun _ => z⟩, y2⟩
      · omega
    exact ⟨(f.i (k _ (by omega))).trans a1, (f.i (k _ (by omega))).trans a2⟩
  · obtain ⟨a1, a2⟩ := b z
    have k : ∀ q, q = 121 ∨ q = 122 → ¬ ta_SA y q x.2.1 := fun q hq y' => by
      unfold ta_SA ta_S5 at y'
      rcases y' with y' | ⟨-, y1, -⟩ | ⟨y1, -, y2⟩
      · omega
      · omega
      · exact d ⟨⟨fun w => absurd w z, fun w => absurd w y1⟩, y2⟩
    exact ⟨(f.i (k _ (by omega))).trans a1, (f.i (k _ (by omega))).trans a2⟩
theorem ta_qls {P : Int32 × rx_St → Prop} {σ0 : rx_St} (hP : ∀ i, ty_Pl T n i ≤ 2000) (hU : ty_vP T U) (hs : s.1 = 0) (hQ : Q.length ≤ 500) (hn : ta_qn T Q) (hk : ∀ x ∈ Q, x.2.2.1 < 10) (hw : ∀ x ∈ Q, (x.1 ≠ 2 → x.2.1 < 1400) ∧ (x.1 = 2 → x.2.1 < 480)) (hd : Q.Pairwise (fun x y => ¬ ((x.1 = 2 ↔ y.1 = 2) ∧ x.2.1 = y.2.1)))
    (k : ∀ σ', tw_fr (ta_SB Q) σ0 σ' → ta_qw lv T n s U Q σ' → tm_fd (ty_mn T n acc (Q.flatMap (ta_qe T U lv))) σ' → (∀ x ∈ Q, ta_qr T U x σ') → tw_ok (f_m_read_209 σ') P) :
    ∀ (m i : Nat) (σ : rx_St), i ≤ Q.length → Q.length - i < m → tw_fr (ta_SB Q) σ0 σ → ta_qw lv T n s U Q σ → tm_fd (ty_mn T n acc ((Q.take i).flatMap (ta_qe T U lv))) σ → (∀ x ∈ Q.take i, ta_qr T U x σ) → tw_ok (f_m_read_183 m (nI i) σ) P := by
  intro m
  induction m with
  | zero => intro i σ _ h; exact absurd h (Nat.not_lt_zero _)
  | succ m ih =>
    intro i σ hi hm f h ha hr
    unfold f_m_read_183
    rw [h.2.2.2.2.2.1]
    by_cases c : i = Q.length
    · rw [if_pos (tp_yl (by omega) (by omega) (by omega))]
      rw [c, List.take_length] at ha hr
      exact k σ f h ha hr
    · have hl : Q[i]? = some Q[i] := List.getElem?_eq_getElem (by omega)
      have hmem : Q[i] ∈ Q := List.getElem_mem (by omega)
      rw [if_neg (tp_nl (by omega) (by omega) (by omega)), tw_ifE h.2.1.z, if_pos hs]
      refine tw_b (ta_ans hP hU hs h (by omega) hl (hn _ hmem) (hk _ hmem) (hw _ hmem) ha) (fun σ1 g => ?_)
      obtain ⟨f1, a1, r1⟩ := g
      rw [show nI i + (1 : Int32) = nI (i + 1) from nI_add i 1]
      have et : Q.take (i + 1) = Q.take i ++ [Q[i]] := by rw [List.take_succ, hl]; rfl
      refine ih (i + 1) σ1 (by omega) (by omega) (f.tr (f1.mn (fun a j y => ⟨_, hmem, y⟩))) (h.fr (f1.mn (fun a j y => by
        unfold ta_SA at y
        rcases y with y | y | y
        · exact Or.inl y
        · exact Or.inr (by omega)
        · exact Or.inr (by omega)))) ?_ (fun x hx => ?_)
      · rw [et, List.flatMap_append, ty_mn_app, List.flatMap_cons, List.flatMap_nil, List.append_nil]
        exact a1
      · rw [et] at hx
        rcases List.mem_append.mp hx with hx | hx
        · refine (hr x hx).fr f1 ?_
          obtain ⟨i', hi', e⟩ := List.getElem_of_mem hx
          rw [List.getElem_take] at e
          rw [List.length_take] at hi'
          rw [List.pairwise_iff_getElem] at hd
          have := hd i' i (by omega) (by omega) (by omega)
          rw [e] at this
          exact this
        · rw [List.mem_singleton.mp hx]; exact r1
/-- the last rows -/
theorem ta_276 {σ : rx_St} {ss : List ty_Se} (hl : lv ≤ 1) (h18 : σ.1 87 18 = nI lv) (h95 : σ.1 95 lv = nI ss.length) (h6 : ss.length ≤ 6) (hv : ta_sv lv T ss σ) : tw_ok (f_m_read_276 rx_fu (0 : Int32) σ) (fun y => y.1 = nI 0 ∧ tw_fr (fun q j => q = 87 ∧ (j = 60 ∨ j = 86 ∨ j = 90 ∨ j = 96) ∨ q = 129) σ y.2 ∧ (y.2.1 87 60 = nI 0 ∧ y.2.1 87 86 = nI 0 ∧ y.2.1 87 90 = nI 0 ∧ y.2.1 87 96 = nI 0) ∧ ∀ (i : Nat) (x : ty_Se), ss[i]? = some x → y.2.1 129 i = nI (ty_V T x.2)) := by
  have main : ∀ m i (σ1 : rx_St), i ≤ ss.length → ss.length - i < m → tw_fr (fun q j => q = 129) σ σ1 → (∀ (i' : Nat) (x : ty_Se), i' < i → ss[i']? = some x → σ1.1 129 i' = nI (ty_V T x.2)) → tw_ok (f_m_read_276 m (nI i) σ1) (fun y => y.1 = nI 0 ∧ tw_fr (fun q j => q = 87 ∧ (j = 60 ∨ j = 86 ∨ j = 90 ∨ j = 96) ∨ q = 129) σ y.2 ∧ (y.2.1 87 60 = nI 0 ∧ y.2.1 87 86 = nI 0 ∧ y.2.1 87 90 = nI 0 ∧ y.2.1 87 96 = nI 0) ∧ ∀ (i : Nat) (x : ty_Se), ss[i]? = some x → y.2.1 129 i = nI (ty_V T x.2)) := by
    intro m
    induction m with
    | zero => intro i σ1 _ h; exact absurd h (Nat.not_lt_zero _)
    | succ m ih =>
      intro i σ1 hi hm f h
      unfold f_m_read_276
      rw [f.i (show ¬ 87 = 129 by decide), h18]
      refine tw_g (vp_in_nI (by omega) (by decide)) ?_
      rw [nI_clamp (by omega), f.i (show ¬ 95 = 129 by decide), h95]
      by_cases c : i = ss.length
      · rw [if_pos (tp_yl (by omega) (by omega) (by omega)), tw_some]
        have g : tw_fr (fun q j => q = 87 ∧ (j = 60 ∨ j = 86 ∨ j = 90 ∨ j = 96)) σ1 (rx_si (rx_si (rx_si (rx_si σ1 87 60 (0 : Int32)) 87 90 (0 : Int32)) 87 96 (0 : Int32)) 87 86 (0 : Int32)) := (((tw_fr.rf.si (by omega)).si (by omega)).si (by omega)).si (by omega)
        refine ⟨rfl, (f.mn (fun q j y => Or.inr y)).tr (g.mn (fun q j y => Or.inl y)), ⟨?_, tw_r1s _ _ _ _, ?_, ?_⟩, fun i' x hx => ?_⟩
        · rw [tw_r1n _ _ (by omega), tw_r1n _ _ (by omega), tw_r1n _ _ (by omega), tw_r1s]; rfl
        · rw [tw_r1n _ _ (by omega), tw_r1n _ _ (by omega), tw_r1s]; rfl
        · rw [tw_r1n _ _ (by omega), tw_r1s]; rfl
        · have il := (List.getElem?_eq_some_iff.mp hx).1
          exact (g.i (by omega)).trans (h i' x (by omega) hx)
      · have hx : ss[i]? = some ss[i] := List.getElem?_eq_getElem (by omega)
        rw [if_neg (tp_nl (by omega) (by omega) (by omega)), show (6 : Int32) * nI lv + nI i = nI (6 * lv + i) by rw [show (6 : Int32) = nI 6 from rfl, pk_mul, nI_add]]
        refine tw_g (vp_in_nI (by omega) (by decide)) (tw_g (vp_in_nI (by omega) (by decide)) ?_)
        rw [nI_clamp (by omega), nI_clamp (by omega), show nI i + (1 : Int32) = nI (i + 1) from nI_add i 1]
        refine ih (i + 1) _ (by omega) (by omega) (f.si rfl) (fun i' x hi' hx' => ?_)
        by_cases e : i' = i
        · subst e
          rw [tw_r1s, f.i (show ¬ 97 = 129 by decide)]
          exact hv i' x hx'
        · rw [tw_r1n _ _ (by omega)]
          exact h i' x (by omega) hx'
  exact main rx_fu 0 σ (Nat.zero_le _) (by show _ < 100000; omega) tw_fr.rf (fun i' x h => absurd h (Nat.not_lt_zero _))
/-- what a reading says: FAULT and place -/
def ta_o (T : List tw_Tk) (n : Nat) (s : ty_Ps) (acc : Option (Nat × Nat)) : Option (Nat × Nat) := if s.1 = 0 then acc else some (ty_Pl T n s.2, s.1)
def ta_SZ (q j : Nat) : Prop := q = 87 ∧ (j = 17 ∨ j = 18 ∨ j = 60 ∨ j = 86 ∨ j = 90 ∨ j = 96) ∨ q = 129
theorem ta_209 {σ : rx_St} (hr : tm_rs T n s σ) (hl : lv ≤ 1) (hg : s.1 = 0 → σ.1 87 19 = nI lv ∧ tm_fd acc σ ∧ σ.1 95 lv = nI U.1.length ∧ U.1.length ≤ 6 ∧ ta_sv lv T U.1 σ) :
    tw_ok (f_m_read_209 σ) (fun y => (∀ m, ta_o T n s acc = some m → y.1 = nI m.2 ∧ y.2.1 87 17 = nI m.1 ∧ tw_fr (fun q j => q = 87 ∧ j = 17) σ y.2) ∧ (ta_o T n s acc = none → s.1 = 0 ∧ acc = none ∧ y.1 = nI 0 ∧ y.2.1 87 17 = -nI 1 ∧ y.2.1 87 18 = nI lv ∧ tw_fr ta_SZ σ y.2 ∧ (y.2.1 87 60 = nI 0 ∧ y.2.1 87 86 = nI 0 ∧ y.2.1 87 90 = nI 0 ∧ y.2.1 87 96 = nI 0) ∧ ∀ (i : Nat) (x : ty_Se), U.1[i]? = some x → y.2.1 129 i = nI (ty_V T x.2))) := by
  have s2 := hr.2.2.2.1
  unfold f_m_read_209
  rw [tw_ifE hr.l]
  by_cases z : s.1 = 0
  · rw [if_pos z]
    obtain ⟨h19, ha, h95, h6, hv⟩ := hg z
    have eo : ta_o T n s acc = acc := if_pos z
    rw [eo]
    cases acc with
    | none =>
      have ha : σ.1 87 15 = nI 0 := ha
      rw [ha, if_pos (show nI 0 ≤ (0 : Int32) by decide)]
      unfold f_m_read_239
      have f1 : tw_fr (fun q j => q = 87 ∧ j = 17) σ (rx_si σ 87 17 (-1 : Int32)) := tw_fr.rf.si ⟨rfl, rfl⟩
      show tw_ok (if (rx_si σ 87 17 (-1 : Int32)).1 87 13 ≤ (0 : Int32) then if (rx_si σ 87 17 (-1 : Int32)).1 87 15 ≤ (0 : Int32) then f_m_read_276 rx_fu (0 : Int32) (rx_si (rx_si σ 87 17 (-1 : Int32)) 87 18 ((rx_si σ 87 17 (-1 : Int32)).1 87 19)) else some ((rx_si σ 87 17 (-1 : Int32)).1 87 15, rx_si σ 87 17 (-1 : Int32)) else some ((rx_si σ 87 17 (-1 : Int32)).1 87 13, rx_si σ 87 17 (-1 : Int32))) _
      rw [f1.i (show ¬ (87 = 87 ∧ 13 = 17) by decide), f1.i (show ¬ (87 = 87 ∧ 15 = 17) by decide), f1.i (show ¬ (87 = 87 ∧ 19 = 17) by decide), tw_ifE hr.l, if_pos z, ha, if_pos (show nI 0 ≤ (0 : Int32) by decide), h19]
      have f2 : tw_fr (fun q j => q = 87 ∧ (j = 17 ∨ j = 18)) σ (rx_si (rx_si σ 87 17 (-1 : Int32)) 87 18 (nI lv)) := (f1.mn (fun q j y => by omega)).si (by omega)
      have e17 : (rx_si (rx_si σ 87 17 (-1 : Int32)) 87 18 (nI lv)).1 87 17 = -nI 1 := by rw [tw_r1n _ _ (by omega), tw_r1s]; rfl
      have e18 : (rx_si (rx_si σ 87 17 (-1 : Int32)) 87 18 (nI lv)).1 87 18 = nI lv := tw_r1s _ _ _ _
      generalize rx_si (rx_si σ 87 17 (-1 : Int32)) 87 18 (nI lv) = σ2 at f2 e17 e18 ⊢
      refine tw_mono (ta_276 (T := T) (ss := U.1) hl e18 ((f2.i (by omega)).trans h95) h6 (hv.fr (fun j y => f2.i (by omega)))) (fun y g => ?_)
      obtain ⟨g1, g2, g3, g4⟩ := g
      refine ⟨fun m hm => (by cases hm), fun _ => ⟨z, rfl, g1, ?_, ?_, ?_, g3, g4⟩⟩
      · exact (g2.i (by omega)).trans e17
      · exact (g2.i (by omega)).trans e18
      · exact (f2.mn (fun q j y => by unfold ta_SZ; omega)).tr (g2.mn (fun q j y => by unfold ta_SZ; omega))
    | some m =>
      obtain ⟨a1, a2, a3, a4, a5⟩ := ha
      have nz : ¬ nI m.2 ≤ (0 : Int32) := by rw [show (0 : Int32) = nI 0 from rfl, tw_le (by omega) (by omega)]; omega
      rw [a1, if_neg nz, a2]
      unfold f_m_read_239
      have f1 : tw_fr (fun q j => q = 87 ∧ j = 17) σ (rx_si σ 87 17 (nI m.1)) := tw_fr.rf.si ⟨rfl, rfl⟩
      show tw_ok (if (rx_si σ 87 17 (nI m.1)).1 87 13 ≤ (0 : Int32) then if (rx_si σ 87 17 (nI m.1)).1 87 15 ≤ (0 : Int32) then f_m_read_276 rx_fu (0 : Int32) (rx_si (rx_si σ 87 17 (nI m.1)) 87 18 ((rx_si σ 87 17 (nI m.1)).1 87 19)) else some ((rx_si σ 87 17 (nI m.1)).1 87 15, rx_si σ 87 17 (nI m.1)) else some ((rx_si σ 87 17 (nI m.1)).1 87 13, rx_si σ 87 17 (nI m.1))) _
      rw [f1.i (show ¬ (87 = 87 ∧ 13 = 17) by decide), f1.i (show ¬ (87 = 87 ∧ 15 = 17) by decide), tw_ifE hr.l, if_pos z, a1, if_neg nz, tw_some]
      refine ⟨fun m' hm => ?_, fun e => by cases e⟩
      cases hm
      exact ⟨rfl, tw_r1s _ _ _ _, f1⟩
  · rw [if_neg z]
    have eo : ta_o T n s acc = some (ty_Pl T n s.2, s.1) := if_neg z
    rw [eo, hr.2.2.1 z]
    unfold f_m_read_239
    have f1 : tw_fr (fun q j => q = 87 ∧ j = 17) σ (rx_si σ 87 17 (nI (ty_Pl T n s.2))) := tw_fr.rf.si ⟨rfl, rfl⟩
    show tw_ok (if (rx_si σ 87 17 (nI (ty_Pl T n s.2))).1 87 13 ≤ (0 : Int32) then if (rx_si σ 87 17 (nI (ty_Pl T n s.2))).1 87 15 ≤ (0 : Int32) then f_m_read_276 rx_fu (0 : Int32) (rx_si (rx_si σ 87 17 (nI (ty_Pl T n s.2))) 87 18 ((rx_si σ 87 17 (nI (ty_Pl T n s.2))).1 87 19)) else some ((rx_si σ 87 17 (nI (ty_Pl T n s.2))).1 87 15, rx_si σ 87 17 (nI (ty_Pl T n s.2))) else some ((rx_si σ 87 17 (nI (ty_Pl T n s.2))).1 87 13, rx_si σ 87 17 (nI (ty_Pl T n s.2)))) _
    rw [f1.i (show ¬ (87 = 87 ∧ 13 = 17) by decide), tw_ifE hr.l, if_neg z, tw_some, hr.1]
    refine ⟨fun m' hm => ?_, fun e => by cases e⟩
    cases hm
    exact ⟨rfl, tw_r1s _ _ _ _, f1⟩
end TBT
