/-! THE MODEL READS: a UNIT, whole -/
section TAV
variable {X : ta_X} {T : List tw_Tk} {n : Nat}
theorem ta_ee.sel {s : ty_Ps} {d d' op : Nat} {ws : List Nat} {C : List tz_Cd} {Q : List ta_Qu} {acc : Option (Nat × Nat)} {σ : rx_St} (h : ta_ee X T n s d op ws C Q acc σ) (hd : d' ≤ d) : ta_ee X T n s d' op ws C Q acc σ :=
  ⟨h.1, h.2.1, h.2.2.1, fun z => by
    obtain ⟨g1, g2, g3⟩ := h.2.2.2 z
    exact ⟨g1, by omega, g3⟩⟩
theorem ta_ee.bad {s : ty_Ps} {d d' op op' : Nat} {ws ws' : List Nat} {C C' : List tz_Cd} {Q Q' : List ta_Qu} {acc acc' : Option (Nat × Nat)} {σ : rx_St} (h : ta_ee X T n s d op ws C Q acc σ) (hs : ¬ s.1 = 0) : ta_ee X T n s d' op' ws' C' Q' acc' σ := ⟨h.1, h.2.1, h.2.2.1, fun z => absurd z hs⟩
/-- a sign alone: number, tick, here, place, a NAME -/
theorem ta_leaf {s : ty_Ps} {d op : Nat} {ws : List Nat} {C : List tz_Cd} {Q : List ta_Qu} {acc : Option (Nat × Nat)} {σ0 σ : rx_St} {m b : Int32} (k kk : Nat) (hm : m = nI kk) (hk : k ≠ 37) (hs : s.1 = 0) (hK : ty_K T s.2 = k) (f0 : tw_fr (ta_SE X.1) σ0 σ) (h : ta_ee X T n s d op ws C Q acc σ) : tw_ok ((f_m_emit m b σ).bind fun y1 => (f_m_next y1).bind fun y2 => some y2) (fun σ' => tw_fr (ta_SE X.1) σ0 σ' ∧ ta_ee X T n (ty_tkn T k s) d op ws (C ++ [(kk, b, nI 0)]) Q acc σ') := by
  obtain ⟨h1, h2, ⟨c, q, r1, r2, r3, r4⟩, h4⟩ := id h
  obtain ⟨g1, g2, g3, g4, g5, g6, g7⟩ := h4 hs
  have s5 := h2.2.2.2.2.1
  have x1 := h1.2.1.2
  have ln := ty_wf_len _ _ g6
  have t2 := ty_tp2 ws
  refine tw_b (g1.em (m := m) kk b hm x1 (by omega)) (fun σ1 g => ?_)
  obtain ⟨k1, k2⟩ := g
  have fE : tw_fr (ta_SE X.1) σ σ1 := k1.mn (fun q j z => by unfold ta_SE; omega)
  have ht1 : tm_tk T n σ1 := (h1.fr fE).1
  have hr1 : tm_rs T n s σ1 := h2.fr (fun j a => k1.i (by omega))
  refine tw_b (tm_next k hk (fun _ => hK) ht1 hr1) (fun σ2 g => ?_)
  obtain ⟨f2, r⟩ := g
  rw [tw_some]
  have f3 := fE.tr (f2.mn (ta_S1E X.1))
  have e2 : ∀ q j, ¬ (q = 87 ∧ (j = 11 ∨ j = 13 ∨ j = 14)) → σ2.1 q j = σ1.1 q j := fun q j a => f2.i (by unfold ta_S1; exact a)
  have k46 : σ2.1 87 46 = nI (700 * X.1 + (C.length + 1)) := by
    have := k2.1.1
    rw [List.length_append] at this
    exact (e2 _ _ (by omega)).trans this
  refine ⟨f0.tr f3, h1.fr f3, r, ⟨C.length + 1, ws.length, k46, ((e2 _ _ (by omega)).trans (k1.i (by omega))).trans g4, by omega, by omega⟩, fun y => ?_⟩
  obtain ⟨-, -, -, y4⟩ := ty_tkn_0 y
  refine ⟨k2.fr (fun q j a => e2 _ _ (by omega)), ?_, ((e2 _ _ (by omega)).trans (k1.i (by omega))).trans g3, ((e2 _ _ (by omega)).trans (k1.i (by omega))).trans g4, g5.fr ws (fun j _ => (e2 _ _ (by omega)).trans (k1.i (by omega))), g6, g7⟩
  rw [List.length_append, y4]
  show C.length + 1 + Q.length + d + ty_bin ws ≤ s.2 + 1
  omega
/-- what a UNIT does -/
def ta_ui (X : ta_X) (T : List tw_Tk) (n : Nat) (s : ty_Ps) (d op : Nat) (ws : List Nat) (C : List tz_Cd) (Q : List ta_Qu) (acc : Option (Nat × Nat)) (u : ty_Ps × List ty_Uo) (σ σ' : rx_St) : Prop := tw_fr (ta_SE X.1) σ σ' ∧ ta_ee X T n u.1 d op ws (C ++ u.2.map (ta_oc T X)) (Q ++ ta_oqs X C.length u.2) (ty_mn T n acc (u.2.flatMap (ta_oe T X))) σ'
theorem ta_oc_s {T : List tw_Tk} {x : ty_Uo} (h : x.1 ≠ 0 ∧ x.1 ≠ 1 ∧ x.1 ≠ 6) : ta_oc T X x = (x.1, nI 0, nI 0) := by
  unfold ta_oc; rw [if_neg h.1, if_neg h.2.1, if_neg h.2.2]
theorem ta_oe_s {T : List tw_Tk} {x : ty_Uo} (h : x.1 ≠ 1 ∧ x.1 ≠ 6) : ta_oe T X x = [] := by
  unfold ta_oe; rw [if_neg h.1, if_neg h.2]
theorem ta_oq_s {p : Nat} {x : ty_Uo} (h : x.1 ≠ 7 ∧ x.1 ≠ 8) : ta_oq X p x = [] := by
  unfold ta_oq; rw [if_neg h.1, if_neg h.2]
theorem ta_unit326 {s : ty_Ps} {d op : Nat} {ws : List Nat} {C : List tz_Cd} {Q : List ta_Qu} {acc : Option (Nat × Nat)} {σ : rx_St} (sm : Bool) (hs : s.1 = 0) (hk : ty_nx T s = if sm = true then 21 else 22) (h : ta_ee X T n s d op ws C Q acc σ) : tw_ok (f_m_unit_326 σ) (ta_ui X T n s d op ws C Q acc (if sm = true then (ty_tkn T 23 (ty_tkn T 23 (ty_tkn T 21 s)), [(7, (ty_tkn T 21 s).2, (ty_tkn T 23 (ty_tkn T 21 s)).2)]) else (ty_tkn T 23 (ty_tkn T 22 s), [(8, (ty_tkn T 22 s).2, 0)])) σ) := by
  have hK : ty_K T s.2 = if sm = true then 21 else 22 := by unfold ty_nx at hk; rw [if_pos hs] at hk; exact hk
  -- the end, by the state behind the NAMES
  have fin : ∀ (s' s2 s3 : ty_Ps) (τ : rx_St) (e : Int32) (v4 v5 : Nat), tw_fr (ta_SE X.1) σ τ → ta_ee X T n s' (d + 2) op ws C Q acc τ → (s'.1 = 0 → e = nI v5) → tw_ok (f_m_unit_363 (if sm = true then (1 : Int32) else (0 : Int32)) (nI v4) e τ) (fun σ' => tw_fr (ta_SE X.1) σ σ' ∧ ta_ee X T n s' d op ws (C ++ [((if sm = true then 7 else 8), nI 0, nI 0)]) (Q ++ [((if sm = true then 0 else 1), 700 * X.1 + C.length, X.2.1, v4, (if sm = true then v5 else 0))]) acc σ') := by
    intro s' s2 s3 τ e v4 v5 f g he
    unfold f_m_unit_363
    rw [tw_ifE g.2.1.l]
    by_cases z : s'.1 = 0
    · rw [if_pos z]
      have k46 : τ.1 87 46 = nI (700 * X.1 + C.length) := (g.2.2.2 z).1.1.1
      cases sm with
      | true =>
        rw [if_pos rfl, if_neg (show ¬ (1 : Int32) = (0 : Int32) by decide)]
        unfold f_m_unit_381
        rw [k46]
        refine tw_b (g.as (m := (0 : Int32)) (e := e) 0 (700 * X.1 + C.length) v4 v5 rfl (fun _ => he z) z) (fun σ1 k => ?_)
        obtain ⟨k1, k2⟩ := k
        rw [if_neg (show ¬ (1 : Int32) = (0 : Int32) by decide)]
        unfold f_m_unit_404
        refine tw_b (k2.em (m := (7 : Int32)) 7 (0 : Int32) rfl z) (fun σ2 k => ?_)
        rw [tw_some]
        exact ⟨(f.tr k1).tr k.1, k.2⟩
      | false =>
        rw [show (if false = true then (1 : Int32) else (0 : Int32)) = (0 : Int32) from rfl, if_pos rfl]
        unfold f_m_unit_381
        rw [k46]
        refine tw_b (g.as (m := (1 : Int32)) (e := e) 1 (700 * X.1 + C.length) v4 0 rfl (fun y => absurd rfl y) z) (fun σ1 k => ?_)
        obtain ⟨k1, k2⟩ := k
        rw [if_pos rfl]
        unfold f_m_unit_404
        refine tw_b (k2.em (m := (8 : Int32)) 8 (0 : Int32) rfl z) (fun σ2 k => ?_)
        rw [tw_some]
        exact ⟨(f.tr k1).tr k.1, k.2⟩
    · rw [if_neg z, tw_some]
      exact ⟨f, g.bad z⟩
  unfold f_m_unit_326
  rw [tm_is (m := (41 : Int32)) 21 rfl (by omega) h.1.1 h.2.1, Option.bind_some]
  have hi : (if ty_nx T s = 21 then (1 : Int32) else (0 : Int32)) = (if sm = true then (1 : Int32) else (0 : Int32)) := by
    rw [hk]
    cases sm <;> rfl
  rw [hi]
  refine tw_b (h.nx (if sm = true then 21 else 22) (by cases sm <;> decide) (fun _ => hK)) (fun σ1 g => ?_)
  obtain ⟨f1, g1⟩ := g
  refine tw_b (g1.mu (m := (1 : Int32)) 23 rfl (by omega)) (fun σ2 g => ?_)
  obtain ⟨f2, g2⟩ := g
  obtain ⟨q1, qb1, q11, q12⟩ := g1.2.1.2.1
  obtain ⟨q2, qb2, q21, q22⟩ := g2.2.1.2.1
  have f12 : tw_fr (ta_SE X.1) σ σ2 := (f1.mn (ta_S1E X.1)).tr (f2.mn (ta_S1E X.1))
  cases sm with
  | true =>
    rw [if_pos rfl, if_neg (show ¬ (1 : Int32) = (0 : Int32) by decide)]
    refine tw_b (g2.mu (m := (1 : Int32)) 23 rfl (by omega)) (fun σ3 g => ?_)
    obtain ⟨f3, g3⟩ := g
    have := fin _ s s σ3 (nI q2) q1 q2 (f12.tr (f3.mn (ta_S1E X.1))) (g3.sel (by omega)) (fun _ => rfl)
    rw [if_pos rfl] at this
    rw [q11, q21]
    refine tw_mono this (fun σ' g => ?_)
    obtain ⟨k1, k2⟩ := g
    refine ⟨k1, ?_⟩
    by_cases z : (ty_tkn T 23 (ty_tkn T 23 (ty_tkn T 21 s))).1 = 0
    · have z2 := (ty_tkn_0 z).1
      have z1 := (ty_tkn_0 z2).1
      have e1 : q1 = (ty_tkn T 21 s).2 := q12 z1
      have e2 : q2 = (ty_tkn T 23 (ty_tkn T 21 s)).2 := q22 z2
      rw [e1, e2] at k2
      show ta_ee X T n (ty_tkn T 23 (ty_tkn T 23 (ty_tkn T 21 s))) d op ws (C ++ [ta_oc T X (7, (ty_tkn T 21 s).2, (ty_tkn T 23 (ty_tkn T 21 s)).2)]) (Q ++ (ta_oq X C.length (7, (ty_tkn T 21 s).2, (ty_tkn T 23 (ty_tkn T 21 s)).2) ++ [])) (ty_mn T n acc (ta_oe T X (7, (ty_tkn T 21 s).2, (ty_tkn T 23 (ty_tkn T 21 s)).2) ++ [])) σ'
      rw [ta_oc_s (show 7 ≠ 0 ∧ 7 ≠ 1 ∧ 7 ≠ 6 by decide), ta_oe_s (show 7 ≠ 1 ∧ 7 ≠ 6 by decide)]
      exact k2
    · exact k2.bad z
  | false =>
    rw [show (if false = true then (1 : Int32) else (0 : Int32)) = (0 : Int32) from rfl, if_pos rfl]
    have := fin _ s s σ2 (σ2.1 87 11) q1 q2 f12 g2 (fun _ => q21)
    rw [if_neg (show ¬ false = true by decide)] at this
    rw [q11]
    refine tw_mono this (fun σ' g => ?_)
    obtain ⟨k1, k2⟩ := g
    refine ⟨k1, ?_⟩
    by_cases z : (ty_tkn T 23 (ty_tkn T 22 s)).1 = 0
    · have z1 := (ty_tkn_0 z).1
      have e1 : q1 = (ty_tkn T 22 s).2 := q12 z1
      rw [e1] at k2
      show ta_ee X T n (ty_tkn T 23 (ty_tkn T 22 s)) d op ws (C ++ [ta_oc T X (8, (ty_tkn T 22 s).2, 0)]) (Q ++ (ta_oq X C.length (8, (ty_tkn T 22 s).2, 0) ++ [])) (ty_mn T n acc (ta_oe T X (8, (ty_tkn T 22 s).2, 0) ++ [])) σ'
      rw [ta_oc_s (show 8 ≠ 0 ∧ 8 ≠ 1 ∧ 8 ≠ 6 by decide), ta_oe_s (show 8 ≠ 1 ∧ 8 ≠ 6 by decide)]
      exact k2
    · exact k2.bad z
end TAV
