/-! THE MODEL READS: expression -/
section TAZ
variable {X : ta_X} {T : List tw_Tk} {n : Nat}
/-- a sign that waits -/
theorem ta_sign {k12 : Int32 → Int32 → rx_St → Option rx_St} {s : ty_Ps} {d op k : Nat} {sgn : Int32} {ws : List Nat} {C : List tz_Cd} {Q : List ta_Qu} {acc : Option (Nat × Nat)} {o : List ty_Uo} {σ : rx_St} {P : rx_St → Prop} (hs : s.1 = 0) (hK : ty_K T s.2 = k) (hk : 27 ≤ k ∧ k ≤ 30) (hsg : (sgn = (0 : Int32)) = (k ≤ 28)) (h : ta_eo X T n s d op ws C Q acc o σ)
    (kt : ∀ σ', tw_fr (ta_SE X.1) σ σ' → ta_eo X T n (ty_tkn T k s) d op (k :: (ty_dr k ws).1) C Q acc (o ++ (ty_dr k ws).2) σ' → tw_ok (k12 (nI 0) (1 : Int32) σ') P) : tw_ok (f_m_expression_234 k12 (nI 0) (1 : Int32) sgn σ) P := by
  obtain ⟨-, -, -, -, -, w1, -⟩ := h.2.2.2 hs
  unfold f_m_expression_234
  refine tw_b (h.co (sg := k) hsg) (fun σ1 g => ?_)
  obtain ⟨f1, h1⟩ := g
  obtain ⟨g1, g2, g3, g4, g5, g6, g7⟩ := h1.2.2.2 hs
  have wl := ta_len hs h1
  obtain ⟨p1, p2, p3⟩ := h1.2.1.p hs
  obtain ⟨k1, -, -⟩ := h1.1.1.K p2 p3
  rw [p1, g4]
  refine tw_g (vp_in_nI (by omega) (by decide)) (tw_g (vp_in_nI (by omega) (by decide)) ?_)
  rw [nI_clamp (by omega), nI_clamp (by omega), k1, hK]
  have e58 : ∀ v, (rx_si σ1 128 (ty_dr k ws).1.length v).1 87 58 = nI (ty_dr k ws).1.length := fun v => by rw [tw_r1n _ _ (by omega)]; exact g4
  show tw_ok ((f_m_next (rx_si (rx_si σ1 128 (ty_dr k ws).1.length (nI (tw_km k))) 87 58 ((rx_si σ1 128 (ty_dr k ws).1.length (nI (tw_km k))).1 87 58 + (1 : Int32)))).bind fun y2 => k12 (nI 0) (1 : Int32) y2) P
  rw [e58, show nI (ty_dr k ws).1.length + (1 : Int32) = nI ((ty_dr k ws).1.length + 1) from nI_add _ 1]
  have f2 : tw_fr (fun q j => q = 87 ∧ j = 58 ∨ q = 128 ∧ j = (ty_dr k ws).1.length) σ1 (rx_si (rx_si σ1 128 (ty_dr k ws).1.length (nI (tw_km k))) 87 58 (nI ((ty_dr k ws).1.length + 1))) := (tw_fr.rf.si (Or.inr ⟨rfl, rfl⟩)).si (Or.inl ⟨rfl, rfl⟩)
  refine tw_b (tm_next (s := s) k (by omega) (fun _ => hK) (h1.1.1.fr (fun q j a b => ⟨f2.i (by omega), f2.l (by omega)⟩)) (h1.2.1.fr (fun j a => f2.i (by omega)))) (fun σ3 g => ?_)
  obtain ⟨f3, r3⟩ := g
  have e3 : ∀ q j, ¬ (q = 87 ∧ (j = 11 ∨ j = 13 ∨ j = 14 ∨ j = 58) ∨ q = 128 ∧ j = (ty_dr k ws).1.length) → σ3.1 q j = σ1.1 q j := fun q j a => (f3.i (by unfold ta_S1; omega)).trans (f2.i (by omega))
  have fA : tw_fr (ta_SE X.1) σ1 σ3 := (f2.mn (fun q j z => by unfold ta_SE; omega)).tr (f3.mn (ta_S1E X.1))
  refine kt σ3 (f1.tr fA) (ta_mk hs h1 fA r3 (fun q j a => e3 _ _ (by omega)) ?_ ⟨?_, g5.fr _ (fun j hj => e3 _ _ (by omega))⟩ (by rw [List.length_cons]; omega) (fun y => ?_))
  · rw [f3.i (by unfold ta_S1; omega), tw_r1s]; rfl
  · rw [f3.i (by unfold ta_S1; omega), tw_r1n _ _ (by omega), tw_r1s]
  · obtain ⟨-, -, -, y4⟩ := ty_tkn_0 y
    refine ⟨?_, (e3 _ _ (by omega)).trans g3, ty_wf_push w1 hk.1 hk.2, g7⟩
    rw [y4, ty_bin, if_neg (by omega)]
    omega
def ta_po (X : ta_X) (T : List tw_Tk) (n : Nat) (s : ty_Ps) (d : Nat) (C : List tz_Cd) (Q : List ta_Qu) (acc : Option (Nat × Nat)) (o : List ty_Uo) (σ : rx_St) : Prop := ta_pp X T n s d (C ++ o.map (ta_oc T X)) (Q ++ ta_oqs X C.length o) (ty_mn T n acc (o.flatMap (ta_oe T X))) σ
/-- the end of an E -/
theorem ta_end {s : ty_Ps} {d op : Nat} {ws : List Nat} {C : List tz_Cd} {Q : List ta_Qu} {acc : Option (Nat × Nat)} {o : List ty_Uo} {σ : rx_St} (h : ta_eo X T n s d op ws C Q acc o σ) : tw_ok (if (σ.1 87 12) ≤ nI 0 then f_m_expression_204 σ else ((f_m_fail (1 : Int32) σ).bind fun y1 => f_m_expression_204 y1)) (fun σ' => tw_fr (ta_SE X.1) σ σ' ∧ ta_po X T n (if s.1 = 0 ∧ 0 < op then (1, s.2) else s) d C Q acc (o ++ (ty_dr 27 ws).2) σ') := by
  have out : ∀ (s' : ty_Ps) (op' : Nat) (τ : rx_St), ta_eo X T n s' d op' ws C Q acc o τ → tw_fr (ta_SE X.1) σ τ → (s'.1 = 0 → op' = 0) → tw_ok (f_m_expression_204 τ) (fun σ' => tw_fr (ta_SE X.1) σ σ' ∧ ta_po X T n s' d C Q acc (o ++ (ty_dr 27 ws).2) σ') := by
    intro s' op' τ g f ho
    unfold f_m_expression_204
    refine tw_b (g.co (sg := 27) (sgn := (0 : Int32)) (propext ⟨fun _ => by omega, fun _ => rfl⟩)) (fun σ1 k => ?_)
    obtain ⟨k1, k2, k3, ⟨c, q, k4, k5, k6, k7⟩, k8⟩ := k
    rw [tw_some]
    refine ⟨f.tr k1, k2, k3, ⟨c, k4, by omega⟩, fun z => ?_⟩
    obtain ⟨a1, a2, a3, -⟩ := k8 z
    exact ⟨a1, by omega, by rw [a3, ho z]⟩
  by_cases z : s.1 = 0
  · have e12 := (h.2.2.2 z).2.2.1
    have op6 := (h.2.2.2 z).2.2.2.2.2.2
    rw [e12, tw_ifE (tw_le (a := op) (b := 0) (by omega) (by omega))]
    by_cases c : op ≤ 0
    · rw [if_pos c, if_neg (fun y => by omega)]
      exact out s op σ h tw_fr.rf (fun _ => by omega)
    · rw [if_neg c, if_pos ⟨z, by omega⟩]
      refine tw_b (tm_fail (m := (1 : Int32)) 1 rfl (by omega) (by omega) h.1.1 h.2.1) (fun σ1 g => ?_)
      obtain ⟨f1, r1⟩ := g
      rw [if_pos z] at r1
      exact out (1, s.2) op σ1 (h.of1 f1 r1 (fun y => absurd (show 1 = 0 from y) (by decide))) (f1.mn (ta_S1E X.1)) (fun y => absurd (show 1 = 0 from y) (by decide))
  · rw [show (if s.1 = 0 ∧ 0 < op then (1, s.2) else s) = s from if_neg (fun y => z y.1)]
    refine tw_ite (fun _ => out s op σ h tw_fr.rf (fun y => absurd y z)) (fun _ => ?_)
    refine tw_b (tm_fail (m := (1 : Int32)) 1 rfl (by omega) (by omega) h.1.1 h.2.1) (fun σ1 g => ?_)
    obtain ⟨f1, r1⟩ := g
    rw [if_neg z] at r1
    exact out s op σ1 (h.of1 f1 r1 (fun y => absurd y z)) (f1.mn (ta_S1E X.1)) (fun y => absurd y z)
theorem ta_po.bad {s : ty_Ps} {d d' op : Nat} {ws : List Nat} {C C' : List tz_Cd} {Q Q' : List ta_Qu} {acc acc' : Option (Nat × Nat)} {o : List ty_Uo} {σ : rx_St} (h : ta_ee X T n s d' op ws C' Q' acc' σ) (z : ¬ s.1 = 0) : ta_po X T n s d C Q acc o σ := by
  obtain ⟨h1, h2, ⟨c, q, r1, r2, r3, r4⟩, -⟩ := h
  exact ⟨h1, h2, ⟨c, r1, by omega⟩, fun y => absurd y z⟩
theorem ta_loop {d : Nat} {C : List tz_Cd} {Q : List ta_Qu} {acc : Option (Nat × Nat)} {σ0 : rx_St} (hP : ∀ i, ty_Pl T n i ≤ 2000) : ∀ (m i f op : Nat) (ws : List Nat) (s : ty_Ps) (o : List ty_Uo) (σ : rx_St), m + i = 501 → m < f → (s.1 = 0 → 2 * i ≤ s.2) → ta_eo X T n s d op ws C Q acc o σ → tw_fr (ta_SE X.1) σ0 σ →
    tw_ok (f_m_expression_12 f (nI 0) (1 : Int32) σ) (fun σ' => tw_fr (ta_SE X.1) σ0 σ' ∧ ta_po X T n (ty_eL T m s op ws o).1 d C Q acc (ty_eL T m s op ws o).2 σ') := by
  intro m
  induction m with
  | zero =>
    intro i f op ws s o σ hi hm hs h fr
    obtain ⟨f, rfl⟩ : ∃ f', f = f' + 1 := ⟨f - 1, by omega⟩
    have s5 := h.2.1.2.2.2.2.1
    have z : ¬ s.1 = 0 := fun z => by have := hs z; omega
    unfold f_m_expression_12
    rw [if_neg (show ¬ (1 : Int32) = (0 : Int32) by decide), tw_ifE h.2.1.z, if_neg z, tw_some]
    exact ⟨fr, ta_po.bad h z⟩
  | succ m ih =>
    intro i f op ws s o σ hi hm hs h fr
    obtain ⟨f, rfl⟩ : ∃ f', f = f' + 1 := ⟨f - 1, by omega⟩
    have s5 := h.2.1.2.2.2.2.1
    unfold f_m_expression_12
    rw [if_neg (show ¬ (1 : Int32) = (0 : Int32) by decide), tw_ifE h.2.1.z]
    by_cases z : s.1 = 0
    · rw [if_pos z, ty_eL_s z]
      refine ta_opens _ 7 rx_fu op ws s σ (by show 7 < 100000; omega) (fun _ => by omega) h fr (fun σ1 f1 h1 => ?_)
      refine tw_b (ta_unit hP h1) (fun σ2 g => ?_)
      obtain ⟨f2, h2⟩ := g
      -- what the UNIT gave, behind what was
      have h2' : ta_eo X T n (ty_eU T (ty_eO T 7 s op ws).1).1 d (ty_eO T 7 s op ws).2.1 (ty_eO T 7 s op ws).2.2 C Q acc (o ++ (ty_eU T (ty_eO T 7 s op ws).1).2) σ2 := by
        unfold ta_eo
        rw [ta_oqs_app, List.flatMap_append, ty_mn_app, List.map_append, ← List.append_assoc, ← List.append_assoc]
        rw [List.length_append, List.length_map] at h2
        exact h2
      rw [tw_ifE h2'.2.1.l]
      by_cases z2 : (ty_eU T (ty_eO T 7 s op ws).1).1.1 = 0
      · rw [if_pos z2]
        have op6 := (h2'.2.2.2 z2).2.2.2.2.2.2
        refine ta_closes _ 7 rx_fu _ _ _ _ σ2 (by show 7 < 100000; omega) (fun _ => by omega) h2' (f1.tr f2) (fun σ3 f3 h3 => ?_)
        unfold ty_eLc
        generalize hc : ty_eC T 7 (ty_eU T (ty_eO T 7 s op ws).1).1 (ty_eO T 7 s op ws).2.1 (ty_eO T 7 s op ws).2.2 (o ++ (ty_eU T (ty_eO T 7 s op ws).1).2) = c at h3 ⊢
        unfold ty_eLk
        have ht3 := h3.1.1
        have hr3 := h3.2.1
        -- a sign
        have sg : ∀ k, 27 ≤ k → k ≤ 30 → ty_nx T c.1 = k → tw_ok (f_m_expression_181 (f_m_expression_12 f) (nI 0) σ3) (fun σ' => tw_fr (ta_SE X.1) σ0 σ' ∧ ta_po X T n (ty_eL T m (ty_tkn T k c.1) c.2.1 (k :: (ty_dr k c.2.2.1).1) (c.2.2.2 ++ (ty_dr k c.2.2.1).2)).1 d C Q acc (ty_eL T m (ty_tkn T k c.1) c.2.1 (k :: (ty_dr k c.2.2.1).1) (c.2.2.2 ++ (ty_dr k c.2.2.1).2)).2 σ') := by
          intro k k1 k2 e
          have gz := ty_nx_0 (T := T) (s := c.1) (by omega)
          have go : ∀ σ4, tw_fr (ta_SE X.1) σ3 σ4 → ta_eo X T n (ty_tkn T k c.1) d c.2.1 (k :: (ty_dr k c.2.2.1).1) C Q acc (c.2.2.2 ++ (ty_dr k c.2.2.1).2) σ4 → tw_ok (f_m_expression_12 f (nI 0) (1 : Int32) σ4) (fun σ' => tw_fr (ta_SE X.1) σ0 σ' ∧ ta_po X T n (ty_eL T m (ty_tkn T k c.1) c.2.1 (k :: (ty_dr k c.2.2.1).1) (c.2.2.2 ++ (ty_dr k c.2.2.1).2)).1 d C Q acc (ty_eL T m (ty_tkn T k c.1) c.2.1 (k :: (ty_dr k c.2.2.1).1) (c.2.2.2 ++ (ty_dr k c.2.2.1).2)).2 σ') := fun σ4 f4 h4 => by
            refine ih (i + 1) f c.2.1 _ _ _ σ4 (by omega) (by omega) (fun y => ?_) h4 (f3.tr f4)
            obtain ⟨y1, y2⟩ := ty_tkn_m y
            rw [← hc] at y1 y2
            obtain ⟨y3, y4⟩ := ty_eC_m 7 _ _ _ _ y1
            obtain ⟨y5, y6⟩ := ty_eU_m y3
            obtain ⟨-, y8⟩ := ty_eO_m 7 _ _ _ y5
            have := hs z
            rw [hc] at y2 y4
            omega
          unfold f_m_expression_181 f_m_expression_186
          rw [if_neg (show ¬ (1 : Int32) = (0 : Int32) by decide), tm_is (m := (10 : Int32)) 29 rfl (by omega) ht3 hr3, Option.bind_some, tm_ifz]
          have strong : 29 ≤ k → tw_ok (f_m_expression_229 (f_m_expression_12 f) (nI 0) (1 : Int32) σ3) (fun σ' => tw_fr (ta_SE X.1) σ0 σ' ∧ ta_po X T n (ty_eL T m (ty_tkn T k c.1) c.2.1 (k :: (ty_dr k c.2.2.1).1) (c.2.2.2 ++ (ty_dr k c.2.2.1).2)).1 d C Q acc (ty_eL T m (ty_tkn T k c.1) c.2.1 (k :: (ty_dr k c.2.2.1).1) (c.2.2.2 ++ (ty_dr k c.2.2.1).2)).2 σ') := fun k29 => by
            unfold f_m_expression_229
            exact ta_sign gz.1 (by rw [← gz.2]; exact e) ⟨k1, k2⟩ (propext ⟨fun y => absurd y (by decide), fun y => by omega⟩) h3 go
          by_cases e29 : ty_nx T c.1 = 29
          · rw [if_pos e29]; exact strong (by omega)
          rw [if_neg e29, tm_is (m := (15 : Int32)) 30 rfl (by omega) ht3 hr3, Option.bind_some, tm_ifz]
          by_cases e30 : ty_nx T c.1 = 30
          · rw [if_pos e30]; exact strong (by omega)
          rw [if_neg e30]
          exact ta_sign gz.1 (by rw [← gz.2]; exact e) ⟨k1, k2⟩ (propext ⟨fun _ => by omega, fun _ => rfl⟩) h3 go
        unfold f_m_expression_145
        rw [tm_is (m := (8 : Int32)) 27 rfl (by omega) ht3 hr3, Option.bind_some, tm_ifz]
        by_cases e27 : ty_nx T c.1 = 27
        · rw [if_pos e27, if_pos (by omega), e27]; exact sg 27 (by omega) (by omega) e27
        rw [if_neg e27, tm_is (m := (9 : Int32)) 28 rfl (by omega) ht3 hr3, Option.bind_some, tm_ifz]
        by_cases e28 : ty_nx T c.1 = 28
        · rw [if_pos e28, if_pos (by omega), e28]; exact sg 28 (by omega) (by omega) e28
        rw [if_neg e28, tm_is (m := (10 : Int32)) 29 rfl (by omega) ht3 hr3, Option.bind_some, tm_ifz]
        by_cases e29 : ty_nx T c.1 = 29
        · rw [if_pos e29, if_pos (by omega), e29]; exact sg 29 (by omega) (by omega) e29
        rw [if_neg e29, tm_is (m := (15 : Int32)) 30 rfl (by omega) ht3 hr3, Option.bind_some, tm_ifz]
        by_cases e30 : ty_nx T c.1 = 30
        · rw [if_pos e30, if_pos (by omega), e30]; exact sg 30 (by omega) (by omega) e30
        rw [if_neg e30, if_neg (by omega)]
        unfold f_m_expression_186
        rw [if_pos rfl]
        exact tw_mono (ta_end h3) (fun σ' g => ⟨f3.tr g.1, g.2⟩)
      · rw [if_neg z2, tw_some]
        refine ⟨f1.tr f2, ?_⟩
        have ec : ty_eLc T s op ws o = ((ty_eU T (ty_eO T 7 s op ws).1).1, (ty_eO T 7 s op ws).2.1, (ty_eO T 7 s op ws).2.2, o ++ (ty_eU T (ty_eO T 7 s op ws).1).2) := by
          unfold ty_eLc ty_eC
          rw [if_neg (fun y => by have := ty_nx_f (T := T) z2; omega)]
        rw [ec]
        unfold ty_eLk
        rw [if_neg (fun y => by have e38 : ty_nx T ((ty_eU T (ty_eO T 7 s op ws).1).1, (ty_eO T 7 s op ws).2.1, (ty_eO T 7 s op ws).2.2, o ++ (ty_eU T (ty_eO T 7 s op ws).1).2).1 = 38 := ty_nx_f (T := T) z2; omega), if_neg (fun y => z2 y.1)]
        exact ta_po.bad h2' z2
    · rw [if_neg z, tw_some, ty_eL_f z]
      exact ⟨fr, ta_po.bad h z⟩
/-- an E -/
theorem ta_E {s : ty_Ps} {d : Nat} {C : List tz_Cd} {Q : List ta_Qu} {acc : Option (Nat × Nat)} {σ : rx_St} (hP : ∀ i, ty_Pl T n i ≤ 2000) (h : ta_pp X T n s d C Q acc σ) : tw_ok (f_m_expression σ) (fun σ' => tw_fr (ta_SE X.1) σ σ' ∧ ta_po X T n (ty_E1 T s).1 d C Q acc (ty_E1 T s).2 σ') := by
  obtain ⟨h1, h2, ⟨c, r1, r2⟩, h4⟩ := h
  unfold f_m_expression ty_E1
  have f0 : tw_fr (fun q j => q = 87 ∧ j = 58) σ (rx_si σ 87 58 (0 : Int32)) := tw_fr.rf.si ⟨rfl, rfl⟩
  have fE : tw_fr (ta_SE X.1) σ (rx_si σ 87 58 (0 : Int32)) := f0.mn (fun q j z => by unfold ta_SE; omega)
  by_cases z : s.1 = 0
  · obtain ⟨g1, g2, g3⟩ := h4 z
    have e12 : (rx_si σ 87 58 (0 : Int32)).1 87 12 = nI 0 := (f0.i (by omega)).trans g3
    show tw_ok (f_m_expression_12 rx_fu ((rx_si σ 87 58 (0 : Int32)).1 87 12) (1 : Int32) (rx_si σ 87 58 (0 : Int32))) _
    rw [e12]
    refine ta_loop hP 501 0 rx_fu 0 [] s [] _ (by omega) (by show _ < 100000; omega) (fun _ => by omega) ?_ fE
    refine ⟨h1.fr fE, h2.fr (fun j a => f0.i (by omega)), ⟨c, 0, (f0.i (by omega)).trans r1, tw_r1s _ _ _ _, by omega, by omega⟩, fun _ => ⟨?_, ?_, e12, tw_r1s _ _ _ _, trivial, rfl, by omega⟩⟩
    · show ta_gd X.1 T n (C ++ []) (Q ++ []) acc _
      rw [List.append_nil, List.append_nil]
      exact g1.fr (fun q j a => f0.i (by omega))
    · show (C ++ []).length + (Q ++ []).length + d + 0 ≤ s.2
      rw [List.append_nil, List.append_nil]
      omega
  · rw [ty_eL_f z]
    show tw_ok (f_m_expression_12 rx_fu ((rx_si σ 87 58 (0 : Int32)).1 87 12) (1 : Int32) (rx_si σ 87 58 (0 : Int32))) _
    rw [show rx_fu = 99999 + 1 from rfl]
    unfold f_m_expression_12
    rw [if_neg (show ¬ (1 : Int32) = (0 : Int32) by decide), tw_ifE (h2.fr (σ' := rx_si σ 87 58 (0 : Int32)) (fun j a => f0.i (by omega))).z, if_neg z, tw_some]
    exact ⟨fE, h1.fr fE, h2.fr (fun j a => f0.i (by omega)), ⟨c, (f0.i (by omega)).trans r1, r2⟩, fun y => absurd y z⟩
end TAZ
