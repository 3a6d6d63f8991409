/-! THE MODEL READS: an E, whole -/
section TAY
variable {X : ta_X} {T : List tw_Tk} {n : Nat}
theorem ta_mk {s s' : ty_Ps} {d d' op op' : Nat} {ws ws' : List Nat} {C : List tz_Cd} {Q : List ta_Qu} {acc : Option (Nat × Nat)} {σ σ' : rx_St} (hs : s.1 = 0) (h : ta_ee X T n s d op ws C Q acc σ) (fE : tw_fr (ta_SE X.1) σ σ') (r : tm_rs T n s' σ') (e : ∀ q j, q = 87 ∧ (j = 15 ∨ j = 16 ∨ j = 46 ∨ j = 50) ∨ 120 ≤ q ∧ q ≤ 127 → σ'.1 q j = σ.1 q j) (e58 : σ'.1 87 58 = nI ws'.length) (wt : ta_wt σ' ws') (hl : ws'.length ≤ 30) (z : s'.1 = 0 → s.2 + d' + ty_bin ws' ≤ s'.2 + d + ty_bin ws ∧ σ'.1 87 12 = nI op' ∧ ty_wf ws' op' ∧ op' ≤ 6) : ta_ee X T n s' d' op' ws' C Q acc σ' := by
  obtain ⟨h1, h2, -, h4⟩ := h
  obtain ⟨g1, g2, g3, g4, g5, g6, g7⟩ := h4 hs
  have s5 := h2.2.2.2.2.1
  refine ⟨h1.fr fE, r, ⟨C.length, ws'.length, (e _ _ (by omega)).trans g1.1.1, e58, by omega, hl⟩, fun y => ?_⟩
  obtain ⟨z1, z2, z3, z4⟩ := z y
  exact ⟨g1.fr (fun q j a => e q j a), by omega, z2, e58, wt, z3, z4⟩
theorem ta_len {s : ty_Ps} {d op : Nat} {ws : List Nat} {C : List tz_Cd} {Q : List ta_Qu} {acc : Option (Nat × Nat)} {σ : rx_St} (hs : s.1 = 0) (h : ta_ee X T n s d op ws C Q acc σ) : ws.length ≤ 20 := by
  obtain ⟨-, -, -, -, -, g6, g7⟩ := h.2.2.2 hs
  have ln := ty_wf_len _ _ g6
  have t2 := ty_tp2 ws
  omega
/-- a bracket more -/
theorem ta_open {k12 : Int32 → Int32 → rx_St → Option rx_St} {k23 : Int32 → rx_St → Option rx_St} {s : ty_Ps} {d op : Nat} {ws : List Nat} {C : List tz_Cd} {Q : List ta_Qu} {acc : Option (Nat × Nat)} {σ : rx_St} {v1 : Int32} {P : rx_St → Prop} (hs : s.1 = 0) (hK : ty_K T s.2 = 35) (h : ta_ee X T n s d op ws C Q acc σ)
    (k : ∀ σ', tw_fr (ta_SE X.1) σ σ' → ta_ee X T n (ty_tkn T 35 (ty_room op 6 s)) d (op + 1) (35 :: ws) C Q acc σ' → tw_ok (k23 v1 σ') P) : tw_ok (if (σ.1 87 12) = (6 : Int32) then ((f_m_fail (2 : Int32) σ).bind fun y3 => f_m_expression_46 k12 k23 v1 y3) else f_m_expression_46 k12 k23 v1 σ) P := by
  obtain ⟨g1, g2, g3, g4, g5, g6, g7⟩ := h.2.2.2 hs
  have wl := ta_len hs h
  refine tm_room (F := f_m_expression_46 k12 k23 v1) op 6 (fun _ => ?_) h.1.1 h.2.1 (fun σ1 f1 r1 => ?_)
  · rw [g3, show (nI op = (6 : Int32)) = (op = 6) from tw_eq (b := 6) (by omega) (by omega)]
    omega
  have e1 : ∀ q j, ¬ (q = 87 ∧ (j = 11 ∨ j = 13 ∨ j = 14)) → σ1.1 q j = σ.1 q j := fun q j a => f1.i (by unfold ta_S1; exact a)
  unfold f_m_expression_46
  have e12 : σ1.1 87 12 = nI op := (e1 _ _ (by omega)).trans g3
  rw [e12]
  have f2 : tw_fr (fun q j => q = 87 ∧ j = 12) σ1 (rx_si σ1 87 12 (nI op + (1 : Int32))) := tw_fr.rf.si ⟨rfl, rfl⟩
  have t1 : tm_tk T n σ1 := h.1.1.fr (fun q j a b => ⟨e1 _ _ (by omega), f1.l (by unfold ta_S1; omega)⟩)
  refine tw_b (tm_next (s := ty_room op 6 s) 35 (by omega) (fun z => ?_) (t1.fr (fun q j a b => ⟨f2.i (by omega), f2.l (by omega)⟩)) (r1.fr (fun j a => f2.i (by omega)))) (fun σ3 g => ?_)
  · obtain ⟨-, -, e⟩ := ty_room_0 z
    rw [e]; exact hK
  obtain ⟨f3, r3⟩ := g
  have e3 : ∀ q j, ¬ (q = 87 ∧ (j = 11 ∨ j = 12 ∨ j = 13 ∨ j = 14)) → σ3.1 q j = σ.1 q j := fun q j a => ((f3.i (by unfold ta_S1; omega)).trans (f2.i (by omega))).trans (e1 _ _ (by omega))
  have e58 : σ3.1 87 58 = nI ws.length := (e3 _ _ (by omega)).trans g4
  rw [e58]
  refine tw_g (vp_in_nI (by omega) (by decide)) ?_
  rw [nI_clamp (by omega)]
  have e58' : (rx_si σ3 128 ws.length (6 : Int32)).1 87 58 = nI ws.length := by rw [tw_r1n _ _ (by omega)]; exact e58
  show tw_ok (k23 v1 (rx_si (rx_si σ3 128 ws.length (6 : Int32)) 87 58 ((rx_si σ3 128 ws.length (6 : Int32)).1 87 58 + (1 : Int32)))) P
  rw [e58', show nI ws.length + (1 : Int32) = nI (ws.length + 1) from nI_add _ 1]
  have fA : tw_fr (ta_SE X.1) σ (rx_si (rx_si σ3 128 ws.length (6 : Int32)) 87 58 (nI (ws.length + 1))) := (((((f1.mn (ta_S1E X.1)).tr (f2.mn (fun q j z => by unfold ta_SE; omega))).tr (f3.mn (ta_S1E X.1))).si (by unfold ta_SE; omega)).si (by unfold ta_SE; omega))
  refine k _ fA (ta_mk hs h fA (r3.fr (fun j a => ?_)) (fun q j a => ?_) ?_ ⟨?_, g5.fr ws (fun j hj => ?_)⟩ ?_ (fun z => ?_))
  · rw [tw_r1n _ _ (by omega), tw_r1n _ _ (by omega)]
  · rw [tw_r1n _ _ (by omega), tw_r1n _ _ (by omega)]; exact e3 _ _ (by omega)
  · rw [tw_r1s]; rfl
  · rw [tw_r1n _ _ (by omega), tw_r1s]; rfl
  · rw [tw_r1n _ _ (by omega), tw_r1n _ _ (by omega)]; exact e3 _ _ (by omega)
  · rw [List.length_cons]; omega
  · obtain ⟨z1, -, -, z4⟩ := ty_tkn_0 z
    obtain ⟨-, z6, z7⟩ := ty_room_0 z1
    rw [z7] at z4
    refine ⟨?_, ?_, Or.inl ⟨rfl, by omega, g6⟩, by omega⟩
    · rw [z7, z4]
      show s.2 + d + (0 + ty_bin ws) ≤ _
      omega
    · rw [tw_r1n _ _ (by omega), tw_r1n _ _ (by omega), f3.i (by unfold ta_S1; omega), tw_r1s]
      exact nI_add op 1
theorem ta_opens {k12 : Int32 → Int32 → rx_St → Option rx_St} {d : Nat} {C : List tz_Cd} {Q : List ta_Qu} {acc : Option (Nat × Nat)} {σ0 : rx_St} {v1 : Int32} (P : rx_St → Prop) : ∀ (j m op : Nat) (ws : List Nat) (s : ty_Ps) (σ : rx_St), j < m → (s.1 = 0 → 7 ≤ op + j) → ta_ee X T n s d op ws C Q acc σ → tw_fr (ta_SE X.1) σ0 σ →
    (∀ σ', tw_fr (ta_SE X.1) σ0 σ' → ta_ee X T n (ty_eO T j s op ws).1 d (ty_eO T j s op ws).2.1 (ty_eO T j s op ws).2.2 C Q acc σ' → tw_ok ((f_m_unit σ').bind fun y2 => if (y2.1 87 13) ≤ (0 : Int32) then f_m_expression_96 k12 rx_fu v1 y2 else some y2) P) →
    tw_ok (f_m_expression_23 k12 m v1 σ) P := by
  intro j
  induction j with
  | zero =>
    intro m op ws s σ hm hj h f hQ
    obtain ⟨m, rfl⟩ : ∃ m', m = m' + 1 := ⟨m - 1, by omega⟩
    have z : ¬ s.1 = 0 := fun z => by
      have := hj z
      have := (h.2.2.2 z).2.2.2.2.2.2
      omega
    unfold f_m_expression_23
    rw [tm_is (m := (6 : Int32)) 35 rfl (by omega) h.1.1 h.2.1, Option.bind_some, tm_ifz, if_neg (by rw [ty_nx_f z]; omega)]
    exact hQ σ f h
  | succ j ih =>
    intro m op ws s σ hm hj h f hQ
    obtain ⟨m, rfl⟩ : ∃ m', m = m' + 1 := ⟨m - 1, by omega⟩
    unfold f_m_expression_23
    rw [tm_is (m := (6 : Int32)) 35 rfl (by omega) h.1.1 h.2.1, Option.bind_some, tm_ifz]
    unfold ty_eO at hQ
    by_cases c : ty_nx T s = 35
    · rw [if_pos c]
      rw [if_pos c] at hQ
      have z := ty_nx_0 (T := T) (s := s) (by omega)
      refine ta_open z.1 (by rw [← z.2]; exact c) h (fun σ' f' h' => ?_)
      exact ih m (op + 1) (35 :: ws) _ σ' (by omega) (fun _ => by have := hj z.1; omega) h' (f.tr f') hQ
    · rw [if_neg c]
      rw [if_neg c] at hQ
      exact hQ σ f h
/-- brackets that close -/
theorem ta_closes {k12 : Int32 → Int32 → rx_St → Option rx_St} {d : Nat} {C : List tz_Cd} {Q : List ta_Qu} {acc : Option (Nat × Nat)} {σ0 : rx_St} (P : rx_St → Prop) : ∀ (j m op : Nat) (ws : List Nat) (s : ty_Ps) (o : List ty_Uo) (σ : rx_St), j < m → (s.1 = 0 → op ≤ j) → ta_eo X T n s d op ws C Q acc o σ → tw_fr (ta_SE X.1) σ0 σ →
    (∀ σ', tw_fr (ta_SE X.1) σ0 σ' → ta_eo X T n (ty_eC T j s op ws o).1 d (ty_eC T j s op ws o).2.1 (ty_eC T j s op ws o).2.2.1 C Q acc (ty_eC T j s op ws o).2.2.2 σ' → tw_ok (f_m_expression_145 k12 (nI 0) σ') P) →
    tw_ok (f_m_expression_96 k12 m (nI 0) σ) P := by
  intro j
  induction j with
  | zero =>
    intro m op ws s o σ hm hj h f hQ
    obtain ⟨m, rfl⟩ : ∃ m', m = m' + 1 := ⟨m - 1, by omega⟩
    unfold f_m_expression_96
    rw [tm_is (m := (7 : Int32)) 36 rfl (by omega) h.1.1 h.2.1, Option.bind_some, tm_ifz]
    by_cases c : ty_nx T s = 36
    · have z := ty_nx_0 (T := T) (s := s) (by omega)
      have o0 : op = 0 := by have := hj z.1; omega
      have e12 := (h.2.2.2 z.1).2.2.1
      rw [if_pos c, e12, o0, if_pos (show nI 0 ≤ nI 0 by decide)]
      exact hQ σ f h
    · rw [if_neg c]
      exact hQ σ f h
  | succ j ih =>
    intro m op ws s o σ hm hj h f hQ
    obtain ⟨m, rfl⟩ : ∃ m', m = m' + 1 := ⟨m - 1, by omega⟩
    unfold f_m_expression_96
    rw [tm_is (m := (7 : Int32)) 36 rfl (by omega) h.1.1 h.2.1, Option.bind_some, tm_ifz]
    unfold ty_eC at hQ
    by_cases c : ty_nx T s = 36
    · have z := ty_nx_0 (T := T) (s := s) (by omega)
      have hs := z.1
      obtain ⟨-, -, e12, -, -, w1, w2⟩ := h.2.2.2 hs
      rw [if_pos c, e12, tw_ifE (tw_le (a := op) (b := 0) (by omega) (by omega))]
      by_cases c0 : op ≤ 0
      · rw [if_pos c0]
        rw [if_neg (fun y => by omega)] at hQ
        exact hQ σ f h
      · rw [if_neg c0]
        rw [if_pos ⟨by omega, c⟩] at hQ
        refine tw_b (h.co (sg := 27) (sgn := (0 : Int32)) (propext ⟨fun _ => by omega, fun _ => rfl⟩)) (fun σ1 g => ?_)
        obtain ⟨f1, h1⟩ := g
        obtain ⟨g1, g2, g3, g4, g5, g6, g7⟩ := h1.2.2.2 hs
        have wl := ta_len hs h1
        obtain ⟨-, -, -, d4, -⟩ := ty_dr_ok 27 ws op w1
        obtain ⟨w', hw'⟩ : ∃ w', (ty_dr 27 ws).1 = 35 :: w' := by
          rcases d4 (by omega) with ⟨-, z0⟩ | z0
          · omega
          · exact z0
        unfold ta_eo at h1
        rw [hw'] at g2 g4 g5 g6 wl h1 hQ
        rw [List.length_cons] at g4 wl
        show tw_ok ((f_m_next (rx_si (rx_si σ1 87 58 (σ1.1 87 58 - (1 : Int32))) 87 12 ((rx_si σ1 87 58 (σ1.1 87 58 - (1 : Int32))).1 87 12 - (1 : Int32)))).bind fun y3 => f_m_expression_96 k12 m (nI 0) y3) P
        have e12' : ∀ v, (rx_si σ1 87 58 v).1 87 12 = nI op := fun v => by rw [tw_r1n _ _ (by omega)]; exact g3
        rw [e12', g4, show nI (w'.length + 1) - (1 : Int32) = nI w'.length from tw_sub (a := w'.length + 1) (b := 1) (by omega), show nI op - (1 : Int32) = nI (op - 1) from tw_sub (a := op) (b := 1) (by omega)]
        have f2 : tw_fr (fun q j => q = 87 ∧ (j = 12 ∨ j = 58)) σ1 (rx_si (rx_si σ1 87 58 (nI w'.length)) 87 12 (nI (op - 1))) := (tw_fr.rf.si ⟨rfl, Or.inr rfl⟩).si ⟨rfl, Or.inl rfl⟩
        refine tw_b (tm_next (s := s) 36 (by omega) (fun _ => by rw [← z.2]; exact c) (h1.1.1.fr (fun q j a b => ⟨f2.i (by omega), f2.l (by omega)⟩)) (h1.2.1.fr (fun j a => f2.i (by omega)))) (fun σ3 g => ?_)
        obtain ⟨f3, r3⟩ := g
        have e3 : ∀ q j, ¬ (q = 87 ∧ (11 ≤ j ∧ j ≤ 14 ∨ j = 58)) → σ3.1 q j = σ1.1 q j := fun q j a => (f3.i (by unfold ta_S1; omega)).trans (f2.i (by omega))
        have fA : tw_fr (ta_SE X.1) σ1 σ3 := (f2.mn (fun q j z => by unfold ta_SE; omega)).tr (f3.mn (ta_S1E X.1))
        refine ih m (op - 1) w' _ (o ++ (ty_dr 27 ws).2) σ3 (by omega) (fun _ => by have := hj hs; omega) ?_ ((f.tr f1).tr fA) hQ
        refine ta_mk hs h1 fA r3 (fun q j a => e3 _ _ (by omega)) ?_ (g5.2.fr w' (fun j hj => e3 _ _ (by omega))) (by omega) (fun y => ?_)
        · rw [f3.i (by unfold ta_S1; omega), tw_r1n _ _ (by omega), tw_r1s]
        · obtain ⟨-, -, -, y4⟩ := ty_tkn_0 y
          refine ⟨?_, ?_, ?_, by omega⟩
          · rw [y4]
            show _ ≤ s.2 + 1 + d + (0 + ty_bin w')
            omega
          · rw [f3.i (by unfold ta_S1; omega), tw_r1s]
          · rcases g6 with ⟨-, -, z3⟩ | ⟨z3, -⟩ | ⟨z3, -⟩
            · exact z3
            · omega
            · omega
    · rw [if_neg c]
      rw [if_neg (fun y => c y.2)] at hQ
      exact hQ σ f h
end TAY
