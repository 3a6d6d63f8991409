/-! THE MODEL READS: a LIT -/
/-- or, not, sort, where its code begins, goes on, ends -/
abbrev ta_Lr : Type := Bool × Bool × Nat × Nat × Nat × Nat
def ta_lr (lv : Nat) (L : List ta_Lr) (σ : rx_St) : Prop := σ.1 87 39 = nI (250 * lv + L.length) ∧ ∀ (p : Nat) (x : ta_Lr), L[p]? = some x → σ.1 114 (250 * lv + p) = nI x.2.2.1 ∧ σ.1 115 (250 * lv + p) = tw_B x.2.1 ∧ σ.1 116 (250 * lv + p) = tw_B x.1 ∧ σ.1 117 (250 * lv + p) = nI (700 * lv + x.2.2.2.1) ∧ σ.1 118 (250 * lv + p) = nI (700 * lv + x.2.2.2.2.1) ∧ σ.1 119 (250 * lv + p) = nI (700 * lv + x.2.2.2.2.2)
def ta_SL (lv q j : Nat) : Prop := ta_SE lv q j ∨ q = 87 ∧ j = 39 ∨ 114 ≤ q ∧ q ≤ 119 ∧ 250 * lv ≤ j ∧ j < 250 * lv + 250
theorem ta_lr.fr {lv : Nat} {L : List ta_Lr} {σ σ' : rx_St} (h : ta_lr lv L σ) (f : ∀ q j, q = 87 ∧ j = 39 ∨ 114 ≤ q ∧ q ≤ 119 → σ'.1 q j = σ.1 q j) : ta_lr lv L σ' := by
  obtain ⟨h1, h2⟩ := h
  refine ⟨(f _ _ (by omega)).trans h1, fun p x hx => ?_⟩
  obtain ⟨a, b, c, d, e, g⟩ := h2 p x hx
  exact ⟨(f _ _ (by omega)).trans a, (f _ _ (by omega)).trans b, (f _ _ (by omega)).trans c, (f _ _ (by omega)).trans d, (f _ _ (by omega)).trans e, (f _ _ (by omega)).trans g⟩
def ta_pl (X : ta_X) (T : List tw_Tk) (n : Nat) (s : ty_Ps) (d : Nat) (C : List tz_Cd) (Q : List ta_Qu) (acc : Option (Nat × Nat)) (L : List ta_Lr) (σ : rx_St) : Prop := ta_pp X T n s (2 * L.length + d) C Q acc σ ∧ (s.1 = 0 → ta_lr X.1 L σ)
section TBA
variable {X : ta_X} {T : List tw_Tk} {n : Nat}
theorem ta_pp.of1 {s s' : ty_Ps} {d d' : Nat} {C : List tz_Cd} {Q : List ta_Qu} {acc : Option (Nat × Nat)} {σ σ' : rx_St} (h : ta_pp X T n s d C Q acc σ) (f : tw_fr ta_S1 σ σ') (r : tm_rs T n s' σ') (z : s'.1 = 0 → s.1 = 0 ∧ s.2 + d' ≤ s'.2 + d) : ta_pp X T n s' d' C Q acc σ' := by
  obtain ⟨h1, h2, ⟨c, r1, r2⟩, h4⟩ := h
  refine ⟨h1.fr (f.mn (ta_S1E _)), r, ⟨c, (f.i (by unfold ta_S1; omega)).trans r1, r2⟩, fun y => ?_⟩
  obtain ⟨z1, z2⟩ := z y
  obtain ⟨g1, g2, g3⟩ := h4 z1
  exact ⟨g1.fr (fun q j a => f.i (by unfold ta_S1; omega)), by omega, (f.i (by unfold ta_S1; omega)).trans g3⟩
theorem ta_pp.mu {s : ty_Ps} {d : Nat} {C : List tz_Cd} {Q : List ta_Qu} {acc : Option (Nat × Nat)} {σ : rx_St} {m : Int32} (k : Nat) (hm : m = nI (tw_km k)) (hk : k < 37) (h : ta_pp X T n s d C Q acc σ) : tw_ok (f_m_must m σ) (fun σ' => tw_fr ta_S1 σ σ' ∧ ta_pp X T n (ty_tkn T k s) (d + 1) C Q acc σ') := by
  refine tw_mono (tm_must k hm hk h.1.1 h.2.1) (fun σ' g => ⟨g.1, h.of1 g.1 g.2 (fun z => ?_)⟩)
  obtain ⟨a, -, -, b⟩ := ty_tkn_0 z
  exact ⟨a, by omega⟩
theorem ta_pp.nx {s : ty_Ps} {d : Nat} {C : List tz_Cd} {Q : List ta_Qu} {acc : Option (Nat × Nat)} {σ : rx_St} (k : Nat) (hk : k ≠ 37) (hs : s.1 = 0 → ty_K T s.2 = k) (h : ta_pp X T n s d C Q acc σ) : tw_ok (f_m_next σ) (fun σ' => tw_fr ta_S1 σ σ' ∧ ta_pp X T n (ty_tkn T k s) (d + 1) C Q acc σ') := by
  refine tw_mono (tm_next k hk hs h.1.1 h.2.1) (fun σ' g => ⟨g.1, h.of1 g.1 g.2 (fun z => ?_)⟩)
  obtain ⟨a, -, -, b⟩ := ty_tkn_0 z
  exact ⟨a, by omega⟩
theorem ta_pp.sel {s : ty_Ps} {d d' : Nat} {C : List tz_Cd} {Q : List ta_Qu} {acc : Option (Nat × Nat)} {σ : rx_St} (h : ta_pp X T n s d C Q acc σ) (hd : d' ≤ d) : ta_pp X T n s d' C Q acc σ :=
  ⟨h.1, h.2.1, h.2.2.1, fun z => by
    obtain ⟨g1, g2, g3⟩ := h.2.2.2 z
    exact ⟨g1, by omega, g3⟩⟩
theorem ta_pp.bad {s : ty_Ps} {d d' : Nat} {C C' : List tz_Cd} {Q Q' : List ta_Qu} {acc acc' : Option (Nat × Nat)} {σ : rx_St} (h : ta_pp X T n s d C Q acc σ) (hs : ¬ s.1 = 0) : ta_pp X T n s d' C' Q' acc' σ := ⟨h.1, h.2.1, h.2.2.1, fun z => absurd z hs⟩
theorem ta_nots {d : Nat} {C : List tz_Cd} {Q : List ta_Qu} {acc : Option (Nat × Nat)} {σ0 : rx_St} {v1 : Int32} (P : rx_St → Prop) : ∀ (j m i : Nat) (s : ty_Ps) (σ : rx_St), j + i = 501 → j < m → ta_pp X T n s (d + i) C Q acc σ → tw_fr ta_S1 σ0 σ →
    (∀ σ', tw_fr ta_S1 σ0 σ' → ta_pp X T n (ty_no T j s i).1 d C Q acc σ' → tw_ok ((f_m_expression σ').bind fun y2 => if (y2.1 87 13) ≤ (0 : Int32) then (rx_g (y2.1 87 11) 503 (f_m_literal_60 v1 (nI ((ty_no T j s i).2 % 2)) (σ'.1 87 46) ((y2.1 90 (y2.1 87 11).toNatClampNeg) - (11 : Int32)) y2)) else f_m_literal_60 v1 (nI ((ty_no T j s i).2 % 2)) (σ'.1 87 46) (0 : Int32) y2) P) →
    tw_ok (f_m_literal_2 m v1 (nI (i % 2)) σ) P := by
  intro j
  induction j with
  | zero =>
    intro m i s σ hi hm h f hQ
    obtain ⟨m, rfl⟩ : ∃ m', m = m' + 1 := ⟨m - 1, by omega⟩
    have s5 := h.2.1.2.2.2.2.1
    have z : ¬ s.1 = 0 := fun z => by have := (h.2.2.2 z).2.1; omega
    unfold f_m_literal_2
    rw [tm_is (m := (36 : Int32)) 16 rfl (by omega) h.1.1 h.2.1, Option.bind_some, tm_ifz, if_neg (by rw [ty_nx_f z]; omega)]
    exact hQ σ f (h.sel (by omega))
  | succ j ih =>
    intro m i s σ hi hm h f hQ
    obtain ⟨m, rfl⟩ : ∃ m', m = m' + 1 := ⟨m - 1, by omega⟩
    unfold f_m_literal_2
    rw [tm_is (m := (36 : Int32)) 16 rfl (by omega) h.1.1 h.2.1, Option.bind_some, tm_ifz]
    unfold ty_no at hQ
    by_cases c : ty_nx T s = 16
    · rw [if_pos c]
      rw [if_pos c] at hQ
      have z := ty_nx_0 (T := T) (s := s) (by omega)
      have go : tw_ok (f_m_literal_20 (f_m_literal_2 m) v1 (nI ((i + 1) % 2)) σ) P := by
        unfold f_m_literal_20
        refine tw_b (h.nx 16 (by omega) (fun _ => by rw [← z.2]; exact c)) (fun σ1 g => ?_)
        exact ih m (i + 1) _ σ1 (by omega) (by omega) (g.2.sel (by omega)) (f.tr g.1) hQ
      rw [tw_ifE (show (nI (i % 2) = (0 : Int32)) = (i % 2 = 0) from tw_eq (b := 0) (by omega) (by omega))]
      by_cases e : i % 2 = 0
      · rw [if_pos e]
        rw [show (i + 1) % 2 = 1 by omega] at go
        exact go
      · rw [if_neg e]
        rw [show (i + 1) % 2 = 0 by omega] at go
        exact go
    · rw [if_neg c]
      rw [if_neg c] at hQ
      exact hQ σ f (h.sel (by omega))
/-- rows of a LIT -/
theorem ta_row {lv : Nat} {L : List ta_Lr} {σ : rx_St} {a b c e : Nat} {f g : Bool} {v1 v2 v4 : Int32} (hlv : lv ≤ 1) (hL : L.length < 250) (h : ta_lr lv L σ) (h46 : σ.1 87 46 = nI (700 * lv + e)) (h1 : v1 = tw_B f) (h2 : v2 = tw_B g) (h4 : v4 = nI a) : tw_ok (rx_g (σ.1 87 39) 500 (
    let σ1 : rx_St := rx_si σ 114 (σ.1 87 39).toNatClampNeg v4;
    rx_g (σ1.1 87 39) 500 (
    let σ2 : rx_St := rx_si σ1 115 (σ1.1 87 39).toNatClampNeg (vp_nar .boolean v2);
    rx_g (σ2.1 87 39) 500 (
    let σ3 : rx_St := rx_si σ2 116 (σ2.1 87 39).toNatClampNeg (vp_nar .boolean v1);
    rx_g (σ3.1 87 39) 500 (
    let σ4 : rx_St := rx_si σ3 117 (σ3.1 87 39).toNatClampNeg (nI (700 * lv + b));
    rx_g (σ4.1 87 39) 500 (
    let σ5 : rx_St := rx_si σ4 118 (σ4.1 87 39).toNatClampNeg (nI (700 * lv + c));
    rx_g (σ5.1 87 39) 500 (
    let σ6 : rx_St := rx_si σ5 119 (σ5.1 87 39).toNatClampNeg (σ5.1 87 46);
    let σ7 : rx_St := rx_si σ6 87 39 ((σ6.1 87 39) + (1 : Int32));
    some σ7))))))) (fun σ' => tw_fr (fun q j => q = 87 ∧ j = 39 ∨ 114 ≤ q ∧ q ≤ 119 ∧ j = 250 * lv + L.length) σ σ' ∧ ta_lr lv (L ++ [(f, g, a, b, c, e)]) σ') := by
  obtain ⟨r1, r2⟩ := h
  have n1 : vp_nar .boolean v1 = tw_B f := by rw [h1]; cases f <;> rfl
  have n2 : vp_nar .boolean v2 = tw_B g := by rw [h2]; cases g <;> rfl
  simp (disch := omega) only [tw_L, tw_gN, tw_cl, tw_le, tw_lt, tw_eq, nI_add, pk_mul, tw_sub, tw_B0, tw_B1, tw_nb0, tw_nb1, tw_r1s, tw_r1n, if_true, if_false, Nat.le_refl, Nat.reduceEqDiff, Nat.reduceLeDiff, Nat.reduceLT, reduceIte, r1, h46]
  rw [tw_some, n1, n2]
  refine ⟨((((((tw_fr.rf.si (Or.inr ⟨by omega, by omega, rfl⟩)).si (Or.inr ⟨by omega, by omega, rfl⟩)).si (Or.inr ⟨by omega, by omega, rfl⟩)).si (Or.inr ⟨by omega, by omega, rfl⟩)).si (Or.inr ⟨by omega, by omega, rfl⟩)).si (Or.inr ⟨by omega, by omega, rfl⟩)).si (Or.inl ⟨rfl, rfl⟩), ?_, fun p x hx => ?_⟩
  · rw [tw_r1s, List.length_append]; rfl
  · rcases tw_app hx with ⟨hp, hx⟩ | ⟨hp, rfl⟩
    · obtain ⟨a1, a2, a3, a4, a5, a6⟩ := r2 p x hx
      simp (disch := omega) only [tw_L, tw_gN, tw_cl, tw_le, tw_lt, tw_eq, nI_add, pk_mul, tw_sub, tw_B0, tw_B1, tw_nb0, tw_nb1, tw_r1s, tw_r1n, if_true, if_false, Nat.le_refl, Nat.reduceEqDiff, Nat.reduceLeDiff, Nat.reduceLT, reduceIte, a1, a2, a3, a4, a5, a6]
      exact ⟨trivial, trivial, trivial, trivial, trivial, trivial⟩
    · subst hp
      simp (disch := omega) only [tw_L, tw_gN, tw_cl, tw_le, tw_lt, tw_eq, nI_add, pk_mul, tw_sub, tw_B0, tw_B1, tw_nb0, tw_nb1, tw_r1s, tw_r1n, if_true, if_false, Nat.le_refl, Nat.reduceEqDiff, Nat.reduceLeDiff, Nat.reduceLT, reduceIte]
      exact ⟨h4, trivial, trivial, trivial, trivial, trivial⟩
end TBA
