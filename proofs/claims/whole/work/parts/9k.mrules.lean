/-! THE MODEL READS: all RULES of a KIND -/
/-- as ta_rrs.fr, 110 and 111 aside -/
theorem ta_rrs.fr2 {T : List tw_Tk} {X : ta_X} {σ σ' : rx_St} : ∀ (rs : List ty_Ru) (i p a : Nat), (∀ r ∈ rs, r.2.length ≤ 6) → (∀ q j, (105 ≤ q ∧ q ≤ 107) ∧ j < 8 * X.2.1 + (i + rs.length) ∨ (q = 108 ∨ q = 109 ∨ q = 112 ∨ q = 113) ∧ j < 6 * (8 * X.2.1 + (i + rs.length)) → σ'.1 q j = σ.1 q j) → ta_rrs T X σ i p a rs → ta_rrs T X σ' i p a rs
  | [], _, _, _, _, _, _ => trivial
  | r :: rs, i, p, a, h6, f, h => by
    obtain ⟨⟨h1, h2, h3⟩, h4⟩ := h
    rw [List.length_cons] at f
    have l6 := h6 r (List.mem_cons_self ..)
    refine ⟨⟨(f _ _ (by omega)).trans h1, (f _ _ (by omega)).trans h2, h3.fr (fun q j y => f q j ?_)⟩, ta_rrs.fr2 rs (i + 1) _ _ (fun x hx => h6 x (List.mem_cons_of_mem _ hx)) (fun q j y => f q j (by omega)) h4⟩
    rw [ta_wrs_len] at y
    omega
def ta_SK (kk lv q j : Nat) : Prop := ta_SL lv q j ∨ (105 ≤ q ∧ q ≤ 107) ∧ (8 * kk ≤ j ∧ j < 8 * kk + 8) ∨ (108 ≤ q ∧ q ≤ 113) ∧ (48 * kk ≤ j ∧ j < 48 * kk + 48) ∨ q = 104 ∧ j = kk
theorem ta_SRK {kk cnt lv : Nat} : ∀ q j, cnt < 8 ∧ ta_SR (8 * kk + cnt) kk lv q j ∨ ta_S1 q j → ta_SK kk lv q j := by
  intro q j h
  rcases h with ⟨c, h⟩ | h
  · rcases h with h | h | h
    · rcases h with h | h | h
      · exact Or.inl h
      · unfold ta_SK; omega
      · unfold ta_SK; omega
    · unfold ta_SK; omega
    · unfold ta_SK; omega
  · exact Or.inl (Or.inl (ta_S1E lv q j h))
theorem ta_S1K (kk lv : Nat) : ∀ q j, ta_S1 q j → ta_SK kk lv q j := fun q j h => Or.inl (Or.inl (ta_S1E lv q j h))
section TBK
variable {X : ta_X} {T : List tw_Tk} {n : Nat}
/-- between the RULES of a KIND -/
def ta_in (X : ta_X) (T : List tw_Tk) (n : Nat) (s : ty_Ps) (d : Nat) (C : List tz_Cd) (Q : List ta_Qu) (acc : Option (Nat × Nat)) (L : List ta_Lr) (rs : List ty_Ru) (σ : rx_St) : Prop := ta_pl X T n s d (C ++ (ta_rops rs).map (ta_oc T X)) (Q ++ ta_rqs X C.length 0 rs) (ty_mn T n acc (rs.flatMap (ta_re T X))) (L ++ ta_rls C.length rs) σ ∧ (s.1 = 0 → σ.1 104 X.2.1 = nI rs.length ∧ rs.length ≤ 8 ∧ (∀ r ∈ rs, r.2.length ≤ 6) ∧ ta_rrs T X σ 0 C.length L.length rs)
variable {d : Nat} {C : List tz_Cd} {Q : List ta_Qu} {acc : Option (Nat × Nat)} {L : List ta_Lr}
theorem ta_in.step {s : ty_Ps} {rs : List ty_Ru} {σ σ' : rx_St} {w : ty_Ps × ty_Ru} (h : ta_in X T n s d C Q acc L rs σ) (hs : s.1 = 0) (hv : w.1.1 = 0 → w.2.2.length ≤ 6) (g : ta_rd X T n d rs.length (C ++ (ta_rops rs).map (ta_oc T X)) (Q ++ ta_rqs X C.length 0 rs) (ty_mn T n acc (rs.flatMap (ta_re T X))) (L ++ ta_rls C.length rs) σ w σ') : tw_fr (ta_SK X.2.1 X.1) σ σ' ∧ ta_in X T n w.1 d C Q acc L (rs ++ [w.2]) σ' := by
  obtain ⟨g1, g2, g3⟩ := g
  have e1 : (C ++ (ta_rops rs).map (ta_oc T X)).length = C.length + (ta_rops rs).length := by rw [List.length_append, List.length_map]
  have e2 : (L ++ ta_rls C.length rs).length = L.length + (ta_rls C.length rs).length := List.length_append
  have k1 : C ++ (ta_rops (rs ++ [w.2])).map (ta_oc T X) = (C ++ (ta_rops rs).map (ta_oc T X)) ++ (ta_lop w.2.1 ++ ta_wop w.2.2).map (ta_oc T X) := by
    have : ta_rops (rs ++ [w.2]) = ta_rops rs ++ (ta_lop w.2.1 ++ ta_wop w.2.2) := by
      unfold ta_rops
      rw [List.flatMap_append, List.flatMap_cons, List.flatMap_nil, List.append_nil]
      rfl
    rw [this, List.map_append, List.append_assoc]
  have k2 : Q ++ ta_rqs X C.length 0 (rs ++ [w.2]) = (Q ++ ta_rqs X C.length 0 rs) ++ (ta_oqs X (C.length + (ta_rops rs).length) (ta_lop w.2.1) ++ ta_wqs X (8 * X.2.1 + rs.length) (C.length + (ta_rops rs).length + (ta_lop w.2.1).length) 0 w.2.2) := by
    rw [ta_rqs_app, ta_rqs, ta_rqs, List.append_nil, Nat.zero_add, List.append_assoc]
  have k3 : ty_mn T n acc ((rs ++ [w.2]).flatMap (ta_re T X)) = ty_mn T n (ty_mn T n acc (rs.flatMap (ta_re T X))) ((ta_lop w.2.1).flatMap (ta_oe T X) ++ w.2.2.flatMap (ta_we T X)) := by
    rw [List.flatMap_append, List.flatMap_cons, List.flatMap_nil, List.append_nil, ty_mn_app]
    rfl
  have k4 : L ++ ta_rls C.length (rs ++ [w.2]) = (L ++ ta_rls C.length rs) ++ ta_lrs (C.length + (ta_rops rs).length) true w.2.1 := by
    rw [ta_rls_app, ta_rls, ta_rls, List.append_nil, List.append_assoc]
  rw [e1] at g2 g3
  rw [e2] at g3
  refine ⟨g1.mn ta_SRK, ?_, fun z => ?_⟩
  · rw [k1, k2, k3, k4]
    exact g2
  · obtain ⟨c8, q104, r1⟩ := g3 z
    obtain ⟨-, h8, h6, hr⟩ := h.2 hs
    refine ⟨by rw [List.length_append]; exact q104, by rw [List.length_append]; show rs.length + 1 ≤ 8; omega, fun r hm => ?_, ?_⟩
    · rcases List.mem_append.mp hm with hm | hm
      · exact h6 r hm
      · rw [List.mem_singleton.mp hm]; exact hv z
    · rw [ta_rrs_app]
      refine ⟨ta_rrs.fr rs 0 _ _ h6 (fun q j y => g1.i (by unfold ta_SR ta_SW ta_SL ta_SE ta_S1; omega)) hr, ?_⟩
      rw [Nat.zero_add]
      exact ⟨r1, trivial⟩
/-- all RULES and `done` -/
theorem ta_rul {σ0 : rx_St} (hP : ∀ i, ty_Pl T n i ≤ 2000) : ∀ (j m : Nat) (rs : List ty_Ru) (s : ty_Ps) (σ : rx_St), j + rs.length = 9 → j < m → ta_in X T n s d C Q acc L rs σ → tw_fr (ta_SK X.2.1 X.1) σ0 σ →
    tw_ok (f_m_tellKind_152 m σ) (fun σ' => tw_fr (ta_SK X.2.1 X.1) σ0 σ' ∧ ta_in X T n (ty_tkn T 2 (ty_rs T j s rs).1) d C Q acc L (ty_rs T j s rs).2 σ') := by
  intro j
  have stop : ∀ (rs : List ty_Ru) (s : ty_Ps) (σ : rx_St), ta_in X T n s d C Q acc L rs σ → tw_fr (ta_SK X.2.1 X.1) σ0 σ → tw_ok ((f_m_must (22 : Int32) σ).bind fun y2 => some y2) (fun σ' => tw_fr (ta_SK X.2.1 X.1) σ0 σ' ∧ ta_in X T n (ty_tkn T 2 s) d C Q acc L rs σ') := by
    intro rs s σ h f
    refine tw_b (ta_pl.mu (m := (22 : Int32)) 2 rfl (by omega) h.1) (fun σ1 g => ?_)
    obtain ⟨f1, h1⟩ := g
    rw [tw_some]
    refine ⟨f.tr (f1.mn (ta_S1K _ _)), h1.sel (by omega), fun z => ?_⟩
    obtain ⟨a, b, c, e⟩ := h.2 (ty_tkn_0 z).1
    exact ⟨(f1.i (by unfold ta_S1; omega)).trans a, b, c, ta_rrs.fr rs _ _ _ c (fun q j y => f1.i (by unfold ta_S1; omega)) e⟩
  induction j with
  | zero =>
    intro m rs s σ hj hm h f
    obtain ⟨m, rfl⟩ : ∃ m', m = m' + 1 := ⟨m - 1, by omega⟩
    have z : ¬ s.1 = 0 := fun z => by have := (h.2 z).2.1; omega
    unfold f_m_tellKind_152
    rw [tm_is (m := (25 : Int32)) 5 rfl (by omega) h.1.1.1.1 h.1.1.2.1, Option.bind_some, tm_ifz, if_neg (by rw [ty_nx_f z]; omega)]
    exact stop rs s σ h f
  | succ j ih =>
    intro m rs s σ hj hm h f
    obtain ⟨m, rfl⟩ : ∃ m', m = m' + 1 := ⟨m - 1, by omega⟩
    unfold f_m_tellKind_152
    rw [tm_is (m := (25 : Int32)) 5 rfl (by omega) h.1.1.1.1 h.1.1.2.1, Option.bind_some, tm_ifz]
    unfold ty_rs
    by_cases c : ty_nx T s = 5
    · rw [if_pos c, if_pos c]
      obtain ⟨hs, hk⟩ := ty_nx_0 (T := T) (s := s) (by omega)
      obtain ⟨a, b, -, -⟩ := h.2 hs
      have hT := h.1.1.1.1.2
      refine tw_b (ta_R (cnt := rs.length) hP hs (by rw [← hk]; exact c) b a h.1) (fun σ1 g => ?_)
      obtain ⟨g1, g2⟩ := h.step hs (fun z => (ty_R1_v hT z).2.2.2.2.1) g
      exact ih m _ _ σ1 (by rw [List.length_append]; show j + (rs.length + 1) = 9; omega) (by omega) g2 (f.tr g1)
    · rw [if_neg c, if_neg c]
      exact stop rs s σ h f
end TBK
