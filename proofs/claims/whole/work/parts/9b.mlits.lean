/-! THE MODEL READS: the LITS of a RULE -/
def ta_lop (ls : List ty_Lf) : List ty_Uo := ls.flatMap (fun l => l.2.2.2.1 ++ l.2.2.2.2)
def ta_lrs : Nat → Bool → List ty_Lf → List ta_Lr
  | _, _, [] => []
  | p, b, l :: ls => ((b || l.1), l.2.1, l.2.2.1, p, p + l.2.2.2.1.length, p + l.2.2.2.1.length + l.2.2.2.2.length) :: ta_lrs (p + l.2.2.2.1.length + l.2.2.2.2.length) false ls
theorem ta_lrs_len : ∀ (ls : List ty_Lf) (p : Nat) (b : Bool), (ta_lrs p b ls).length = ls.length
  | [], _, _ => rfl
  | l :: ls, p, b => by rw [ta_lrs, List.length_cons, List.length_cons, ta_lrs_len ls]
theorem ta_lrs_app : ∀ (as bs : List ty_Lf) (p : Nat), ta_lrs p false (as ++ bs) = ta_lrs p false as ++ ta_lrs (p + (ta_lop as).length) false bs
  | [], bs, p => rfl
  | l :: as, bs, p => by
    rw [List.cons_append, ta_lrs, ta_lrs, ta_lrs_app as bs, List.cons_append]
    have : (ta_lop (l :: as)).length = l.2.2.2.1.length + l.2.2.2.2.length + (ta_lop as).length := by
      unfold ta_lop
      rw [List.flatMap_cons, List.length_append, List.length_append]
    rw [this, show p + l.2.2.2.1.length + l.2.2.2.2.length + (ta_lop as).length = p + (l.2.2.2.1.length + l.2.2.2.2.length + (ta_lop as).length) by omega]
theorem ta_lrs_app1 {as bs : List ty_Lf} {p : Nat} (h : as ≠ []) : ta_lrs p true (as ++ bs) = ta_lrs p true as ++ ta_lrs (p + (ta_lop as).length) false bs := by
  cases as with
  | nil => exact absurd rfl h
  | cons l as =>
    rw [List.cons_append, ta_lrs, ta_lrs, ta_lrs_app as bs, List.cons_append]
    have : (ta_lop (l :: as)).length = l.2.2.2.1.length + l.2.2.2.2.length + (ta_lop as).length := by
      unfold ta_lop
      rw [List.flatMap_cons, List.length_append, List.length_append]
    rw [this, show p + l.2.2.2.1.length + l.2.2.2.2.length + (ta_lop as).length = p + (l.2.2.2.1.length + l.2.2.2.2.length + (ta_lop as).length) by omega]
theorem ty_E1_f {T : List tw_Tk} {s : ty_Ps} (h : ¬ s.1 = 0) : (ty_E1 T s).1 = s := by
  unfold ty_E1
  rw [ty_eL_f h]
theorem ty_L1_f {T : List tw_Tk} {s : ty_Ps} (h : ¬ s.1 = 0) : (ty_L1 T s).1 = s := by
  have e : (ty_no T 501 s 0).1 = s := by
    unfold ty_no
    rw [if_neg (by rw [ty_nx_f h]; omega)]
  unfold ty_L1
  show (ty_E1 T (ty_tkn T (ty_tst T (ty_E1 T (ty_no T 501 s 0).1).1) (ty_E1 T (ty_no T 501 s 0).1).1)).1 = s
  rw [e, ty_E1_f h, ty_tkn_f h, ty_E1_f h]
section TBC
variable {X : ta_X} {T : List tw_Tk} {n : Nat}
/-- with the LITS so far -/
def ta_pls (X : ta_X) (T : List tw_Tk) (n : Nat) (s : ty_Ps) (d : Nat) (C : List tz_Cd) (Q : List ta_Qu) (acc : Option (Nat × Nat)) (L : List ta_Lr) (ls : List ty_Lf) (σ : rx_St) : Prop := ta_pl X T n s d (C ++ (ta_lop ls).map (ta_oc T X)) (Q ++ ta_oqs X C.length (ta_lop ls)) (ty_mn T n acc ((ta_lop ls).flatMap (ta_oe T X))) (L ++ ta_lrs C.length true ls) σ
theorem ta_pl.bad {s : ty_Ps} {d d' : Nat} {C C' : List tz_Cd} {Q Q' : List ta_Qu} {acc acc' : Option (Nat × Nat)} {L L' : List ta_Lr} {σ : rx_St} (h : ta_pl X T n s d C Q acc L σ) (hs : ¬ s.1 = 0) : ta_pl X T n s d' C' Q' acc' L' σ := ⟨h.1.bad hs, fun z => absurd z hs⟩
theorem ta_pl.nx {s : ty_Ps} {d : Nat} {C : List tz_Cd} {Q : List ta_Qu} {acc : Option (Nat × Nat)} {L : List ta_Lr} {σ : rx_St} (k : Nat) (hk : k ≠ 37) (hs : s.1 = 0 → ty_K T s.2 = k) (h : ta_pl X T n s d C Q acc L σ) : tw_ok (f_m_next σ) (fun σ' => tw_fr ta_S1 σ σ' ∧ ta_pl X T n (ty_tkn T k s) (d + 1) C Q acc L σ') := by
  refine tw_mono (h.1.nx k hk hs) (fun σ' g => ⟨g.1, g.2.sel (by omega), fun z => ?_⟩)
  exact (h.2 (ty_tkn_0 z).1).fr (fun q j a => g.1.i (by unfold ta_S1; omega))
theorem ta_pls.snoc {s : ty_Ps} {d : Nat} {C : List tz_Cd} {Q : List ta_Qu} {acc : Option (Nat × Nat)} {L : List ta_Lr} {ls : List ty_Lf} {l : ty_Lf} {σ : rx_St} (hl : ls ≠ []) (h : ta_pl X T n s d ((C ++ (ta_lop ls).map (ta_oc T X)) ++ (l.2.2.2.1 ++ l.2.2.2.2).map (ta_oc T X)) ((Q ++ ta_oqs X C.length (ta_lop ls)) ++ ta_oqs X (C ++ (ta_lop ls).map (ta_oc T X)).length (l.2.2.2.1 ++ l.2.2.2.2)) (ty_mn T n (ty_mn T n acc ((ta_lop ls).flatMap (ta_oe T X))) ((l.2.2.2.1 ++ l.2.2.2.2).flatMap (ta_oe T X))) ((L ++ ta_lrs C.length true ls) ++ [(l.1, l.2.1, l.2.2.1, (C ++ (ta_lop ls).map (ta_oc T X)).length, (C ++ (ta_lop ls).map (ta_oc T X)).length + l.2.2.2.1.length, (C ++ (ta_lop ls).map (ta_oc T X)).length + l.2.2.2.1.length + l.2.2.2.2.length)]) σ) : ta_pls X T n s d C Q acc L (ls ++ [l]) σ := by
  have e : ta_lop (ls ++ [l]) = ta_lop ls ++ (l.2.2.2.1 ++ l.2.2.2.2) := by
    unfold ta_lop
    rw [List.flatMap_append, List.flatMap_cons]
    show _ ++ (_ ++ []) = _
    rw [List.append_nil]
  unfold ta_pls
  rw [ta_lrs_app1 hl, e, List.map_append, ta_oqs_app, List.flatMap_append, ty_mn_app, ← List.append_assoc, ← List.append_assoc, ← List.append_assoc]
  rw [List.length_append, List.length_map] at h
  exact h
/-- what comes behind a LIT -/
def ta_more (m : Nat) (v1 : Int32) (y1 : rx_St) : Option rx_St := (f_m_is (34 : Int32) y1).bind fun y2 => if y2 = (0 : Int32) then ((f_m_is (35 : Int32) y1).bind fun y3 => if y3 = (0 : Int32) then f_m_tellRule_124 (f_m_tellRule_83 m) v1 y2 (0 : Int32) y1 else f_m_tellRule_119 (f_m_tellRule_83 m) v1 y2 y1) else f_m_tellRule_119 (f_m_tellRule_83 m) v1 y2 y1
theorem ta_los {d : Nat} {C : List tz_Cd} {Q : List ta_Qu} {acc : Option (Nat × Nat)} {L : List ta_Lr} {v1 : Int32} {σ0 : rx_St} (hP : ∀ i, ty_Pl T n i ≤ 2000) (P : rx_St → Prop) : ∀ (j m : Nat) (ls : List ty_Lf) (s : ty_Ps) (σ : rx_St), j + ls.length = 502 → ls ≠ [] → j + 1 < m → ta_pls X T n s d C Q acc L ls σ → tw_fr (ta_SL X.1) σ0 σ →
    (∀ σ', tw_fr (ta_SL X.1) σ0 σ' → ta_pls X T n (ty_lo T j s ls).1 d C Q acc L (ty_lo T j s ls).2 σ' → tw_ok (f_m_tellRule_136 v1 σ') P) → tw_ok (ta_more m v1 σ) P := by
  intro j
  induction j with
  | zero =>
    intro m ls s σ hj hl hm h f hQ
    obtain ⟨m, rfl⟩ : ∃ m', m = m' + 1 := ⟨m - 1, by omega⟩
    have s5 := h.1.2.1.2.2.2.2.1
    have z : ¬ s.1 = 0 := fun z => by
      have := (h.1.2.2.2 z).2.1
      have e : (L ++ ta_lrs C.length true ls).length = L.length + ls.length := by rw [List.length_append, ta_lrs_len]
      rw [e] at this
      omega
    have nx := ty_nx_f (T := T) z
    unfold ta_more
    rw [tm_is (m := (34 : Int32)) 14 rfl (by omega) h.1.1.1 h.1.2.1, Option.bind_some, tm_ifz, if_neg (by omega), tm_is (m := (35 : Int32)) 15 rfl (by omega) h.1.1.1 h.1.2.1, Option.bind_some, tm_ifz, if_neg (by omega), if_neg (by omega)]
    unfold f_m_tellRule_124 f_m_tellRule_83
    rw [if_pos rfl, if_pos rfl]
    exact hQ σ f h
  | succ j ih =>
    intro m ls s σ hj hl hm h f hQ
    obtain ⟨m, rfl⟩ : ∃ m', m = m' + 1 := ⟨m - 1, by omega⟩
    unfold ty_lo at hQ
    -- one LIT more
    have one : ∀ (k : Nat) (b : Bool) (v3 : Int32), (k = 14 ∨ k = 15) → ty_nx T s = k → b = decide (ty_nx T s = 14) → v3 = tw_B b → tw_ok (f_m_tellRule_119 (f_m_tellRule_83 (m + 1)) v1 v3 σ) P := by
      intro k b v3 hk e hb hv
      have gz := ty_nx_0 (T := T) (s := s) (by omega)
      rw [if_pos (by omega)] at hQ
      unfold f_m_tellRule_119 f_m_tellRule_124
      rw [if_neg (show ¬ (1 : Int32) = (0 : Int32) by decide)]
      refine tw_b (ta_pl.nx k (by omega) (fun _ => by rw [← gz.2]; exact e) h) (fun σ1 g => ?_)
      obtain ⟨f1, h1⟩ := g
      rw [e] at hQ hb
      have f1L : tw_fr (ta_SL X.1) σ σ1 := f1.mn (fun q j y => Or.inl (ta_S1E X.1 q j y))
      unfold f_m_tellRule_83
      rw [if_neg (show ¬ (1 : Int32) = (0 : Int32) by decide), tw_ifE h1.1.2.1.z]
      by_cases z : (ty_tkn T k s).1 = 0
      · rw [if_pos z]
        refine tw_b (ta_L b hv hP h1) (fun σ2 g => ?_)
        obtain ⟨f2, h2⟩ := g
        have h3 : ta_pls X T n (ty_L1 T (ty_tkn T k s)).1 d C Q acc L (ls ++ [(b, (ty_L1 T (ty_tkn T k s)).2)]) σ2 := ta_pls.snoc hl h2
        rw [hb] at h3
        exact ih m (ls ++ [(decide (k = 14), (ty_L1 T (ty_tkn T k s)).2)]) _ σ2 (by rw [List.length_append]; show j + (ls.length + 1) = 502; omega) (fun y => by have := congrArg List.length y; rw [List.length_append] at this; exact absurd this (by show ¬ ls.length + 1 = 0; omega)) (by omega) h3 ((f.tr f1L).tr f2) hQ
      · rw [if_neg z]
        have el : (ty_L1 T (ty_tkn T k s)).1 = ty_tkn T k s := ty_L1_f z
        rw [el] at hQ
        have e2 : ∀ ms, ty_lo T j (ty_tkn T k s) ms = (ty_tkn T k s, ms) := fun ms => by
          cases j with
          | zero => rfl
          | succ j =>
            unfold ty_lo
            rw [if_neg (by have := ty_nx_f (T := T) z; omega)]
        rw [e2] at hQ
        exact hQ σ1 (f.tr f1L) (ta_pl.bad h1 z)
    unfold ta_more
    rw [tm_is (m := (34 : Int32)) 14 rfl (by omega) h.1.1.1 h.1.2.1, Option.bind_some, tm_ifz]
    by_cases c14 : ty_nx T s = 14
    · rw [if_pos c14, if_pos c14]
      exact one 14 true (1 : Int32) (Or.inl rfl) c14 (by rw [decide_eq_true c14]) rfl
    rw [if_neg c14, tm_is (m := (35 : Int32)) 15 rfl (by omega) h.1.1.1 h.1.2.1, Option.bind_some, tm_ifz]
    by_cases c15 : ty_nx T s = 15
    · rw [if_pos c15, if_neg c14]
      exact one 15 false (0 : Int32) (Or.inr rfl) c15 (by rw [decide_eq_false c14]) rfl
    rw [if_neg c15, if_neg c14]
    rw [if_neg (by omega)] at hQ
    unfold f_m_tellRule_124 f_m_tellRule_83
    rw [if_pos rfl, if_pos rfl]
    exact hQ σ f h
end TBC
