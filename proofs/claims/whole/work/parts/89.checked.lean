/-! THE CLASS'S CHECKER: the whole code -/
/-- no NAME amiss about the codes of an expression -/
theorem tz_uc_vc {T : List tw_Tk} {x : ty_Uo} (h : ty_vo T x) : tz_vc T (tz_uc x) := by
  obtain ⟨-, h1, h6, h7, h8, h12, h2, -, -⟩ := h
  unfold tz_uc
  have none3 : ∀ (c : Nat) (a b : Int32), c < 100 → c ≠ 23 → c ≠ 22 → c ≠ 7 → c ≠ 20 → c ≠ 21 → c ≠ 11 → c ≠ 12 → tz_vc T (c, a, b) := fun c a b c0 c1 c2 c3 c4 c5 c6 c7 => by
    refine ⟨c0, fun z => ?_, fun z => ?_, fun z => ?_⟩
    · have z' : c = 23 ∨ c = 22 ∨ c = 7 := z
      omega
    · exact absurd z c4
    · have z' : c = 21 ∨ c = 11 ∨ c = 12 := z
      omega
  by_cases c0 : x.1 = 0
  · rw [if_pos c0]; exact none3 24 _ _ (by omega) (by omega) (by omega) (by omega) (by omega) (by omega) (by omega) (by omega)
  rw [if_neg c0]
  by_cases c1 : x.1 = 1
  · rw [if_pos c1]
    exact ⟨by show 23 < 100; omega, fun _ => ⟨x.2.1, rfl, h1 c1⟩, fun z => absurd (show 23 = 20 from z) (by omega), fun z => by have z' : 23 = 21 ∨ 23 = 11 ∨ 23 = 12 := z; omega⟩
  rw [if_neg c1]
  by_cases c3 : x.1 = 3
  · rw [if_pos c3]; exact none3 17 _ _ (by omega) (by omega) (by omega) (by omega) (by omega) (by omega) (by omega) (by omega)
  rw [if_neg c3]
  by_cases c4 : x.1 = 4
  · rw [if_pos c4]; exact none3 18 _ _ (by omega) (by omega) (by omega) (by omega) (by omega) (by omega) (by omega) (by omega)
  rw [if_neg c4]
  by_cases c5 : x.1 = 5
  · rw [if_pos c5]; exact none3 19 _ _ (by omega) (by omega) (by omega) (by omega) (by omega) (by omega) (by omega) (by omega)
  rw [if_neg c5]
  by_cases c6 : x.1 = 6
  · rw [if_pos c6]
    exact ⟨by show 20 < 100; omega, fun z => by have z' : 20 = 23 ∨ 20 = 22 ∨ 20 = 7 := z; omega, fun _ => ⟨x.2.1, rfl, h6 c6⟩, fun z => by have z' : 20 = 21 ∨ 20 = 11 ∨ 20 = 12 := z; omega⟩
  rw [if_neg c6]
  by_cases c7 : x.1 = 7
  · rw [if_pos c7]
    exact ⟨by show 21 < 100; omega, fun z => by have z' : 21 = 23 ∨ 21 = 22 ∨ 21 = 7 := z; omega, fun z => absurd (show 21 = 20 from z) (by omega), fun _ => ⟨⟨x.2.1, rfl, (h7 c7).1⟩, ⟨x.2.2, rfl, (h7 c7).2⟩⟩⟩
  rw [if_neg c7]
  by_cases c8 : x.1 = 8
  · rw [if_pos c8]
    exact ⟨by show 22 < 100; omega, fun _ => ⟨x.2.1, rfl, h8 c8⟩, fun z => absurd (show 22 = 20 from z) (by omega), fun z => by have z' : 22 = 21 ∨ 22 = 11 ∨ 22 = 12 := z; omega⟩
  rw [if_neg c8]
  exact none3 _ _ _ (by omega) (by omega) (by omega) (by omega) (by omega) (by omega) (by omega) (by omega)
def tz_vcs (T : List tw_Tk) (C : List tz_Cd) : Prop := ∀ x ∈ C, tz_vc T x
theorem tz_vcs_app {T : List tw_Tk} {a b : List tz_Cd} (h : tz_vcs T a) (h' : tz_vcs T b) : tz_vcs T (a ++ b) := fun x hx => (List.mem_append.mp hx).elim (h x) (h' x)
theorem tz_vcs_1 {T : List tw_Tk} {x : tz_Cd} (h : tz_vc T x) : tz_vcs T [x] := fun y hy => by rw [List.mem_singleton.mp hy]; exact h
theorem tz_vcs_nil {T : List tw_Tk} : tz_vcs T [] := fun y hy => by cases hy
theorem tz_uc_vcs {T : List tw_Tk} {o : List ty_Uo} (h : ty_vs T o) : tz_vcs T (o.map tz_uc) := fun y hy => by
  obtain ⟨x, hx, e⟩ := List.mem_map.mp hy
  rw [← e]
  exact tz_uc_vc (h x hx)
theorem tz_vc_x {T : List tw_Tk} (c : Nat) (a b : Int32) (c0 : c < 100) (c1 : c ≠ 23 ∧ c ≠ 22 ∧ c ≠ 7) (c4 : c ≠ 20) (c5 : c ≠ 21 ∧ c ≠ 11 ∧ c ≠ 12) : tz_vc T (c, a, b) := by
  refine ⟨c0, fun z => ?_, fun z => absurd z c4, fun z => ?_⟩
  · have z' : c = 23 ∨ c = 22 ∨ c = 7 := z
    omega
  · have z' : c = 21 ∨ c = 11 ∨ c = 12 := z
    omega
theorem tz_lc_vcs {T : List tw_Tk} {l : ty_Li} {t : Nat} (h : ty_vL T l) : tz_vcs T (tz_lc l t) := by
  obtain ⟨h1, h2, h3⟩ := h
  unfold tz_lc
  exact tz_vcs_app (tz_uc_vcs h2) (tz_vcs_app (tz_uc_vcs h3) (tz_vcs_1 (tz_vc_x _ _ _ (by omega) (by omega) (by omega) (by omega))))
theorem tz_lco_vcs {T : List tw_Tk} {b e : Nat} : ∀ (ls : List ty_Lf) (p : Nat), (∀ l ∈ ls, ty_vL T l.2) → tz_vcs T (tz_lco b e p ls)
  | [], _, _ => tz_vcs_nil
  | l :: ls, p, h => by
    have h1 := h l (List.mem_cons_self ..)
    have h2 : ∀ x ∈ ls, ty_vL T x.2 := fun x hx => h x (List.mem_cons_of_mem _ hx)
    rw [tz_lco]
    by_cases c : l.1 = true
    · rw [if_pos c]
      exact tz_vcs_app (a := [(14, nI 0, nI b)]) (tz_vcs_1 (tz_vc_x 14 _ _ (by omega) (by omega) (by omega) (by omega))) (tz_vcs_app (tz_lc_vcs h1) (tz_lco_vcs ls _ h2))
    · rw [if_neg c]
      exact tz_vcs_app (tz_lc_vcs h1) (tz_lco_vcs ls _ h2)
theorem tz_wc_vcs {T : List tw_Tk} {w : ty_Wi} (h : ty_vW T w) : tz_vcs T (tz_wc w) := by
  obtain ⟨h1, h2, h3, h4, -, -⟩ := h
  unfold tz_wc
  refine tz_vcs_app (tz_uc_vcs h2) (tz_vcs_1 ?_)
  have c5 : w.1 = 0 ∨ w.1 = 1 ∨ w.1 = 2 ∨ w.1 = 3 ∨ w.1 = 4 := by omega
  rcases c5 with c | c | c | c | c
  · rw [c]
    exact ⟨by show 7 < 100; omega, fun _ => ⟨w.2.1, rfl, h3 (Or.inl c)⟩, fun z => absurd (show 7 = 20 from z) (by omega), fun z => by have z' : 7 = 21 ∨ 7 = 11 ∨ 7 = 12 := z; omega⟩
  · rw [c]
    exact tz_vc_x 8 _ _ (by omega) (by omega) (by omega) (by omega)
  · rw [c]
    exact ⟨by show 11 < 100; omega, fun z => by have z' : 11 = 23 ∨ 11 = 22 ∨ 11 = 7 := z; omega, fun z => absurd (show 11 = 20 from z) (by omega), fun _ => ⟨⟨w.2.1, rfl, h3 (Or.inr (Or.inl c))⟩, ⟨w.2.2.1, rfl, h4 (Or.inl c)⟩⟩⟩
  · rw [c]
    exact ⟨by show 12 < 100; omega, fun z => by have z' : 12 = 23 ∨ 12 = 22 ∨ 12 = 7 := z; omega, fun z => absurd (show 12 = 20 from z) (by omega), fun _ => ⟨⟨w.2.1, rfl, h3 (Or.inr (Or.inr c))⟩, ⟨w.2.2.1, rfl, h4 (Or.inr c)⟩⟩⟩
  · rw [c]
    exact tz_vc_x 13 _ _ (by omega) (by omega) (by omega) (by omega)
theorem tz_wcs_vcs {T : List tw_Tk} : ∀ (ws : List ty_Wi), (∀ w ∈ ws, ty_vW T w) → tz_vcs T (tz_wcs ws)
  | [], _ => tz_vcs_nil
  | w :: ws, h => tz_vcs_app (tz_wc_vcs (h w (List.mem_cons_self ..))) (tz_wcs_vcs ws (fun x hx => h x (List.mem_cons_of_mem _ hx)))
theorem tz_rcs_vcs {T : List tw_Tk} : ∀ (rs : List ty_Ru) (p : Nat), (∀ r ∈ rs, ty_vR T r) → tz_vcs T (tz_rcs p rs)
  | [], _, _ => tz_vcs_nil
  | r :: rs, p, h => tz_vcs_app (tz_vcs_app (tz_lco_vcs _ _ (h r (List.mem_cons_self ..)).1) (tz_wcs_vcs _ (h r (List.mem_cons_self ..)).2.1)) (tz_rcs_vcs rs _ (fun x hx => h x (List.mem_cons_of_mem _ hx)))
/-- the code with all NAMES as numbers -/
def tz_kD (T : List tw_Tk) (U : ty_Wo) : Nat → Nat → List ty_Ki → List tz_Cd
  | _, _, [] => []
  | k, p, K :: Ks => (tz_rcs p K.2.2).map (tz_rv T U k) ++ tz_kD T U (k + 1) (p + (tz_rcs p K.2.2).length) Ks
/-- what is amiss in KINDS from k on -/
def tz_kE (T : List tw_Tk) (U : ty_Wo) : Nat → Nat → List ty_Ki → List (Nat × Nat)
  | _, _, [] => []
  | k, p, K :: Ks => ty_dup T (ty_vn U k) (ty_vn U k) 0 ++ ((tz_rcs p K.2.2).flatMap (tz_ev T U k) ++ tz_kE T U (k + 1) (p + (tz_rcs p K.2.2).length) Ks)
def tz_E (T : List tw_Tk) (U : ty_Wo) : List (Nat × Nat) := ty_dup T (ty_sn U) (ty_sn U) 0 ++ (ty_dupK T (ty_sn U) (ty_kn U) (ty_kn U) 0 ++ tz_kE T U 0 0 U.2)
section TZF
variable {v : Nat} {T : List tw_Tk} {n : Nat} {U : ty_Wo}
theorem tz_set_id {D : List tz_Cd} {i : Nat} {x : tz_Cd} (hx : D[i]? = some x) : D.set i x = D := by
  have il := (List.getElem?_eq_some_iff.mp hx).1
  refine List.ext_getElem? (fun p => ?_)
  rw [List.getElem?_set]
  by_cases e : i = p
  · subst e; rw [if_pos rfl, if_pos il, hx]
  · rw [if_neg e]
theorem tz_resolve {acc : Option (Nat × Nat)} {D : List tz_Cd} {σ : rx_St} {k i : Nat} {x : tz_Cd} (hv : v ≤ 1) (hP : ∀ i, ty_Pl T n i ≤ 2000) (hU : ty_vP T U) (hk : k < U.2.length) (h : tz_cx v T n U acc D σ) (hx : D[i]? = some x) (hc : tz_vc T x) : tw_ok (f_chk_resolve v (nI k) (nI i) σ) (fun σ' => tw_fr (tz_SI v i) σ σ' ∧ tz_cx v T n U (ty_mn T n acc (tz_ev T U k x)) (D.set i (tz_rv T U k x)) σ') := by
  obtain ⟨i5, r1, r2, r3⟩ := tz_row h hx
  obtain ⟨v1, v2, v3, v4⟩ := hc
  have u5 := hU.2.2.2
  have keep : x.1 ≠ 23 → x.1 ≠ 20 → x.1 ≠ 21 → x.1 ≠ 22 → x.1 ≠ 7 → ¬ (x.1 = 11 ∨ x.1 = 12) → tw_ok (some σ) (fun σ' => tw_fr (tz_SI v i) σ σ' ∧ tz_cx v T n U (ty_mn T n acc (tz_ev T U k x)) (D.set i (tz_rv T U k x)) σ') := fun a b c d e f => by
    have e1 : tz_ev T U k x = [] := by unfold tz_ev; rw [if_neg a, if_neg b, if_neg c, if_neg d, if_neg e, if_neg f]
    have e2 : tz_rv T U k x = x := by unfold tz_rv; rw [if_neg a, if_neg b, if_neg c, if_neg d, if_neg e, if_neg f]
    rw [e1, e2, tz_set_id hx, tw_some]
    exact ⟨tw_fr.rf, h⟩
  have eq : ∀ c : Nat, c < 100 → (nI x.1 = nI c) = (x.1 = c) := fun c hc => tw_eq (by omega) (by omega)
  -- one place written
  have put : ∀ (acc' : Option (Nat × Nat)) (a : Int32) (τ : rx_St), tw_fr (tz_SI v i) σ τ → tz_cx v T n U acc' D τ → tw_fr (tz_SI v i) σ (rx_si τ (19 + 14 * v) i a) ∧ tz_cx v T n U acc' (D.set i (x.1, a, x.2.2)) (rx_si τ (19 + 14 * v) i a) := fun acc' a τ fτ hτ => by
    obtain ⟨-, q1, q2, q3⟩ := tz_row hτ hx
    refine ⟨fτ.si (Or.inr ⟨by omega, by omega, rfl⟩), hτ.set (tw_fr.rf.si ⟨by omega, by omega, rfl⟩) hv ⟨?_, tw_r1s _ _ _ _, ?_⟩⟩
    · rw [tw_r1n _ _ (by omega)]; exact q1
    · rw [tw_r1n _ _ (by omega)]; exact q3
  unfold f_chk_resolve
  refine tw_g (vp_in_nI (by omega) (by decide)) (tw_g (vp_in_nI (by omega) (by decide)) ?_)
  rw [nI_clamp (by omega), r1]
  by_cases c7 : x.1 = 7
  · rw [if_pos (show nI x.1 = (7 : Int32) by rw [c7]; rfl), r2]
    obtain ⟨t, t1, t2⟩ := v2 (by omega)
    have tk : ty_tok x.2.1 = t := by rw [t1]; exact ty_tok_nI (by have := t2.2; omega)
    have e1 : tz_ev T U k x = if ty_fi T (ty_Lt T t) (ty_vn U k) 0 = none then [(4, t)] else [] := by unfold tz_ev; rw [if_neg (by omega), if_neg (by omega), if_neg (by omega), if_neg (by omega), if_pos c7, tk]
    have e2 : tz_rv T U k x = (x.1, tw_en (-nI 1) (ty_fi T (ty_Lt T t) (ty_vn U k) 0), x.2.2) := by unfold tz_rv; rw [if_neg (by omega), if_neg (by omega), if_neg (by omega), if_neg (by omega), if_pos c7, tk, c7]
    rw [t1, e1, e2]
    refine tw_b (tz_needVar hv hP hU hk h t2) (fun y g => ?_)
    obtain ⟨y1, f1, h1⟩ := g
    refine tw_g (vp_in_nI (by omega) (by decide)) ?_
    rw [tw_some, y1]
    exact put _ _ y.2 (f1.mn (fun q j h => Or.inl h)) h1
  rw [if_neg (show ¬ nI x.1 = (7 : Int32) from fun z => c7 (by rw [← eq 7 (by omega)]; exact z))]
  by_cases c8 : x.1 = 8
  · rw [if_pos (show nI x.1 = (8 : Int32) by rw [c8]; rfl)]; exact keep (by omega) (by omega) (by omega) (by omega) (by omega) (by omega)
  rw [if_neg (show ¬ nI x.1 = (8 : Int32) from fun z => c8 (by rw [← eq 8 (by omega)]; exact z))]
  by_cases c9 : x.1 = 9
  · rw [if_pos (show nI x.1 = (9 : Int32) by rw [c9]; rfl)]; exact keep (by omega) (by omega) (by omega) (by omega) (by omega) (by omega)
  rw [if_neg (show ¬ nI x.1 = (9 : Int32) from fun z => c9 (by rw [← eq 9 (by omega)]; exact z))]
  by_cases c10 : x.1 = 10
  · rw [if_pos (show nI x.1 = (10 : Int32) by rw [c10]; rfl)]; exact keep (by omega) (by omega) (by omega) (by omega) (by omega) (by omega)
  rw [if_neg (show ¬ nI x.1 = (10 : Int32) from fun z => c10 (by rw [← eq 10 (by omega)]; exact z))]
  have give : x.1 = 11 ∨ x.1 = 12 → tw_ok (f_chk_resolve_193 v (nI k) (nI i) σ) (fun σ' => tw_fr (tz_SI v i) σ σ' ∧ tz_cx v T n U (ty_mn T n acc (tz_ev T U k x)) (D.set i (tz_rv T U k x)) σ') := fun c => by
    obtain ⟨⟨t, t1, t2⟩, ⟨t', t1', t2'⟩⟩ := v4 (by omega)
    unfold f_chk_resolve_193
    refine tw_b (tz_resolveGive hv hP hU hk h hx c t1 t2 t1' t2') (fun y g => ?_)
    rw [tw_some]
    exact g
  by_cases c11 : x.1 = 11
  · rw [if_pos (show nI x.1 = (11 : Int32) by rw [c11]; rfl)]; exact give (Or.inl c11)
  rw [if_neg (show ¬ nI x.1 = (11 : Int32) from fun z => c11 (by rw [← eq 11 (by omega)]; exact z))]
  by_cases c12 : x.1 = 12
  · rw [if_pos (show nI x.1 = (12 : Int32) by rw [c12]; rfl)]; exact give (Or.inr c12)
  rw [if_neg (show ¬ nI x.1 = (12 : Int32) from fun z => c12 (by rw [← eq 12 (by omega)]; exact z))]
  by_cases c13 : x.1 = 13
  · rw [if_pos (show nI x.1 = (13 : Int32) by rw [c13]; rfl)]; exact keep (by omega) (by omega) (by omega) (by omega) (by omega) (by omega)
  rw [if_neg (show ¬ nI x.1 = (13 : Int32) from fun z => c13 (by rw [← eq 13 (by omega)]; exact z))]
  by_cases c14 : x.1 = 14
  · rw [if_pos (show nI x.1 = (14 : Int32) by rw [c14]; rfl)]; exact keep (by omega) (by omega) (by omega) (by omega) (by omega) (by omega)
  rw [if_neg (show ¬ nI x.1 = (14 : Int32) from fun z => c14 (by rw [← eq 14 (by omega)]; exact z))]
  by_cases c15 : x.1 = 15
  · rw [if_pos (show nI x.1 = (15 : Int32) by rw [c15]; rfl)]; exact keep (by omega) (by omega) (by omega) (by omega) (by omega) (by omega)
  rw [if_neg (show ¬ nI x.1 = (15 : Int32) from fun z => c15 (by rw [← eq 15 (by omega)]; exact z))]
  by_cases c16 : x.1 = 16
  · rw [if_pos (show nI x.1 = (16 : Int32) by rw [c16]; rfl)]; exact keep (by omega) (by omega) (by omega) (by omega) (by omega) (by omega)
  rw [if_neg (show ¬ nI x.1 = (16 : Int32) from fun z => c16 (by rw [← eq 16 (by omega)]; exact z))]
  by_cases c17 : x.1 = 17
  · rw [if_pos (show nI x.1 = (17 : Int32) by rw [c17]; rfl)]; exact keep (by omega) (by omega) (by omega) (by omega) (by omega) (by omega)
  rw [if_neg (show ¬ nI x.1 = (17 : Int32) from fun z => c17 (by rw [← eq 17 (by omega)]; exact z))]
  by_cases c18 : x.1 = 18
  · rw [if_pos (show nI x.1 = (18 : Int32) by rw [c18]; rfl)]; exact keep (by omega) (by omega) (by omega) (by omega) (by omega) (by omega)
  rw [if_neg (show ¬ nI x.1 = (18 : Int32) from fun z => c18 (by rw [← eq 18 (by omega)]; exact z))]
  by_cases c19 : x.1 = 19
  · rw [if_pos (show nI x.1 = (19 : Int32) by rw [c19]; rfl)]; exact keep (by omega) (by omega) (by omega) (by omega) (by omega) (by omega)
  rw [if_neg (show ¬ nI x.1 = (19 : Int32) from fun z => c19 (by rw [← eq 19 (by omega)]; exact z))]
  by_cases c20 : x.1 = 20
  · rw [if_pos (show nI x.1 = (20 : Int32) by rw [c20]; rfl), r2]
    obtain ⟨t, t1, t2, t3⟩ := v3 c20
    have tk : ty_tok x.2.1 = t := by rw [t1]; exact ty_tok_nI (by omega)
    have e1 : tz_ev T U k x = if ty_V T t < 1 then [(5, t)] else [] := by unfold tz_ev; rw [if_neg (by omega), if_pos c20, tk]
    have e2 : tz_rv T U k x = (x.1, nI (ty_V T t), x.2.2) := by unfold tz_rv; rw [if_neg (by omega), if_pos c20, tk, c20]
    obtain ⟨w1, w2⟩ := h.1.V (by omega) t2
    rw [t1, e1, e2, tz_valueOf (by omega), Option.bind_some, w1]
    refine tw_g (vp_in_nI (by omega) (by decide)) (tw_g (vp_in_nI (by omega) (by decide)) ?_)
    obtain ⟨p1, p2⟩ := put acc (nI (ty_V T t)) σ tw_fr.rf h
    rw [tw_r1s, show (1 : Int32) = nI 1 from rfl, tw_ifE (tw_le (a := 1) (b := ty_V T t) (by omega) (by omega))]
    by_cases d : 1 ≤ ty_V T t
    · rw [if_pos d, if_neg (by omega), tw_some]
      exact ⟨p1, p2⟩
    · rw [if_neg d, if_pos (by omega)]
      refine tw_b (p2.find hv hP (k := 5) (t := t) (by omega) (ty_K_lt t2 (by omega)) (by omega) (by omega)) (fun σ1 g => ?_)
      rw [tw_some]
      exact ⟨p1.tr (g.1.mn (fun q j h => Or.inl h)), g.2⟩
  rw [if_neg (show ¬ nI x.1 = (20 : Int32) from fun z => c20 (by rw [← eq 20 (by omega)]; exact z))]
  by_cases c21 : x.1 = 21
  · rw [if_pos (show nI x.1 = (21 : Int32) by rw [c21]; rfl)]
    obtain ⟨⟨t, t1, t2⟩, ⟨t', t1', t2'⟩⟩ := v4 (by omega)
    refine tw_b (tz_resolveSum hv hP hU hk h hx c21 t1 t2 t1' t2') (fun y g => ?_)
    rw [tw_some]
    exact g
  rw [if_neg (show ¬ nI x.1 = (21 : Int32) from fun z => c21 (by rw [← eq 21 (by omega)]; exact z))]
  by_cases c22 : x.1 = 22
  · rw [if_pos (show nI x.1 = (22 : Int32) by rw [c22]; rfl), r2]
    obtain ⟨t, t1, t2⟩ := v2 (by omega)
    have tk : ty_tok x.2.1 = t := by rw [t1]; exact ty_tok_nI (by have := t2.2; omega)
    have e1 : tz_ev T U k x = if ty_fi T (ty_Lt T t) (ty_kn U) 0 = none then [(4, t)] else [] := by unfold tz_ev; rw [if_neg (by omega), if_neg (by omega), if_neg (by omega), if_pos c22, tk]
    have e2 : tz_rv T U k x = (x.1, tw_en (-nI 1) (ty_fi T (ty_Lt T t) (ty_kn U) 0), x.2.2) := by unfold tz_rv; rw [if_neg (by omega), if_neg (by omega), if_neg (by omega), if_pos c22, tk, c22]
    rw [t1, e1, e2]
    refine tw_b (tz_needKind hv hP hU h t2) (fun y g => ?_)
    obtain ⟨y1, f1, h1⟩ := g
    refine tw_g (vp_in_nI (by omega) (by decide)) ?_
    rw [tw_some, y1]
    exact put _ _ y.2 (f1.mn (fun q j h => Or.inl h)) h1
  rw [if_neg (show ¬ nI x.1 = (22 : Int32) from fun z => c22 (by rw [← eq 22 (by omega)]; exact z))]
  by_cases c23 : x.1 = 23
  · rw [if_pos (show nI x.1 = (23 : Int32) by rw [c23]; rfl)]
    obtain ⟨t, t1, t2⟩ := v2 (by omega)
    refine tw_b (tz_resolveName hv hP hU hk h hx c23 t1 t2) (fun y g => ?_)
    rw [tw_some]
    exact g
  rw [if_neg (show ¬ nI x.1 = (23 : Int32) from fun z => c23 (by rw [← eq 23 (by omega)]; exact z))]
  exact keep c23 c20 c21 c22 c7 (by omega)
theorem tz_check51 {k : Nat} {B : List tz_Cd} {k25 : Int32 → rx_St → Option (Int32 × rx_St)} {σ0 : rx_St} {Q : Int32 × rx_St → Prop} {accF : Option (Nat × Nat)} {DF : List tz_Cd} (hv : v ≤ 1) (hP : ∀ i, ty_Pl T n i ≤ 2000) (hU : ty_vP T U) (hk : k < U.2.length)
    (hQ : ∀ σ', tw_fr (tz_SC v) σ0 σ' → tz_cx v T n U accF DF σ' → tw_ok (k25 (nI (k + 1)) σ') Q) : ∀ (L A : List tz_Cd) (m : Nat) (acc : Option (Nat × Nat)) (σ : rx_St), L.length < m → tz_vcs T L → tz_cx v T n U acc (A ++ (L ++ B)) σ → σ.1 (17 + 14 * v) k = nI (A.length + L.length) → tw_fr (tz_SC v) σ0 σ → accF = ty_mn T n acc (L.flatMap (tz_ev T U k)) → DF = A ++ (L.map (tz_rv T U k) ++ B) → tw_ok (f_chk_check_51 v k25 m (nI k) (nI A.length) σ) Q
  | [], A, m, acc, σ, hm, hL, hc, he, hf, ea, ed => by
    obtain ⟨m, rfl⟩ : ∃ a, m = a + 1 := ⟨m - 1, by have : 0 < m := hm; omega⟩
    have u5 := hU.2.2.2
    have d5 := hc.2.2.1.2.1
    rw [List.length_append] at d5
    have he' : σ.1 (17 + 14 * v) k = nI A.length := he
    unfold f_chk_check_51 f_chk_check_91
    rw [if_neg (show ¬ nI A.length < (0 : Int32) by rw [show (0 : Int32) = nI 0 from rfl, tw_lt (by omega) (by omega)]; omega)]
    refine tw_g (vp_in_nI (by omega) (by decide)) ?_
    rw [nI_clamp (by omega), he', if_pos (tp_yl (by omega) (by omega) (Nat.le_refl _)), show nI k + (1 : Int32) = nI (k + 1) from nI_add k 1]
    refine hQ σ hf ?_
    rw [ea, ed]
    exact hc
  | x :: L, A, m, acc, σ, hm, hL, hc, he, hf, ea, ed => by
    rw [List.length_cons] at hm he
    obtain ⟨m, rfl⟩ : ∃ a, m = a + 1 := ⟨m - 1, by omega⟩
    have u5 := hU.2.2.2
    obtain ⟨d1, d5, -⟩ := hc.2.2.1
    rw [List.length_append, List.length_append, List.length_cons] at d5 d1
    have hx : (A ++ (x :: L ++ B))[A.length]? = some x := by
      rw [List.getElem?_append_right (Nat.le_refl _), Nat.sub_self]
      rfl
    unfold f_chk_check_51
    rw [if_neg (show ¬ nI A.length < (0 : Int32) by rw [show (0 : Int32) = nI 0 from rfl, tw_lt (by omega) (by omega)]; omega)]
    refine tw_g (vp_in_nI (by omega) (by decide)) ?_
    rw [nI_clamp (by omega), he, if_neg (tp_nl (by omega) (by omega) (by omega)), d1, if_neg (tp_nl (by omega) (by omega) (by omega))]
    refine tw_b (tz_resolve hv hP hU hk hc hx (hL x (List.mem_cons_self ..))) (fun σ1 g => ?_)
    obtain ⟨g1, g2⟩ := g
    have e : (A ++ (x :: L ++ B)).set A.length (tz_rv T U k x) = (A ++ [tz_rv T U k x]) ++ (L ++ B) := by
      rw [List.set_append_right _ _ (Nat.le_refl _), Nat.sub_self, List.append_assoc]
      rfl
    rw [e] at g2
    have al : (A ++ [tz_rv T U k x]).length = A.length + 1 := by rw [List.length_append]; rfl
    rw [show nI A.length + (1 : Int32) = nI (A ++ [tz_rv T U k x]).length by rw [al]; exact nI_add _ 1]
    refine tz_check51 hv hP hU hk hQ L (A ++ [tz_rv T U k x]) m _ σ1 (by omega) (fun y hy => hL y (List.mem_cons_of_mem _ hy)) g2 ?_ (hf.tr (g1.mn (fun q j z => ?_))) ?_ ?_
    · rw [al, g1.i (by unfold tz_SI tz_S37; omega), he]
      congr 1
      omega
    · exact z.elim Or.inl (fun z => Or.inr ⟨z.1, z.2.1⟩)
    · rw [ea, ← ty_mn_app]
      rfl
    · rw [ed, List.append_assoc]
      rfl
theorem tz_check25 {σ0 : rx_St} (hv : v ≤ 1) (hP : ∀ i, ty_Pl T n i ≤ 2000) (hU : ty_vP T U) : ∀ (Ks As : List ty_Ki) (A : List tz_Cd) (m : Nat) (acc : Option (Nat × Nat)) (σ : rx_St), U.2 = As ++ Ks → A.length = (tz_kcs 0 As).length → Ks.length < m → tz_cx v T n U acc (A ++ tz_kcs A.length Ks) σ → tw_fr (tz_SC v) σ0 σ → tw_ok (f_chk_check_25 v m (nI As.length) σ) (fun y => y.1 = y.2.1 37 2 ∧ tw_fr (tz_SC v) σ0 y.2 ∧ tz_cx v T n U (ty_mn T n acc (tz_kE T U As.length A.length Ks)) (A ++ tz_kD T U As.length A.length Ks) y.2)
  | [], As, A, m, acc, σ, hu, ha, hm, hc, hf => by
    obtain ⟨m, rfl⟩ : ∃ a, m = a + 1 := ⟨m - 1, by have : 0 < m := hm; omega⟩
    have u5 := hU.2.2.2
    have ul : U.2.length = As.length := by rw [hu, List.append_nil]
    unfold f_chk_check_25
    rw [hc.2.1.2.1, if_pos (tp_yl (by omega) (by omega) (by omega)), tw_some]
    exact ⟨rfl, hf, hc⟩
  | K :: Ks, As, A, m, acc, σ, hu, ha, hm, hc, hf => by
    rw [List.length_cons] at hm
    obtain ⟨m, rfl⟩ : ∃ a, m = a + 1 := ⟨m - 1, by omega⟩
    have u5 := hU.2.2.2
    have ul : U.2.length = As.length + (Ks.length + 1) := by rw [hu, List.length_append, List.length_cons]
    unfold f_chk_check_25
    rw [hc.2.1.2.1, if_neg (tp_nl (by omega) (by omega) (by omega))]
    refine tw_b (tz_checkVars hv hP hU (k := As.length) (by omega) hc) (fun σ1 g => ?_)
    obtain ⟨g1, g2⟩ := g
    have hK := g2.2.1.2.2.2
    rw [hu, tz_Krs_app, Nat.zero_add, Nat.zero_add, ← ha] at hK
    obtain ⟨⟨-, -, -, -, b1, b2⟩, -⟩ := hK.2
    refine tw_g (vp_in_nI (by omega) (by decide)) ?_
    rw [nI_clamp (by omega)]
    show tw_ok (f_chk_check_51 v (f_chk_check_25 v m) rx_fu (nI As.length) (σ1.1 (16 + 14 * v) As.length) σ1) _
    rw [b1]
    have vK := hU.2.2.1 K (by rw [hu]; exact List.mem_append_right _ (List.mem_cons_self ..))
    have d5 := g2.2.2.1.2.1
    rw [tz_kcs, List.length_append, List.length_append] at d5
    have asl : (As ++ [K]).length = As.length + 1 := by rw [List.length_append]; rfl
    have al : (A ++ (tz_rcs A.length K.2.2).map (tz_rv T U As.length)).length = A.length + (tz_rcs A.length K.2.2).length := by rw [List.length_append, List.length_map]
    refine tz_check51 (σ0 := σ0) hv hP hU (by omega) (fun σ' f' h' => ?_) (tz_rcs A.length K.2.2) A rx_fu _ σ1 (by show _ < 100000; omega) (tz_rcs_vcs _ _ vK.2.2.1) g2 b2 (hf.tr (g1.mn (fun q j z => Or.inl z))) rfl rfl
    rw [← asl]
    rw [← List.append_assoc] at h'
    have := tz_check25 hv hP hU Ks (As ++ [K]) (A ++ (tz_rcs A.length K.2.2).map (tz_rv T U As.length)) m _ σ' (by rw [hu, List.append_assoc]; rfl) (by rw [al, tz_kcs_app, List.length_append, ← ha, Nat.zero_add]; show _ = A.length + (tz_rcs A.length K.2.2 ++ []).length; rw [List.append_nil]) (by omega) (by rw [al]; exact h') f'
    refine tw_mono this (fun y g => ?_)
    obtain ⟨y1, y2, y3⟩ := g
    refine ⟨y1, y2, ?_⟩
    rw [asl, al, ← ty_mn_app, ← ty_mn_app, List.append_assoc] at y3
    exact y3
/-- the whole checker -/
theorem tz_check {σ : rx_St} (hv : v ≤ 1) (hP : ∀ i, ty_Pl T n i ≤ 2000) (hU : ty_vP T U) (ht : tz_tk T n σ) (hw : tz_wr v T U σ) (hd : tz_cd2 v (tz_kcs 0 U.2) σ) : tw_ok (f_chk_check v σ) (fun y => y.1 = y.2.1 37 2 ∧ tw_fr (tz_SC v) σ y.2 ∧ tz_cx v T n U (ty_mn T n none (tz_E T U)) (tz_kD T U 0 0 U.2) y.2) := by
  unfold f_chk_check
  have f0 : tw_fr (tz_SC v) σ (rx_si (rx_si σ 37 2 (0 : Int32)) 37 3 (-1 : Int32)) := (tw_fr.rf.si (Or.inl ⟨rfl, Or.inl rfl⟩)).si (Or.inl ⟨rfl, Or.inr rfl⟩)
  have f1 : tw_fr tz_S37 σ (rx_si (rx_si σ 37 2 (0 : Int32)) 37 3 (-1 : Int32)) := (tw_fr.rf.si ⟨rfl, Or.inl rfl⟩).si ⟨rfl, Or.inr rfl⟩
  have h0 : tz_cx v T n U none (tz_kcs 0 U.2) (rx_si (rx_si σ 37 2 (0 : Int32)) 37 3 (-1 : Int32)) := by
    refine ⟨ht.fr (fun q j a b => ⟨f1.i (by unfold tz_S37; omega), f1.l (by unfold tz_S37; omega)⟩), hw.fr (fun q j a => f1.i (by unfold tz_S37; omega)), hd.fr (fun q j a => f1.i (by unfold tz_S37; omega)), ?_, tw_r1s _ _ _ _⟩
    rw [tw_r1n _ _ (by omega)]
    exact tw_r1s _ _ _ _
  refine tw_b (tz_checkSettings hv hP hU h0) (fun σ1 g => ?_)
  obtain ⟨g1, g2⟩ := g
  refine tw_b (tz_checkKinds hv hP hU g2) (fun σ2 g => ?_)
  obtain ⟨g3, g4⟩ := g
  have u5 := hU.2.2.2
  refine tw_mono (tz_check25 (σ0 := σ) hv hP hU U.2 [] [] rx_fu _ σ2 rfl rfl (by show _ < 100000; omega) g4 ((f0.tr (g1.mn (fun q j z => Or.inl z))).tr (g3.mn (fun q j z => Or.inl z)))) (fun y g => ?_)
  obtain ⟨y1, y2, y3⟩ := g
  refine ⟨y1, y2, ?_⟩
  rw [← ty_mn_app, ← ty_mn_app] at y3
  exact y3
end TZF
