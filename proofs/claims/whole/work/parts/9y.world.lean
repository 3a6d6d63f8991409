/-! THE WORLD that a good text tells -/
def ta_Wp (T : List tw_Tk) (U : ty_Wo) (k : Nat) (x : ty_Uo) : tw_Op :=
  if x.1 = 0 then (0, x.2.1, 0)
  else if x.1 = 1 then (ty_fi T (ty_Lt T x.2.1) (ty_vn U k) 0).elim (2, (ty_fi T (ty_Lt T x.2.1) (ty_sn U) 0).getD 0, 0) (fun o => (1, o, 0))
  else if x.1 = 6 then (6, ty_V T x.2.1, 0)
  else if x.1 = 7 then (7, (ty_fi T (ty_Lt T x.2.1) (ty_kn U) 0).getD 0, (ty_fi T (ty_Lt T x.2.2) (ty_vn U ((ty_fi T (ty_Lt T x.2.1) (ty_kn U) 0).getD 0)) 0).getD 0)
  else if x.1 = 8 then (8, (ty_fi T (ty_Lt T x.2.1) (ty_kn U) 0).getD 0, 0)
  else (x.1, 0, 0)
def ta_Wl (T : List tw_Tk) (U : ty_Wo) (k : Nat) (b : Bool) (l : ty_Lf) : tw_Lit := (b || l.1, l.2.1, l.2.2.1, l.2.2.2.1.map (ta_Wp T U k), l.2.2.2.2.map (ta_Wp T U k))
def ta_Wls (T : List tw_Tk) (U : ty_Wo) (k : Nat) : Bool → List ty_Lf → List tw_Lit
  | _, [] => []
  | b, l :: ls => ta_Wl T U k b l :: ta_Wls T U k false ls
def ta_Ww (T : List tw_Tk) (U : ty_Wo) (k : Nat) (w : ty_Wi) : tw_Wi := (w.1, (ty_fi T (ty_Lt T w.2.1) (ty_vn U k) 0).getD 0, (ty_fi T (ty_Lt T w.2.2.1) (ty_kn U) 0).getD 0, (ty_fi T (ty_Lt T w.2.1) (ty_vn U ((ty_fi T (ty_Lt T w.2.2.1) (ty_kn U) 0).getD 0)) 0).getD 0, w.2.2.2.map (ta_Wp T U k))
def ta_Wu (T : List tw_Tk) (U : ty_Wo) (k : Nat) (r : ty_Ru) : tw_Ru := (ta_Wls T U k true r.1, r.2.map (ta_Ww T U k))
def ta_Wk (T : List tw_Tk) (U : ty_Wo) (k : Nat) (K : ty_Ki) : tw_Ki := (K.2.1.map (tz_val T), K.2.2.map (ta_Wu T U k))
def ta_Wks (T : List tw_Tk) (U : ty_Wo) : Nat → List ty_Ki → List tw_Ki
  | _, [] => []
  | k, K :: Ks => ta_Wk T U k K :: ta_Wks T U (k + 1) Ks
def ta_Wo (T : List tw_Tk) (U : ty_Wo) : tw_Wo := (U.1.map (fun x => nI (ty_V T x.2)), ta_Wks T U 0 U.2)
theorem ta_Wks_len (T : List tw_Tk) (U : ty_Wo) : ∀ (Ks : List ty_Ki) (k : Nat), (ta_Wks T U k Ks).length = Ks.length
  | [], _ => rfl
  | K :: Ks, k => by rw [ta_Wks, List.length_cons, List.length_cons, ta_Wks_len T U Ks]
theorem ta_Wks_get (T : List tw_Tk) (U : ty_Wo) : ∀ (Ks : List ty_Ki) (k0 k : Nat) (K : ty_Ki), Ks[k]? = some K → (ta_Wks T U k0 Ks)[k]? = some (ta_Wk T U (k0 + k) K)
  | [], _, _, _, h => by cases h
  | K0 :: Ks, k0, 0, K, h => by cases h; rfl
  | K0 :: Ks, k0, k + 1, K, h => by
    have := ta_Wks_get T U Ks (k0 + 1) k K h
    rw [show k0 + (k + 1) = k0 + 1 + k by omega]
    exact this
theorem ta_Wls_len (T : List tw_Tk) (U : ty_Wo) (k : Nat) : ∀ (ls : List ty_Lf) (b : Bool), (ta_Wls T U k b ls).length = ls.length
  | [], _ => rfl
  | l :: ls, b => by rw [ta_Wls, List.length_cons, List.length_cons, ta_Wls_len T U k ls]
/-! which code is whose -/
theorem tz_mem_lco {b e : Nat} : ∀ (ls : List ty_Lf) (p : Nat), ∀ l ∈ ls, ∃ t, ∀ c ∈ tz_lc l.2 t, c ∈ tz_lco b e p ls
  | [], _, l, h => by cases h
  | l0 :: ls, p, l, h => by
    unfold tz_lco
    rcases List.mem_cons.mp h with rfl | h
    · by_cases c : l.1 = true
      · rw [if_pos c]
        exact ⟨_, fun x hx => List.mem_cons_of_mem _ (List.mem_append_left _ hx)⟩
      · rw [if_neg c]
        exact ⟨_, fun x hx => List.mem_append_left _ hx⟩
    · by_cases c : l0.1 = true
      · rw [if_pos c]
        obtain ⟨t, g⟩ := tz_mem_lco ls (p + 1 + ty_ln l0.2) l h
        exact ⟨t, fun x hx => List.mem_cons_of_mem _ (List.mem_append_right _ (g x hx))⟩
      · rw [if_neg c]
        obtain ⟨t, g⟩ := tz_mem_lco ls (p + ty_ln l0.2) l h
        exact ⟨t, fun x hx => List.mem_append_right _ (g x hx)⟩
theorem tz_mem_wcs : ∀ (ws : List ty_Wi), ∀ w ∈ ws, ∀ c ∈ tz_wc w, c ∈ tz_wcs ws
  | [], w, h, _, _ => by cases h
  | w0 :: ws, w, h, c, hc => by
    rw [tz_wcs]
    rcases List.mem_cons.mp h with rfl | h
    · exact List.mem_append_left _ hc
    · exact List.mem_append_right _ (tz_mem_wcs ws w h c hc)
theorem tz_mem_rcs : ∀ (rs : List ty_Ru) (q : Nat), ∀ r ∈ rs, ∃ q', ∀ c ∈ tz_rc q' r, c ∈ tz_rcs q rs
  | [], _, r, h => by cases h
  | r0 :: rs, q, r, h => by
    rw [tz_rcs]
    rcases List.mem_cons.mp h with rfl | h
    · exact ⟨q, fun c hc => List.mem_append_left _ hc⟩
    · obtain ⟨q', g⟩ := tz_mem_rcs rs (q + (tz_rc q r0).length) r h
      exact ⟨q', fun c hc => List.mem_append_right _ (g c hc)⟩
theorem tz_mem_kcs : ∀ (Ks : List ty_Ki) (q : Nat), ∀ K ∈ Ks, ∃ q', ∀ c ∈ tz_rcs q' K.2.2, c ∈ tz_kcs q Ks
  | [], _, K, h => by cases h
  | K0 :: Ks, q, K, h => by
    rw [tz_kcs]
    rcases List.mem_cons.mp h with rfl | h
    · exact ⟨q, fun c hc => List.mem_append_left _ hc⟩
    · obtain ⟨q', g⟩ := tz_mem_kcs Ks (q + (tz_rcs q K0.2.2).length) K h
      exact ⟨q', fun c hc => List.mem_append_right _ (g c hc)⟩
theorem tz_mem_kE {T : List tw_Tk} {U : ty_Wo} : ∀ (Ks : List ty_Ki) (k0 q k : Nat) (K : ty_Ki), Ks[k]? = some K → ∃ q', ∀ e ∈ (tz_rcs q' K.2.2).flatMap (tz_ev T U (k0 + k)), e ∈ tz_kE T U k0 q Ks
  | [], _, _, _, _, h => by cases h
  | K0 :: Ks, k0, q, 0, K, h => by
    cases h
    rw [tz_kE]
    exact ⟨q, fun e he => List.mem_append_right _ (List.mem_append_left _ he)⟩
  | K0 :: Ks, k0, q, k + 1, K, h => by
    obtain ⟨q', g⟩ := tz_mem_kE (T := T) (U := U) Ks (k0 + 1) (q + (tz_rcs q K0.2.2).length) k K h
    rw [tz_kE, show k0 + (k + 1) = k0 + 1 + k by omega]
    exact ⟨q', fun e he => List.mem_append_right _ (List.mem_append_right _ (g e he))⟩
/-- nothing is amiss with a RULE -/
def ta_cR (T : List tw_Tk) (U : ty_Wo) (k : Nat) (r : ty_Ru) : Prop := (∀ l ∈ r.1, ∀ x, x ∈ l.2.2.2.1 ∨ x ∈ l.2.2.2.2 → tz_ev T U k (tz_uc x) = []) ∧ ∀ w ∈ r.2, (∀ x ∈ w.2.2.2, tz_ev T U k (tz_uc x) = []) ∧ tz_ev T U k (tc_wop w.1, nI w.2.1, nI w.2.2.1) = []
theorem ta_mem_op {q : Nat} {r : ty_Ru} {x : ty_Uo} : (∃ l ∈ r.1, x ∈ l.2.2.2.1 ∨ x ∈ l.2.2.2.2) ∨ (∃ w ∈ r.2, x ∈ w.2.2.2) → tz_uc x ∈ tz_rc q r := by
  intro h
  unfold tz_rc
  rcases h with ⟨l, hl, hx⟩ | ⟨w, hw, hx⟩
  · obtain ⟨t, g⟩ := tz_mem_lco (b := q + ty_sz r.1) (e := q + ty_sz r.1 + (tz_wcs r.2).length) r.1 q l hl
    refine List.mem_append_left _ (g _ ?_)
    unfold tz_lc
    rcases hx with hx | hx
    · exact List.mem_append_left _ (List.mem_map_of_mem hx)
    · exact List.mem_append_right _ (List.mem_append_left _ (List.mem_map_of_mem hx))
  · refine List.mem_append_right _ (tz_mem_wcs r.2 w hw _ ?_)
    unfold tz_wc
    exact List.mem_append_left _ (List.mem_map_of_mem hx)
theorem ta_clean {T : List tw_Tk} {U : ty_Wo} {k : Nat} {K : ty_Ki} (h : tz_E T U = []) (hK : U.2[k]? = some K) : ∀ r ∈ K.2.2, ta_cR T U k r := by
  intro r hr
  obtain ⟨q, g⟩ := tz_mem_kE (T := T) (U := U) U.2 0 0 k K hK
  rw [Nat.zero_add] at g
  have none : ∀ c ∈ tz_rcs q K.2.2, tz_ev T U k c = [] := fun c hc => by
    rw [List.eq_nil_iff_forall_not_mem]
    intro e he
    have : e ∈ tz_E T U := List.mem_append_right _ (List.mem_append_right _ (g e (List.mem_flatMap.mpr ⟨c, hc, he⟩)))
    rw [h] at this
    cases this
  obtain ⟨q', g'⟩ := tz_mem_rcs K.2.2 q r hr
  refine ⟨fun l hl x hx => none _ (g' _ (ta_mem_op (Or.inl ⟨l, hl, hx⟩))), fun w hw => ⟨fun x hx => none _ (g' _ (ta_mem_op (Or.inr ⟨w, hw, hx⟩))), none _ (g' _ ?_)⟩⟩
  unfold tz_rc
  refine List.mem_append_right _ (tz_mem_wcs r.2 w hw _ ?_)
  unfold tz_wc
  exact List.mem_append_right _ (List.mem_cons_self ..)
section TBY
variable {T : List tw_Tk} {U : ty_Wo} {k : Nat} {K : ty_Ki}
/-- what NAMES are found where nothing is amiss -/
theorem ta_found {x : ty_Uo} (hv : ty_vo T x) (h : tz_ev T U k (tz_uc x) = []) : (x.1 = 1 → ty_fi T (ty_Lt T x.2.1) (ty_vn U k) 0 = none → ∃ o, ty_fi T (ty_Lt T x.2.1) (ty_sn U) 0 = some o) ∧ (x.1 = 6 → 1 ≤ ty_V T x.2.1) ∧ (x.1 = 7 → ∃ o w, ty_fi T (ty_Lt T x.2.1) (ty_kn U) 0 = some o ∧ ty_fi T (ty_Lt T x.2.2) (ty_vn U o) 0 = some w) ∧ (x.1 = 8 → ∃ o, ty_fi T (ty_Lt T x.2.1) (ty_kn U) 0 = some o) := by
  obtain ⟨-, -, -, -, -, h12, h2, b1, b2⟩ := hv
  have t1 := ty_tok_nI (t := x.2.1) (by omega)
  have t2 := ty_tok_nI (t := x.2.2) (by omega)
  refine ⟨fun c z => ?_, fun c => ?_, fun c => ?_, fun c => ?_⟩
  · unfold tz_uc at h
    rw [if_neg (by omega), if_pos c] at h
    have h : (if ty_fi T (ty_Lt T (ty_tok (nI x.2.1))) (ty_vn U k) 0 = none ∧ ty_fi T (ty_Lt T (ty_tok (nI x.2.1))) (ty_sn U) 0 = none then [(4, ty_tok (nI x.2.1))] else []) = [] := h
    rw [t1] at h
    cases e : ty_fi T (ty_Lt T x.2.1) (ty_sn U) 0 with
    | some o => exact ⟨o, rfl⟩
    | none => rw [if_pos ⟨z, e⟩] at h; cases h
  · unfold tz_uc at h
    rw [if_neg (by omega), if_neg (by omega), if_neg (by omega), if_neg (by omega), if_neg (by omega), if_pos c] at h
    have h : (if ty_V T (ty_tok (nI x.2.1)) < 1 then [(5, ty_tok (nI x.2.1))] else []) = [] := h
    rw [t1] at h
    by_cases d : ty_V T x.2.1 < 1
    · rw [if_pos d] at h; cases h
    · omega
  · unfold tz_uc at h
    rw [if_neg (by omega), if_neg (by omega), if_neg (by omega), if_neg (by omega), if_neg (by omega), if_neg (by omega), if_pos c] at h
    have h : (ty_fi T (ty_Lt T (ty_tok (nI x.2.1))) (ty_kn U) 0).elim [(4, ty_tok (nI x.2.1))] (fun o => (ty_fi T (ty_Lt T (ty_tok (nI x.2.2))) (ty_vn U o) 0).elim [(4, ty_tok (nI x.2.2))] (fun w => if o ≠ k ∧ ty_scr U o w = true then [(6, ty_tok (nI x.2.2))] else [])) = [] := h
    rw [t1, t2] at h
    cases e : ty_fi T (ty_Lt T x.2.1) (ty_kn U) 0 with
    | none => rw [e] at h; cases h
    | some o =>
      rw [e] at h
      have h : (ty_fi T (ty_Lt T x.2.2) (ty_vn U o) 0).elim [(4, x.2.2)] (fun w => if o ≠ k ∧ ty_scr U o w = true then [(6, x.2.2)] else []) = [] := h
      cases e' : ty_fi T (ty_Lt T x.2.2) (ty_vn U o) 0 with
      | none => rw [e'] at h; cases h
      | some w => exact ⟨o, w, rfl, e'⟩
  · unfold tz_uc at h
    rw [if_neg (by omega), if_neg (by omega), if_neg (by omega), if_neg (by omega), if_neg (by omega), if_neg (by omega), if_neg (by omega), if_pos c] at h
    have h : (if ty_fi T (ty_Lt T (ty_tok (nI x.2.1))) (ty_kn U) 0 = none then [(4, ty_tok (nI x.2.1))] else []) = [] := h
    rw [t1] at h
    cases e : ty_fi T (ty_Lt T x.2.1) (ty_kn U) 0 with
    | some o => exact ⟨o, rfl⟩
    | none => rw [if_pos e] at h; cases h
theorem ta_foundW {w : ty_Wi} (hv : ty_vW T w) (h : tz_ev T U k (tc_wop w.1, nI w.2.1, nI w.2.2.1) = []) : (w.1 = 0 ∨ w.1 = 2 ∨ w.1 = 3 → ∃ v, ty_fi T (ty_Lt T w.2.1) (ty_vn U k) 0 = some v) ∧ (w.1 = 2 ∨ w.1 = 3 → ∃ o u, ty_fi T (ty_Lt T w.2.2.1) (ty_kn U) 0 = some o ∧ ty_fi T (ty_Lt T w.2.1) (ty_vn U o) 0 = some u) := by
  obtain ⟨h4, -, -, -, b1, b2⟩ := hv
  have t1 := ty_tok_nI (t := w.2.1) (by omega)
  have t2 := ty_tok_nI (t := w.2.2.1) (by omega)
  have mv : w.1 = 2 ∨ w.1 = 3 → (ty_fi T (ty_Lt T w.2.2.1) (ty_kn U) 0).elim [(4, w.2.2.1)] (fun o => if ty_fi T (ty_Lt T w.2.1) (ty_vn U o) 0 = none then [(4, w.2.2.1)] else []) = [] ∧ (if ty_fi T (ty_Lt T w.2.1) (ty_vn U k) 0 = none then [(4, w.2.1)] else []) = [] := by
    intro c
    have : tz_ev T U k (tc_wop w.1, nI w.2.1, nI w.2.2.1) = (ty_fi T (ty_Lt T (ty_tok (nI w.2.2.1))) (ty_kn U) 0).elim [(4, ty_tok (nI w.2.2.1))] (fun o => if ty_fi T (ty_Lt T (ty_tok (nI w.2.1))) (ty_vn U o) 0 = none then [(4, ty_tok (nI w.2.2.1))] else []) ++ (if ty_fi T (ty_Lt T (ty_tok (nI w.2.1))) (ty_vn U k) 0 = none then [(4, ty_tok (nI w.2.1))] else []) := by
      rcases c with c | c <;> (rw [c]; rfl)
    rw [this, t1, t2] at h
    exact List.append_eq_nil_iff.mp h
  have own : w.1 = 0 ∨ w.1 = 2 ∨ w.1 = 3 → (if ty_fi T (ty_Lt T w.2.1) (ty_vn U k) 0 = none then [(4, w.2.1)] else []) = [] := by
    intro c
    by_cases c0 : w.1 = 0
    · rw [c0] at h
      have h : (if ty_fi T (ty_Lt T (ty_tok (nI w.2.1))) (ty_vn U k) 0 = none then [(4, ty_tok (nI w.2.1))] else []) = [] := h
      rw [t1] at h
      exact h
    · exact (mv (by omega)).2
  refine ⟨fun c => ?_, fun c => ?_⟩
  · have := own c
    cases e : ty_fi T (ty_Lt T w.2.1) (ty_vn U k) 0 with
    | some v => exact ⟨v, rfl⟩
    | none => rw [if_pos e] at this; cases this
  · have := (mv c).1
    cases e : ty_fi T (ty_Lt T w.2.2.1) (ty_kn U) 0 with
    | none => rw [e] at this; cases this
    | some o =>
      rw [e] at this
      have this : (if ty_fi T (ty_Lt T w.2.1) (ty_vn U o) 0 = none then [(4, w.2.2.1)] else []) = [] := this
      cases e' : ty_fi T (ty_Lt T w.2.1) (ty_vn U o) 0 with
      | none => rw [if_pos e'] at this; cases this
      | some u => exact ⟨o, u, rfl, e'⟩
theorem ta_Wo_kind (hK : U.2[k]? = some K) : tw_kind (ta_Wo T U) k = ta_Wk T U k K := by
  unfold tw_kind ta_Wo
  show ((ta_Wks T U 0 U.2)[k]?).getD ([], []) = _
  rw [ta_Wks_get T U U.2 0 k K hK, Nat.zero_add]
  rfl
theorem ta_Wo_vc (hK : U.2[k]? = some K) : tw_vc (ta_Wo T U) k = K.2.1.length := by
  unfold tw_vc
  rw [ta_Wo_kind hK]
  exact List.length_map _
theorem ta_vn_len (hK : U.2[k]? = some K) : (ty_vn U k).length = K.2.1.length := by
  unfold ty_vn
  rw [hK]
  exact List.length_map _
theorem ta_Wo_len : (ta_Wo T U).2.length = U.2.length := ta_Wks_len T U U.2 0
/-- a KIND by its NAME, its VAR -/
theorem ta_kfi {L : List Nat} {o : Nat} (h : ty_fi T L (ty_kn U) 0 = some o) : ∃ K, U.2[o]? = some K ∧ o < U.2.length := by
  have := (ty_fi_lt _ _ _ h).2
  have l : (ty_kn U).length = U.2.length := List.length_map _
  have lt : o < U.2.length := by omega
  exact ⟨_, List.getElem?_eq_getElem lt, lt⟩
theorem ta_o_ok {W : tw_Wo} {nv : Nat} (c a b : Nat) (h0 : c = 0 → a ≤ 9999) (h1 : c = 1 → a < nv) (h2 : c = 2 → a < W.1.length) (h6 : c = 6 → 1 ≤ a ∧ a ≤ 9999) (h7 : c = 7 → a < W.2.length ∧ b < tw_vc W a) (h8 : c = 8 → a < W.2.length) : tw_opok W nv (c, a, b) := ⟨h0, h1, h2, h6, h7, h8⟩
theorem ta_opok (hT : ∀ (i : Nat) (x : tw_Tk), T[i]? = some x → tw_tkok x) (hK : U.2[k]? = some K) {x : ty_Uo} (hv : ty_vo T x) (h : tz_ev T U k (tz_uc x) = []) : tw_opok (ta_Wo T U) (tw_vc (ta_Wo T U) k) (ta_Wp T U k x) := by
  obtain ⟨f1, f6, f7, f8⟩ := ta_found hv h
  obtain ⟨v0, -, v6, -, -, h12, h2, -⟩ := hv
  have sl : (ta_Wo T U).1.length = (ty_sn U).length := by
    show (U.1.map _).length = (U.1.map _).length
    rw [List.length_map, List.length_map]
  have none9 : ∀ (a : tw_Op), (a.1 ≠ 0 ∧ a.1 ≠ 1 ∧ a.1 ≠ 2 ∧ a.1 ≠ 6 ∧ a.1 ≠ 7 ∧ a.1 ≠ 8) → tw_opok (ta_Wo T U) (tw_vc (ta_Wo T U) k) a := fun a g => ⟨fun z => absurd z g.1, fun z => absurd z g.2.1, fun z => absurd z g.2.2.1, fun z => absurd z g.2.2.2.1, fun z => absurd z g.2.2.2.2.1, fun z => absurd z g.2.2.2.2.2⟩
  unfold ta_Wp
  by_cases c0 : x.1 = 0
  · rw [if_pos c0]
    exact ta_o_ok 0 _ _ (fun _ => v0 c0) (fun z => by omega) (fun z => by omega) (fun z => by omega) (fun z => by omega) (fun z => by omega)
  rw [if_neg c0]
  by_cases c1 : x.1 = 1
  · rw [if_pos c1]
    cases e : ty_fi T (ty_Lt T x.2.1) (ty_vn U k) 0 with
    | none =>
      obtain ⟨o, ho⟩ := f1 c1 e
      rw [ho]
      have := (ty_fi_lt _ _ _ ho).2
      exact ta_o_ok 2 o 0 (fun z => by omega) (fun z => by omega) (fun _ => by omega) (fun z => by omega) (fun z => by omega) (fun z => by omega)
    | some o =>
      have := (ty_fi_lt _ _ _ e).2
      have lv := ta_vn_len (U := U) hK
      have vc := ta_Wo_vc (T := T) hK
      exact ta_o_ok 1 o 0 (fun z => by omega) (fun _ => by omega) (fun z => by omega) (fun z => by omega) (fun z => by omega) (fun z => by omega)
  rw [if_neg c1]
  by_cases c6 : x.1 = 6
  · rw [if_pos c6]
    exact ta_o_ok 6 _ 0 (fun z => by omega) (fun z => by omega) (fun z => by omega) (fun _ => ⟨f6 c6, ty_V_le hT (v6 c6).1⟩) (fun z => by omega) (fun z => by omega)
  rw [if_neg c6]
  by_cases c7 : x.1 = 7
  · rw [if_pos c7]
    obtain ⟨o, w, ho, hw⟩ := f7 c7
    obtain ⟨Ko, hKo, lo⟩ := ta_kfi ho
    have := (ty_fi_lt _ _ _ hw).2
    have lv := ta_vn_len (U := U) hKo
    have vc := ta_Wo_vc (T := T) hKo
    rw [ho]
    show tw_opok (ta_Wo T U) (tw_vc (ta_Wo T U) k) (7, o, (ty_fi T (ty_Lt T x.2.2) (ty_vn U o) 0).getD 0)
    rw [hw]
    exact ta_o_ok 7 o w (fun z => by omega) (fun z => by omega) (fun z => by omega) (fun z => by omega) (fun _ => ⟨by rw [ta_Wo_len]; exact lo, by omega⟩) (fun z => by omega)
  rw [if_neg c7]
  by_cases c8 : x.1 = 8
  · rw [if_pos c8]
    obtain ⟨o, ho⟩ := f8 c8
    obtain ⟨Ko, hKo, lo⟩ := ta_kfi ho
    rw [ho]
    exact ta_o_ok 8 o 0 (fun z => by omega) (fun z => by omega) (fun z => by omega) (fun z => by omega) (fun z => by omega) (fun _ => by rw [ta_Wo_len]; exact lo)
  rw [if_neg c8]
  exact none9 _ ⟨c0, c1, h2, c6, c7, c8⟩
theorem ta_Wp1 {x : ty_Uo} : ((ta_Wp T U k x).1 < 9 ↔ x.1 < 9) ∧ (¬ x.1 < 9 → (ta_Wp T U k x).1 = x.1) := by
  unfold ta_Wp
  by_cases c0 : x.1 = 0
  · rw [if_pos c0]
    exact ⟨⟨fun _ => by omega, fun _ => by show 0 < 9; omega⟩, fun z => absurd c0 (by omega)⟩
  rw [if_neg c0]
  by_cases c1 : x.1 = 1
  · rw [if_pos c1]
    refine ⟨⟨fun _ => by omega, fun _ => ?_⟩, fun z => absurd c1 (by omega)⟩
    cases ty_fi T (ty_Lt T x.2.1) (ty_vn U k) 0 with
    | none => show 2 < 9; omega
    | some o => show 1 < 9; omega
  rw [if_neg c1]
  by_cases c6 : x.1 = 6
  · rw [if_pos c6]
    exact ⟨⟨fun _ => by omega, fun _ => by show 6 < 9; omega⟩, fun z => absurd c6 (by omega)⟩
  rw [if_neg c6]
  by_cases c7 : x.1 = 7
  · rw [if_pos c7]
    exact ⟨⟨fun _ => by omega, fun _ => by show 7 < 9; omega⟩, fun z => absurd c7 (by omega)⟩
  rw [if_neg c7]
  by_cases c8 : x.1 = 8
  · rw [if_pos c8]
    exact ⟨⟨fun _ => by omega, fun _ => by show 8 < 9; omega⟩, fun z => absurd c8 (by omega)⟩
  rw [if_neg c8]
  exact ⟨Iff.rfl, fun _ => rfl⟩
theorem ta_dp : ∀ (o : List ty_Uo) (d e : Nat), ty_dp o d e → tw_dp (o.map (ta_Wp T U k)) d e
  | [], d, e, h => h
  | x :: o, d, e, h => by
    obtain ⟨p1, p2⟩ := ta_Wp1 (T := T) (U := U) (k := k) (x := x)
    rw [List.map_cons]
    unfold tw_dp
    unfold ty_dp at h
    by_cases c : x.1 < 9
    · rw [if_pos c] at h
      rw [if_pos (p1.mpr c)]
      exact ⟨h.1, ta_dp o _ e h.2⟩
    · rw [if_neg c] at h
      rw [if_neg (fun z => c (p1.mp z)), p2 c]
      exact ⟨h.1, h.2.1, ta_dp o _ e h.2.2⟩
theorem ta_cok (hT : ∀ (i : Nat) (x : tw_Tk), T[i]? = some x → tw_tkok x) (hK : U.2[k]? = some K) {o : List ty_Uo} (hv : ty_vs T o) (h : ∀ x ∈ o, tz_ev T U k (tz_uc x) = []) (hd : ty_dp o 0 1) : tw_cok (ta_Wo T U) (tw_vc (ta_Wo T U) k) (o.map (ta_Wp T U k)) := by
  refine ⟨ta_dp o 0 1 hd, fun p hp => ?_⟩
  obtain ⟨x, hx, e⟩ := List.mem_map.mp hp
  rw [← e]
  exact ta_opok hT hK (hv x hx) (h x hx)
theorem ta_Wls_mem : ∀ (ls : List ty_Lf) (b : Bool), ∀ m ∈ ta_Wls T U k b ls, ∃ l ∈ ls, ∃ c, m = ta_Wl T U k c l
  | [], _, m, h => by cases h
  | l :: ls, b, m, h => by
    rw [ta_Wls] at h
    rcases List.mem_cons.mp h with h | h
    · exact ⟨l, List.mem_cons_self .., b, h⟩
    · obtain ⟨l', a, c, e⟩ := ta_Wls_mem ls false m h
      exact ⟨l', List.mem_cons_of_mem _ a, c, e⟩
theorem ta_ruok (hT : ∀ (i : Nat) (x : tw_Tk), T[i]? = some x → tw_tkok x) (hK : U.2[k]? = some K) {r : ty_Ru} (hv : ty_vR T r) (hd : ty_dR r) (h : ta_cR T U k r) : tw_ruok (ta_Wo T U) (tw_vc (ta_Wo T U) k) (ta_Wu T U k r) := by
  obtain ⟨v1, v2, v3, v4⟩ := hv
  refine ⟨fun m hm => ?_, fun m ms e => ?_, fun w hw => ?_, ?_⟩
  · obtain ⟨l, hl, c, e⟩ := ta_Wls_mem r.1 true m hm
    subst e
    have a := v1 l hl
    have b := hd.1 l hl
    have g := h.1 l hl
    exact ⟨a.1, ta_cok hT hK a.2.1 (fun x hx => g x (Or.inl hx)) b.1, ta_cok hT hK a.2.2 (fun x hx => g x (Or.inr hx)) b.2⟩
  · have e : ta_Wls T U k true r.1 = m :: ms := e
    cases hr : r.1 with
    | nil => rw [hr] at e; cases e
    | cons l ls =>
      rw [hr] at e
      have e : ta_Wl T U k true l :: ta_Wls T U k false ls = m :: ms := e
      rw [← (List.cons.inj e).1]
      rfl
  · obtain ⟨w0, hw0, e⟩ := List.mem_map.mp hw
    subst e
    have a := v2 w0 hw0
    have b := hd.2 w0 hw0
    obtain ⟨g1, g2⟩ := h.2 w0 hw0
    obtain ⟨f1, f2⟩ := ta_foundW a g2
    refine ⟨a.1, fun z => ?_, fun z => ?_, fun z => ta_cok hT hK a.2.1 g1 (b.2 z)⟩
    · obtain ⟨v, hv⟩ := f1 z
      show (ty_fi T (ty_Lt T w0.2.1) (ty_vn U k) 0).getD 0 < _
      rw [hv]
      have := (ty_fi_lt _ _ _ hv).2
      have lv := ta_vn_len (U := U) hK
      have vc := ta_Wo_vc (T := T) hK
      show v < _
      omega
    · obtain ⟨o, u, ho, hu⟩ := f2 z
      obtain ⟨Ko, hKo, lo⟩ := ta_kfi ho
      show (ty_fi T (ty_Lt T w0.2.2.1) (ty_kn U) 0).getD 0 < _ ∧ (ty_fi T (ty_Lt T w0.2.1) (ty_vn U ((ty_fi T (ty_Lt T w0.2.2.1) (ty_kn U) 0).getD 0)) 0).getD 0 < tw_vc (ta_Wo T U) ((ty_fi T (ty_Lt T w0.2.2.1) (ty_kn U) 0).getD 0)
      rw [ho]
      show o < _ ∧ (ty_fi T (ty_Lt T w0.2.1) (ty_vn U o) 0).getD 0 < tw_vc (ta_Wo T U) o
      rw [hu, ta_Wo_len]
      have := (ty_fi_lt _ _ _ hu).2
      have lv := ta_vn_len (U := U) hKo
      have vc := ta_Wo_vc (T := T) hKo
      exact ⟨lo, by show u < _; omega⟩
  · show (r.2.map _).length ≤ 6
    rw [List.length_map]; exact v3
theorem ta_wok (hT : ∀ (i : Nat) (x : tw_Tk), T[i]? = some x → tw_tkok x) (hU : ty_vP T U) (hd : ∀ K ∈ U.2, ty_dK K) (h : tz_E T U = []) : tw_wok (ta_Wo T U) := by
  refine ⟨?_, ?_, fun k hk => ?_⟩
  · show (U.1.map _).length ≤ 6
    rw [List.length_map]; exact hU.2.1
  · rw [ta_Wo_len]; exact hU.2.2.2
  · rw [ta_Wo_len] at hk
    have hK : U.2[k]? = some U.2[k] := List.getElem?_eq_getElem hk
    have hm : U.2[k] ∈ U.2 := List.getElem_mem hk
    obtain ⟨-, -, v3, v4, v5⟩ := hU.2.2.1 _ hm
    rw [ta_Wo_vc hK, ta_Wo_kind hK]
    refine ⟨v4, ?_, fun r hr => ?_⟩
    · show (U.2[k].2.2.map _).length ≤ 8
      rw [List.length_map]; exact v5
    · obtain ⟨r0, hr0, e⟩ := List.mem_map.mp hr
      subst e
      rw [← ta_Wo_vc (T := T) hK]
      exact ta_ruok hT hK (v3 r0 hr0) (hd _ hm r0 hr0) (ta_clean h hK r0 hr0)
end TBY
