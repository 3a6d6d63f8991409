/-! THE WORLD in the class's rows -/
def ta_at {α : Type} (A : List α) (p : Nat) (B : List α) : Prop := ∀ (i : Nat) (x : α), B[i]? = some x → A[p + i]? = some x
theorem ta_at.rf {α : Type} (A : List α) : ta_at A 0 A := fun i x h => by rw [Nat.zero_add]; exact h
theorem ta_at.l {α : Type} {A B C : List α} {p : Nat} (h : ta_at A p (B ++ C)) : ta_at A p B := fun i x hx => h i x (by
  rw [List.getElem?_append_left (List.getElem?_eq_some_iff.mp hx).1]; exact hx)
theorem ta_at.r {α : Type} {A B C : List α} {p : Nat} (h : ta_at A p (B ++ C)) : ta_at A (p + B.length) C := fun i x hx => by
  have := h (B.length + i) x (by rw [List.getElem?_append_right (by omega), show B.length + i - B.length = i by omega]; exact hx)
  rw [Nat.add_assoc]
  exact this
theorem ta_at.hd {α : Type} {A B : List α} {x : α} {p : Nat} (h : ta_at A p (x :: B)) : A[p]? = some x := h 0 x rfl
theorem ta_at.tl {α : Type} {A B : List α} {x : α} {p : Nat} (h : ta_at A p (x :: B)) : ta_at A (p + 1) B := fun i y hy => by
  have := h (i + 1) y hy
  rw [show p + 1 + i = p + (i + 1) by omega]
  exact this
section TBYB
variable {T : List tw_Tk} {U : ty_Wo} {k w : Nat} {K : ty_Ki} {cnt : Bool} {σ : rx_St} {D : List tz_Cd}
theorem ta_Cone {x : ty_Uo} (hv : ty_vo T x) (h : tz_ev T U k (tz_uc x) = []) : (tz_rv T U k (tz_uc x)).1 = tc_op (ta_Wp T U k x).1 ∧ ((ta_Wp T U k x).1 = 0 ∨ (ta_Wp T U k x).1 = 1 ∨ (ta_Wp T U k x).1 = 2 ∨ 6 ≤ (ta_Wp T U k x).1 ∧ (ta_Wp T U k x).1 ≤ 8 → (tz_rv T U k (tz_uc x)).2.1 = nI (ta_Wp T U k x).2.1) ∧ ((ta_Wp T U k x).1 = 7 → (tz_rv T U k (tz_uc x)).2.2 = nI (ta_Wp T U k x).2.2) ∧ (tc_needs (ta_Wp T U k x).1 → tz_nd (tz_uc x).1 = true) := by
  obtain ⟨f1, f6, f7, f8⟩ := ta_found hv h
  obtain ⟨v0, -, v6, -, -, h12, h2, b1, b2⟩ := hv
  have t1 := ty_tok_nI (t := x.2.1) (by omega)
  have t2 := ty_tok_nI (t := x.2.2) (by omega)
  have c13 : x.1 = 0 ∨ x.1 = 1 ∨ x.1 = 3 ∨ x.1 = 4 ∨ x.1 = 5 ∨ x.1 = 6 ∨ x.1 = 7 ∨ x.1 = 8 ∨ x.1 = 9 ∨ x.1 = 10 ∨ x.1 = 11 ∨ x.1 = 12 := by omega
  obtain ⟨s, a, b⟩ := x
  simp only at *
  rcases c13 with c | c | c | c | c | c | c | c | c | c | c | c <;> subst c
  · exact ⟨rfl, fun _ => rfl, fun z => absurd (show 0 = 7 from z) (by decide), fun z => by unfold tc_needs at z; exact absurd (show 0 = 4 ∨ 0 = 7 ∨ 0 = 8 from z) (by decide)⟩
  · have e1 : tz_rv T U k (tz_uc (1, a, b)) = ((if ty_fi T (ty_Lt T (ty_tok (nI a))) (ty_vn U k) 0 = none then 40 else 39), (if ty_fi T (ty_Lt T (ty_tok (nI a))) (ty_vn U k) 0 = none then tw_en (-nI 1) (ty_fi T (ty_Lt T (ty_tok (nI a))) (ty_sn U) 0) else tw_en (-nI 1) (ty_fi T (ty_Lt T (ty_tok (nI a))) (ty_vn U k) 0)), nI 0) := rfl
    have e2 : ta_Wp T U k (1, a, b) = (ty_fi T (ty_Lt T a) (ty_vn U k) 0).elim (2, (ty_fi T (ty_Lt T a) (ty_sn U) 0).getD 0, 0) (fun o => (1, o, 0)) := rfl
    rw [e1, e2, t1]
    cases e : ty_fi T (ty_Lt T a) (ty_vn U k) 0 with
    | none =>
      obtain ⟨o, ho⟩ := f1 rfl e
      rw [if_pos rfl, if_pos rfl, ho]
      exact ⟨rfl, fun _ => rfl, fun z => absurd (show 2 = 7 from z) (by decide), fun z => by unfold tc_needs at z; exact absurd (show 2 = 4 ∨ 2 = 7 ∨ 2 = 8 from z) (by decide)⟩
    | some o =>
      rw [if_neg (fun z => by cases z), if_neg (fun z => by cases z)]
      exact ⟨rfl, fun _ => rfl, fun z => absurd (show 1 = 7 from z) (by decide), fun z => by unfold tc_needs at z; exact absurd (show 1 = 4 ∨ 1 = 7 ∨ 1 = 8 from z) (by decide)⟩
  · exact ⟨rfl, fun z => absurd (show 3 = 0 ∨ 3 = 1 ∨ 3 = 2 ∨ 6 ≤ 3 ∧ 3 ≤ 8 from z) (by decide), fun z => absurd (show 3 = 7 from z) (by decide), fun z => by unfold tc_needs at z; exact absurd (show 3 = 4 ∨ 3 = 7 ∨ 3 = 8 from z) (by decide)⟩
  · exact ⟨rfl, fun z => absurd (show 4 = 0 ∨ 4 = 1 ∨ 4 = 2 ∨ 6 ≤ 4 ∧ 4 ≤ 8 from z) (by decide), fun z => absurd (show 4 = 7 from z) (by decide), fun _ => rfl⟩
  · exact ⟨rfl, fun z => absurd (show 5 = 0 ∨ 5 = 1 ∨ 5 = 2 ∨ 6 ≤ 5 ∧ 5 ≤ 8 from z) (by decide), fun z => absurd (show 5 = 7 from z) (by decide), fun z => by unfold tc_needs at z; exact absurd (show 5 = 4 ∨ 5 = 7 ∨ 5 = 8 from z) (by decide)⟩
  · have e1 : tz_rv T U k (tz_uc (6, a, b)) = (20, nI (ty_V T (ty_tok (nI a))), nI 0) := rfl
    rw [e1, t1]
    exact ⟨rfl, fun _ => rfl, fun z => absurd (show 6 = 7 from z) (by decide), fun z => by unfold tc_needs at z; exact absurd (show 6 = 4 ∨ 6 = 7 ∨ 6 = 8 from z) (by decide)⟩
  · obtain ⟨o, v, ho, hw⟩ := f7 rfl
    have e1 : tz_rv T U k (tz_uc (7, a, b)) = (ty_fi T (ty_Lt T (ty_tok (nI a))) (ty_kn U) 0).elim (21, nI a, nI b) (fun o => (21, nI o, tw_en (-nI 1) (ty_fi T (ty_Lt T (ty_tok (nI b))) (ty_vn U o) 0))) := rfl
    have e2 : ta_Wp T U k (7, a, b) = (7, (ty_fi T (ty_Lt T a) (ty_kn U) 0).getD 0, (ty_fi T (ty_Lt T b) (ty_vn U ((ty_fi T (ty_Lt T a) (ty_kn U) 0).getD 0)) 0).getD 0) := rfl
    rw [e1, e2, t1, t2, ho]
    show (21 : Nat) = 21 ∧ _
    refine ⟨rfl, fun _ => rfl, fun _ => ?_, fun _ => rfl⟩
    show tw_en (-nI 1) (ty_fi T (ty_Lt T b) (ty_vn U o) 0) = nI ((ty_fi T (ty_Lt T b) (ty_vn U o) 0).getD 0)
    rw [hw]
    rfl
  · obtain ⟨o, ho⟩ := f8 rfl
    have e1 : tz_rv T U k (tz_uc (8, a, b)) = (22, tw_en (-nI 1) (ty_fi T (ty_Lt T (ty_tok (nI a))) (ty_kn U) 0), nI 0) := rfl
    have e2 : ta_Wp T U k (8, a, b) = (8, (ty_fi T (ty_Lt T a) (ty_kn U) 0).getD 0, 0) := rfl
    rw [e1, e2, t1, ho]
    exact ⟨rfl, fun _ => rfl, fun z => absurd (show 8 = 7 from z) (by decide), fun _ => rfl⟩
  · exact ⟨rfl, fun z => absurd (show 9 = 0 ∨ 9 = 1 ∨ 9 = 2 ∨ 6 ≤ 9 ∧ 9 ≤ 8 from z) (by decide), fun z => absurd (show 9 = 7 from z) (by decide), fun z => by unfold tc_needs at z; exact absurd (show 9 = 4 ∨ 9 = 7 ∨ 9 = 8 from z) (by decide)⟩
  · exact ⟨rfl, fun z => absurd (show 10 = 0 ∨ 10 = 1 ∨ 10 = 2 ∨ 6 ≤ 10 ∧ 10 ≤ 8 from z) (by decide), fun z => absurd (show 10 = 7 from z) (by decide), fun z => by unfold tc_needs at z; exact absurd (show 10 = 4 ∨ 10 = 7 ∨ 10 = 8 from z) (by decide)⟩
  · exact ⟨rfl, fun z => absurd (show 11 = 0 ∨ 11 = 1 ∨ 11 = 2 ∨ 6 ≤ 11 ∧ 11 ≤ 8 from z) (by decide), fun z => absurd (show 11 = 7 from z) (by decide), fun z => by unfold tc_needs at z; exact absurd (show 11 = 4 ∨ 11 = 7 ∨ 11 = 8 from z) (by decide)⟩
  · exact ⟨rfl, fun z => absurd (show 12 = 0 ∨ 12 = 1 ∨ 12 = 2 ∨ 6 ≤ 12 ∧ 12 ≤ 8 from z) (by decide), fun z => absurd (show 12 = 7 from z) (by decide), fun z => by unfold tc_needs at z; exact absurd (show 12 = 4 ∨ 12 = 7 ∨ 12 = 8 from z) (by decide)⟩
/-- an E -/
theorem ta_Ccode (hD : ∀ (p : Nat) (x : tz_Cd), D[p]? = some x → σ.1 (18 + 14 * w) p = nI x.1 ∧ σ.1 (19 + 14 * w) p = x.2.1 ∧ σ.1 (20 + 14 * w) p = x.2.2) : ∀ (o : List ty_Uo) (p : Nat), ty_vs T o → (∀ x ∈ o, tz_ev T U k (tz_uc x) = []) → (∀ x ∈ o, tz_nd (tz_uc x).1 = true → cnt = true) → ta_at D p ((o.map tz_uc).map (tz_rv T U k)) → tc_code w cnt σ p (o.map (ta_Wp T U k))
  | [], _, _, _, _, _ => trivial
  | x :: o, p, hv, h, hc, ha => by
    obtain ⟨a, b, c, d⟩ := ta_Cone (hv x (List.mem_cons_self ..)) (h x (List.mem_cons_self ..))
    obtain ⟨r1, r2, r3⟩ := hD p _ ha.hd
    rw [List.map_cons]
    refine ⟨⟨by rw [r1, a], fun z => by rw [r2, b z], fun z => by rw [r3, c z], fun z => hc x (List.mem_cons_self ..) (d z)⟩, ta_Ccode hD o (p + 1) (fun y hy => hv y (List.mem_cons_of_mem _ hy)) (fun y hy => h y (List.mem_cons_of_mem _ hy)) (fun y hy => hc y (List.mem_cons_of_mem _ hy)) ha.tl⟩
theorem tz_tg_ge {e : Nat} : ∀ (ls : List ty_Lf) (p : Nat), p + ty_sz ls ≤ e → p ≤ tz_tg p e ls ∧ tz_tg p e ls ≤ e
  | [], p, h => ⟨h, Nat.le_refl _⟩
  | l :: ls, p, h => by
    rw [tz_tg]
    rw [ty_sz] at h
    by_cases c : l.1 = true
    · rw [if_pos c] at h
      rw [if_pos c]
      omega
    · rw [if_neg c] at h
      rw [if_neg c]
      have := tz_tg_ge (e := e) ls (p + ty_ln l.2) (by omega)
      omega
/-- a LIT -/
theorem ta_Clit (hD : ∀ (p : Nat) (x : tz_Cd), D[p]? = some x → σ.1 (18 + 14 * w) p = nI x.1 ∧ σ.1 (19 + 14 * w) p = x.2.1 ∧ σ.1 (20 + 14 * w) p = x.2.2) {l : ty_Lf} {p t : Nat} {b : Bool} (hv : ty_vL T l.2) (h : ∀ x, x ∈ l.2.2.2.1 ∨ x ∈ l.2.2.2.2 → tz_ev T U k (tz_uc x) = []) (hc : ∀ x, x ∈ l.2.2.2.1 ∨ x ∈ l.2.2.2.2 → tz_nd (tz_uc x).1 = true → cnt = true) (ha : ta_at D p ((tz_lc l.2 t).map (tz_rv T U k))) (ht : p + ty_ln l.2 ≤ t) : tc_lit w cnt σ p (ta_Wl T U k b l) t (p + ty_ln l.2) := by
  unfold tz_lc at ha
  rw [List.map_append, List.map_append] at ha
  have a1 := ha.l
  have a2 := ha.r.l
  have a3 := ha.r.r
  rw [List.length_map, List.length_map] at a2 a3
  rw [List.length_map, List.length_map] at a3
  have e3 : tz_rv T U k (31 + l.2.2.1, tw_B l.2.1, nI t) = (31 + l.2.2.1, tw_B l.2.1, nI t) := by
    have := hv.1
    unfold tz_rv
    show (if 31 + l.2.2.1 = 23 then _ else _) = _
    rw [if_neg (by omega)]
    show (if 31 + l.2.2.1 = 20 then _ else _) = _
    rw [if_neg (by omega)]
    show (if 31 + l.2.2.1 = 21 then _ else _) = _
    rw [if_neg (by omega)]
    show (if 31 + l.2.2.1 = 22 then _ else _) = _
    rw [if_neg (by omega)]
    show (if 31 + l.2.2.1 = 7 then _ else _) = _
    rw [if_neg (by omega)]
    show (if 31 + l.2.2.1 = 11 ∨ 31 + l.2.2.1 = 12 then _ else _) = _
    rw [if_neg (by omega)]
  have r := hD _ _ a3.hd
  rw [e3] at r
  have ln : ty_ln l.2 = l.2.2.2.1.length + l.2.2.2.2.length + 1 := rfl
  have n1 : (l.2.2.2.1.map (ta_Wp T U k)).length = l.2.2.2.1.length := List.length_map _
  have n2 : (l.2.2.2.2.map (ta_Wp T U k)).length = l.2.2.2.2.length := List.length_map _
  unfold tc_lit
  show tc_code w cnt σ p (l.2.2.2.1.map (ta_Wp T U k)) ∧ tc_code w cnt σ (p + (l.2.2.2.1.map (ta_Wp T U k)).length) (l.2.2.2.2.map (ta_Wp T U k)) ∧ (σ.1 (18 + 14 * w) (p + (l.2.2.2.1.map (ta_Wp T U k)).length + (l.2.2.2.2.map (ta_Wp T U k)).length) = nI (31 + l.2.2.1) ∧ σ.1 (19 + 14 * w) (p + (l.2.2.2.1.map (ta_Wp T U k)).length + (l.2.2.2.2.map (ta_Wp T U k)).length) = tw_B l.2.1 ∧ σ.1 (20 + 14 * w) (p + (l.2.2.2.1.map (ta_Wp T U k)).length + (l.2.2.2.2.map (ta_Wp T U k)).length) = nI t) ∧ p + ty_ln l.2 = p + (l.2.2.2.1.map (ta_Wp T U k)).length + (l.2.2.2.2.map (ta_Wp T U k)).length + 1 ∧ p + ty_ln l.2 ≤ t
  rw [n1, n2]
  exact ⟨ta_Ccode hD _ _ hv.2.1 (fun x hx => h x (Or.inl hx)) (fun x hx => hc x (Or.inl hx)) a1, ta_Ccode hD _ _ hv.2.2 (fun x hx => h x (Or.inr hx)) (fun x hx => hc x (Or.inr hx)) a2, r, by omega, ht⟩
theorem ta_Clits (hD : ∀ (p : Nat) (x : tz_Cd), D[p]? = some x → σ.1 (18 + 14 * w) p = nI x.1 ∧ σ.1 (19 + 14 * w) p = x.2.1 ∧ σ.1 (20 + 14 * w) p = x.2.2) {body e : Nat} (he : body ≤ e) : ∀ (ls : List ty_Lf) (p : Nat), (∀ l ∈ ls, ty_vL T l.2) → (∀ l ∈ ls, ∀ x, x ∈ l.2.2.2.1 ∨ x ∈ l.2.2.2.2 → tz_ev T U k (tz_uc x) = []) → (∀ l ∈ ls, ∀ x, x ∈ l.2.2.2.1 ∨ x ∈ l.2.2.2.2 → tz_nd (tz_uc x).1 = true → cnt = true) → ta_at D p ((tz_lco body e p ls).map (tz_rv T U k)) → p + ty_sz ls = body → tc_lits w cnt σ e p (ta_Wls T U k false ls) (tz_tg p e ls) body
  | [], p, _, _, _, _, hp => ⟨hp, rfl⟩
  | l :: ls, p, hv, h, hc, ha, hp => by
    have hv1 := hv l (List.mem_cons_self ..)
    have h1 := h l (List.mem_cons_self ..)
    have hc1 := hc l (List.mem_cons_self ..)
    have rc1 := fun p' => ta_Clits hD he ls p' (fun y hy => hv y (List.mem_cons_of_mem _ hy)) (fun y hy => h y (List.mem_cons_of_mem _ hy)) (fun y hy => hc y (List.mem_cons_of_mem _ hy))
    rw [ty_sz] at hp
    rw [tz_lco] at ha
    rw [ta_Wls, tz_tg]
    have lf : (ta_Wl T U k false l).1 = l.1 := Bool.false_or _
    unfold tc_lits
    rw [lf]
    by_cases c : l.1 = true
    · rw [if_pos c] at ha hp ⊢
      rw [List.map_cons, List.map_append] at ha
      have r := hD _ _ ha.hd
      have e14 : tz_rv T U k (14, nI 0, nI body) = (14, nI 0, nI body) := rfl
      rw [e14] at r
      have tg := tz_tg_ge (e := e) ls (p + 1 + ty_ln l.2) (by omega)
      have a2 := ha.tl.r
      rw [List.length_map, tz_lc_len] at a2
      refine ⟨fun _ => ⟨⟨r.1, r.2.2, rfl, by omega⟩, tz_tg (p + 1 + ty_ln l.2) e ls, p + 1 + ty_ln l.2, ta_Clit hD hv1 h1 hc1 ha.tl.l tg.1, tg.2, rc1 _ a2 (by omega)⟩, fun z => ?_⟩
      rw [c] at z
      cases z
    · rw [if_neg c] at ha hp ⊢
      rw [List.map_append] at ha
      have tg := tz_tg_ge (e := e) ls (p + ty_ln l.2) (by omega)
      have a2 := ha.r
      rw [List.length_map, tz_lc_len] at a2
      refine ⟨fun z => absurd z c, fun _ => ⟨p + ty_ln l.2, ta_Clit hD hv1 h1 hc1 ha.l tg.1, rc1 _ a2 (by omega)⟩⟩
/-- WISHES -/
theorem ta_Cwis (hD : ∀ (p : Nat) (x : tz_Cd), D[p]? = some x → σ.1 (18 + 14 * w) p = nI x.1 ∧ σ.1 (19 + 14 * w) p = x.2.1 ∧ σ.1 (20 + 14 * w) p = x.2.2) : ∀ (ws : List ty_Wi) (p : Nat), (∀ x ∈ ws, ty_vW T x) → (∀ x ∈ ws, ty_dW x) → (∀ x ∈ ws, (∀ y ∈ x.2.2.2, tz_ev T U k (tz_uc y) = []) ∧ tz_ev T U k (tc_wop x.1, nI x.2.1, nI x.2.2.1) = []) → (∀ x ∈ ws, ∀ y ∈ x.2.2.2, tz_nd (tz_uc y).1 = true → cnt = true) → ta_at D p ((tz_wcs ws).map (tz_rv T U k)) → tc_wis w cnt σ p (ws.map (ta_Ww T U k)) (p + (tz_wcs ws).length)
  | [], p, _, _, _, _, _ => rfl
  | x :: ws, p, hv, hd, h, hc, ha => by
    have hv1 := hv x (List.mem_cons_self ..)
    have hd1 := hd x (List.mem_cons_self ..)
    obtain ⟨g1, g2⟩ := h x (List.mem_cons_self ..)
    have hc1 := hc x (List.mem_cons_self ..)
    obtain ⟨fo1, fo2⟩ := ta_foundW hv1 g2
    rw [tz_wcs, List.map_append] at ha
    have aw := ha.l
    have ar := ha.r
    have wl : (tz_wc x).length = x.2.2.2.length + 1 := by
      unfold tz_wc
      rw [List.length_append, List.length_map]
      rfl
    rw [List.length_map, wl] at ar
    unfold tz_wc at aw
    rw [List.map_append] at aw
    have a1 := aw.l
    have a2 := aw.r
    rw [List.length_map, List.length_map] at a2
    have r := hD _ _ a2.hd
    have pe : tc_pe p (ta_Ww T U k x) = p + x.2.2.2.length := by
      unfold tc_pe
      show (if x.1 = 4 then p else p + (x.2.2.2.map (ta_Wp T U k)).length) = _
      by_cases c4 : x.1 = 4
      · rw [if_pos c4, hd1.1 c4]; rfl
      · rw [if_neg c4, List.length_map]
    have t1 := ty_tok_nI (t := x.2.1) (by have := hv1.2.2.2.2.1; omega)
    have t2 := ty_tok_nI (t := x.2.2.1) (by have := hv1.2.2.2.2.2; omega)
    have c4 := hv1.1
    have one : tc_wi w cnt σ p (ta_Ww T U k x) (p + x.2.2.2.length + 1) := by
      unfold tc_wi
      rw [pe]
      show (x.1 ≠ 4 → tc_code w cnt σ p (x.2.2.2.map (ta_Wp T U k))) ∧ σ.1 (18 + 14 * w) (p + x.2.2.2.length) = nI (tc_wop x.1) ∧ (x.1 = 0 ∨ x.1 = 2 ∨ x.1 = 3 → σ.1 (19 + 14 * w) (p + x.2.2.2.length) = nI ((ty_fi T (ty_Lt T x.2.1) (ty_vn U k) 0).getD 0)) ∧ (x.1 = 2 ∨ x.1 = 3 → σ.1 (20 + 14 * w) (p + x.2.2.2.length) = nI ((ty_fi T (ty_Lt T x.2.2.1) (ty_kn U) 0).getD 0 * 6 + (ty_fi T (ty_Lt T x.2.1) (ty_vn U ((ty_fi T (ty_Lt T x.2.2.1) (ty_kn U) 0).getD 0)) 0).getD 0)) ∧ p + x.2.2.2.length + 1 = p + x.2.2.2.length + 1
      refine ⟨fun _ => ta_Ccode hD _ _ hv1.2.1 g1 hc1 a1, ?_⟩
      have mv : ∀ c, c = 11 ∨ c = 12 → tc_wop x.1 = c → (x.1 = 2 ∨ x.1 = 3) → σ.1 (18 + 14 * w) (p + x.2.2.2.length) = nI (tc_wop x.1) ∧ (x.1 = 0 ∨ x.1 = 2 ∨ x.1 = 3 → σ.1 (19 + 14 * w) (p + x.2.2.2.length) = nI ((ty_fi T (ty_Lt T x.2.1) (ty_vn U k) 0).getD 0)) ∧ (x.1 = 2 ∨ x.1 = 3 → σ.1 (20 + 14 * w) (p + x.2.2.2.length) = nI ((ty_fi T (ty_Lt T x.2.2.1) (ty_kn U) 0).getD 0 * 6 + (ty_fi T (ty_Lt T x.2.1) (ty_vn U ((ty_fi T (ty_Lt T x.2.2.1) (ty_kn U) 0).getD 0)) 0).getD 0)) := by
        intro c hc ec e2
        obtain ⟨v, hvv⟩ := fo1 (Or.inr e2)
        obtain ⟨o, u, ho, hu⟩ := fo2 e2
        have er : tz_rv T U k (c, nI x.2.1, nI x.2.2.1) = (c, tw_en (-nI 1) (ty_fi T (ty_Lt T (ty_tok (nI x.2.1))) (ty_vn U k) 0), (tw_en (-nI 1) (ty_fi T (ty_Lt T (ty_tok (nI x.2.2.1))) (ty_kn U) 0)) * (6 : Int32) + ((ty_fi T (ty_Lt T (ty_tok (nI x.2.2.1))) (ty_kn U) 0).elim (-nI 1) (fun o => tw_en (-nI 1) (ty_fi T (ty_Lt T (ty_tok (nI x.2.1))) (ty_vn U o) 0)))) := by
          rcases hc with rfl | rfl <;> rfl
        rw [ec, er, t1, t2, ho, hvv] at r
        rw [ec, ho, hvv]
        have r3 : σ.1 (20 + 14 * w) (p + x.2.2.2.length) = nI o * (6 : Int32) + tw_en (-nI 1) (ty_fi T (ty_Lt T x.2.1) (ty_vn U o) 0) := r.2.2
        rw [hu] at r3
        refine ⟨r.1, fun _ => r.2.1, fun _ => ?_⟩
        show _ = nI (o * 6 + (ty_fi T (ty_Lt T x.2.1) (ty_vn U o) 0).getD 0)
        rw [hu, r3, show (6 : Int32) = nI 6 from rfl, pk_mul]
        exact nI_add _ _
      have c5 : x.1 = 0 ∨ x.1 = 1 ∨ x.1 = 2 ∨ x.1 = 3 ∨ x.1 = 4 := by omega
      rcases c5 with c | c | c | c | c
      · obtain ⟨v, hvv⟩ := fo1 (Or.inl c)
        rw [c] at r ⊢
        have er : tz_rv T U k (tc_wop 0, nI x.2.1, nI x.2.2.1) = (7, tw_en (-nI 1) (ty_fi T (ty_Lt T (ty_tok (nI x.2.1))) (ty_vn U k) 0), nI x.2.2.1) := rfl
        rw [er, t1, hvv] at r
        rw [hvv]
        exact ⟨r.1, fun _ => r.2.1, fun z => absurd z (by decide), rfl⟩
      · rw [c] at r ⊢
        exact ⟨r.1, fun z => absurd z (by decide), fun z => absurd z (by decide), rfl⟩
      · obtain ⟨m1, m2, m3⟩ := mv 11 (Or.inl rfl) (by rw [c]; rfl) (Or.inl c)
        exact ⟨m1, m2, m3, rfl⟩
      · obtain ⟨m1, m2, m3⟩ := mv 12 (Or.inr rfl) (by rw [c]; rfl) (Or.inr c)
        exact ⟨m1, m2, m3, rfl⟩
      · rw [c] at r ⊢
        exact ⟨r.1, fun z => absurd z (by decide), fun z => absurd z (by decide), rfl⟩
    rw [List.map_cons]
    refine ⟨p + x.2.2.2.length + 1, one, ?_⟩
    have rc1 := ta_Cwis hD ws (p + x.2.2.2.length + 1) (fun y hy => hv y (List.mem_cons_of_mem _ hy)) (fun y hy => hd y (List.mem_cons_of_mem _ hy)) (fun y hy => h y (List.mem_cons_of_mem _ hy)) (fun y hy => hc y (List.mem_cons_of_mem _ hy)) (by rw [Nat.add_assoc]; exact ar)
    rw [tz_wcs, List.length_append, wl, show p + (x.2.2.2.length + 1 + (tz_wcs ws).length) = p + x.2.2.2.length + 1 + (tz_wcs ws).length by omega]
    exact rc1
end TBYB
