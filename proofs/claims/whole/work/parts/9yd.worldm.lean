/-! THE WORLD in the model's rows: which question is whose -/
def ta_al (lv : Nat) (SN : List Nat) : Nat → List ty_Ki → List (ta_X × ty_Uo)
  | _, [] => []
  | k, K :: Ks => (ta_rops K.2.2).map (fun x => (ta_X1 lv SN k K, x)) ++ ta_al lv SN (k + 1) Ks
theorem ta_kC_al (T : List tw_Tk) (lv : Nat) (SN : List Nat) : ∀ (Ks : List ty_Ki) (k : Nat), ta_kC T lv SN k Ks = (ta_al lv SN k Ks).map (fun e => ta_oc T e.1 e.2)
  | [], _ => rfl
  | K :: Ks, k => by
    rw [ta_kC, ta_al, List.map_append, List.map_map, ta_kC_al T lv SN Ks]
    rfl
theorem ta_al_X (lv : Nat) (SN : List Nat) : ∀ (Ks : List ty_Ki) (k : Nat), ∀ e ∈ ta_al lv SN k Ks, e.1.1 = lv
  | [], _, e, h => by cases h
  | K :: Ks, k, e, h => by
    rw [ta_al] at h
    rcases List.mem_append.mp h with h | h
    · obtain ⟨x, -, rfl⟩ := List.mem_map.mp h
      rfl
    · exact ta_al_X lv SN Ks _ e h
/-- a place in two lists, one behind the other -/
theorem ta_ix {α : Type} {A B : List α} {p : Nat} {P : Nat → α → Prop} : (∃ i x, (A ++ B)[i]? = some x ∧ P (p + i) x) ↔ (∃ i x, A[i]? = some x ∧ P (p + i) x) ∨ (∃ i x, B[i]? = some x ∧ P (p + A.length + i) x) := by
  constructor
  · rintro ⟨i, x, h, g⟩
    by_cases c : i < A.length
    · rw [List.getElem?_append_left c] at h
      exact Or.inl ⟨i, x, h, g⟩
    · rw [List.getElem?_append_right (by omega)] at h
      refine Or.inr ⟨i - A.length, x, h, ?_⟩
      rw [show p + A.length + (i - A.length) = p + i by omega]
      exact g
  · rintro (⟨i, x, h, g⟩ | ⟨i, x, h, g⟩)
    · refine ⟨i, x, ?_, g⟩
      rw [List.getElem?_append_left (List.getElem?_eq_some_iff.mp h).1]
      exact h
    · refine ⟨A.length + i, x, ?_, ?_⟩
      · rw [List.getElem?_append_right (by omega), show A.length + i - A.length = i by omega]
        exact h
      · rw [← Nat.add_assoc]
        exact g
theorem ta_ix0 {α : Type} {p : Nat} {P : Nat → α → Prop} : ¬ ∃ i x, ([] : List α)[i]? = some x ∧ P (p + i) x := fun ⟨i, x, h, _⟩ => by cases h
theorem ta_ix1 {α : Type} {a : α} {p : Nat} {P : Nat → α → Prop} : (∃ i x, [a][i]? = some x ∧ P (p + i) x) ↔ P p a := by
  constructor
  · rintro ⟨i, x, h, g⟩
    cases i with
    | zero => cases h; exact g
    | succ i => cases h
  · intro h
    exact ⟨0, a, rfl, h⟩
theorem ta_oqs_ix (X : ta_X) (y : ta_Qu) : ∀ (o : List ty_Uo) (p : Nat), y ∈ ta_oqs X p o ↔ ∃ i x, o[i]? = some x ∧ y ∈ ta_oq X (p + i) x
  | [], p => ⟨fun h => (by cases h), fun h => absurd h (ta_ix0 (P := fun j x => y ∈ ta_oq X j x))⟩
  | x :: o, p => by
    have := ta_ix (A := [x]) (B := o) (p := p) (P := fun j x => y ∈ ta_oq X j x)
    have t := ta_ix1 (a := x) (p := p) (P := fun j x => y ∈ ta_oq X j x)
    rw [ta_oqs, List.mem_append, ta_oqs_ix X y o (p + 1)]
    exact (this.trans (or_congr t Iff.rfl)).symm
theorem ta_wqs_ix (X : ta_X) (r : Nat) (y : ta_Qu) (hy : y.1 ≠ 2) : ∀ (ws : List ty_Wi) (p j : Nat), y ∈ ta_wqs X r p j ws ↔ ∃ i x, (ta_wop ws)[i]? = some x ∧ y ∈ ta_oq X (p + i) x
  | [], p, j => ⟨fun h => (by cases h), fun h => absurd h (ta_ix0 (P := fun j x => y ∈ ta_oq X j x))⟩
  | w :: ws, p, j => by
    have := ta_ix (A := w.2.2.2) (B := ta_wop ws) (p := p) (P := fun j x => y ∈ ta_oq X j x)
    have e : ta_wop (w :: ws) = w.2.2.2 ++ ta_wop ws := rfl
    have oi := ta_oqs_ix X y w.2.2.2 p
    rw [e, this, ta_wqs, List.mem_append, ta_wqs_ix X r y hy ws]
    unfold ta_wq
    rw [List.mem_append]
    have no : ¬ y ∈ (if w.1 = 2 ∨ w.1 = 3 then [((2, 6 * r + j, X.2.1, w.2.2.1, w.2.1) : ta_Qu)] else []) := fun z => by
      by_cases c : w.1 = 2 ∨ w.1 = 3
      · rw [if_pos c] at z
        exact hy (by rw [List.mem_singleton.mp z])
      · rw [if_neg c] at z; cases z
    exact ⟨fun z => z.elim (fun z => z.elim (fun z => Or.inl (oi.mp z)) (fun z => absurd z no)) Or.inr, fun z => z.elim (fun z => Or.inl (Or.inl (oi.mpr z))) Or.inr⟩
theorem ta_rqs_ix (X : ta_X) (y : ta_Qu) (hy : y.1 ≠ 2) : ∀ (rs : List ty_Ru) (p j : Nat), y ∈ ta_rqs X p j rs ↔ ∃ i x, (ta_rops rs)[i]? = some x ∧ y ∈ ta_oq X (p + i) x
  | [], p, j => ⟨fun h => (by cases h), fun h => absurd h (ta_ix0 (P := fun j x => y ∈ ta_oq X j x))⟩
  | r :: rs, p, j => by
    have t1 := ta_ix (A := ta_rop r) (B := ta_rops rs) (p := p) (P := fun j x => y ∈ ta_oq X j x)
    have t2 := ta_ix (A := ta_lop r.1) (B := ta_wop r.2) (p := p) (P := fun j x => y ∈ ta_oq X j x)
    have e : ta_rops (r :: rs) = ta_rop r ++ ta_rops rs := rfl
    have e2 : ta_rop r = ta_lop r.1 ++ ta_wop r.2 := rfl
    rw [e, t1, e2, t2, ta_rqs, List.mem_append, List.mem_append, ta_rqs_ix X y hy rs, ta_wqs_ix X _ y hy, ta_oqs_ix, e2]
theorem ta_kQ_ix (lv : Nat) (SN : List Nat) (y : ta_Qu) (hy : y.1 ≠ 2) : ∀ (Ks : List ty_Ki) (k p : Nat), y ∈ ta_kQ lv SN k p Ks ↔ ∃ i e, (ta_al lv SN k Ks)[i]? = some e ∧ y ∈ ta_oq e.1 (p + i) e.2
  | [], k, p => ⟨fun h => (by cases h), fun h => absurd h (ta_ix0 (P := fun j (x : ta_X × ty_Uo) => y ∈ ta_oq x.1 j x.2))⟩
  | K :: Ks, k, p => by
    have t1 := ta_ix (A := (ta_rops K.2.2).map (fun x => (ta_X1 lv SN k K, x))) (B := ta_al lv SN (k + 1) Ks) (p := p) (P := fun j x => y ∈ ta_oq x.1 j x.2)
    rw [ta_al, t1, ta_kQ, List.mem_append, ta_kQ_ix lv SN y hy Ks, ta_rqs_ix _ y hy, List.length_map]
    refine or_congr ⟨?_, ?_⟩ Iff.rfl
    · rintro ⟨i, x, h, g⟩
      exact ⟨i, (ta_X1 lv SN k K, x), by rw [List.getElem?_map, h]; rfl, g⟩
    · rintro ⟨i, e, h, g⟩
      rw [List.getElem?_map] at h
      obtain ⟨x, hx, rfl⟩ := Option.map_eq_some_iff.mp h
      exact ⟨i, x, hx, g⟩
section TBYD
variable {T : List tw_Tk} {U : ty_Wo} {lv k : Nat} {K : ty_Ki} {σ : rx_St}
/-- the row of an operation -/
theorem ta_Mop (h : ta_mr lv T U σ) (hK : U.2[k]? = some K) {p : Nat} {x : ty_Uo} (ha : (ta_al lv (ty_sn U) 0 U.2)[p]? = some (ta_X1 lv (ty_sn U) k K, x)) (hv : ty_vo T x) (hc : tz_ev T U k (tz_uc x) = []) : σ.1 120 (700 * lv + p) = nI (ta_Wp T U k x).1 ∧ σ.1 121 (700 * lv + p) = nI (ta_Wp T U k x).2.1 ∧ σ.1 122 (700 * lv + p) = nI (ta_Wp T U k x).2.2 := by
  obtain ⟨-, -, -, -, -, hC, hQ, -, -⟩ := h
  obtain ⟨-, -, f7, f8⟩ := ta_found hv hc
  have ev : ty_vn U k = K.2.1.map (fun x => x.1) := by unfold ty_vn; rw [hK]
  obtain ⟨r120, r2⟩ := hC p (ta_oc T (ta_X1 lv (ty_sn U) k K) x) (by rw [ta_kC_al, List.getElem?_map, ha]; rfl)
  by_cases c7 : x.1 = 7
  · obtain ⟨o, w, ho, hw⟩ := f7 c7
    have my : ((0, 700 * lv + p, 5 * lv + k, x.2.1, x.2.2) : ta_Qu) ∈ ta_kQ lv (ty_sn U) 0 0 U.2 := by
      rw [ta_kQ_ix lv (ty_sn U) _ (show (0 : Nat) ≠ 2 by decide)]
      refine ⟨p, _, ha, ?_⟩
      unfold ta_oq
      rw [if_pos c7, Nat.zero_add]
      exact List.mem_cons_self ..
    have g := (hQ _ my o w ho (by unfold ta_qs; exact hw)).2 (show (0 : Nat) ≠ 2 by decide)
    have e1 : (ta_oc T (ta_X1 lv (ty_sn U) k K) x).1 = 7 := by
      unfold ta_oc
      rw [if_neg (by omega), if_neg (by omega), if_neg (by omega)]
      exact c7
    have e2 : ta_Wp T U k x = (7, o, w) := by
      unfold ta_Wp
      rw [if_neg (by omega), if_neg (by omega), if_neg (by omega), if_pos c7, ho]
      show (7, o, (ty_fi T (ty_Lt T x.2.2) (ty_vn U o) 0).getD 0) = _
      rw [hw]
      rfl
    rw [e2, r120, e1]
    exact ⟨rfl, g.1, g.2⟩
  by_cases c8 : x.1 = 8
  · obtain ⟨o, ho⟩ := f8 c8
    have my : ((1, 700 * lv + p, 5 * lv + k, x.2.1, 0) : ta_Qu) ∈ ta_kQ lv (ty_sn U) 0 0 U.2 := by
      rw [ta_kQ_ix lv (ty_sn U) _ (show (1 : Nat) ≠ 2 by decide)]
      refine ⟨p, _, ha, ?_⟩
      unfold ta_oq
      rw [if_neg c7, if_pos c8, Nat.zero_add]
      exact List.mem_cons_self ..
    have g := (hQ _ my o 0 ho rfl).2 (show (1 : Nat) ≠ 2 by decide)
    have e1 : (ta_oc T (ta_X1 lv (ty_sn U) k K) x).1 = 8 := by
      unfold ta_oc
      rw [if_neg (by omega), if_neg (by omega), if_neg (by omega)]
      exact c8
    have e2 : ta_Wp T U k x = (8, o, 0) := by
      unfold ta_Wp
      rw [if_neg (by omega), if_neg (by omega), if_neg (by omega), if_neg c7, if_pos c8, ho]
      rfl
    rw [e2, r120, e1]
    exact ⟨rfl, g.1, g.2⟩
  -- no question is asked here
  have no := r2 (fun y hy y2 ye => by
    rw [ta_kQ_ix lv (ty_sn U) y y2] at hy
    obtain ⟨i, e, he, hy⟩ := hy
    have eX := ta_al_X lv (ty_sn U) U.2 0 e (List.mem_of_getElem? he)
    unfold ta_oq at hy
    rw [Nat.zero_add] at hy
    by_cases d7 : e.2.1 = 7
    · rw [if_pos d7] at hy
      have hy := List.mem_singleton.mp hy
      rw [hy] at ye
      have ye : 700 * e.1.1 + i = 700 * lv + p := ye
      rw [eX] at ye
      have ei : i = p := by omega
      subst ei
      rw [ha] at he
      cases he
      exact c7 d7
    · rw [if_neg d7] at hy
      by_cases d8 : e.2.1 = 8
      · rw [if_pos d8] at hy
        have hy := List.mem_singleton.mp hy
        rw [hy] at ye
        have ye : 700 * e.1.1 + i = 700 * lv + p := ye
        rw [eX] at ye
        have ei : i = p := by omega
        subst ei
        rw [ha] at he
        cases he
        exact c8 d8
      · rw [if_neg d8] at hy; cases hy)
  rw [r120, no.1, no.2]
  unfold ta_oc ta_Wp
  by_cases c0 : x.1 = 0
  · rw [if_pos c0, if_pos c0]
    exact ⟨rfl, rfl, rfl⟩
  rw [if_neg c0, if_neg c0]
  by_cases c1 : x.1 = 1
  · rw [if_pos c1, if_pos c1, ev]
    show nI ((ty_fi T (ty_Lt T x.2.1) (K.2.1.map (fun x => x.1)) 0).elim (2, nI ((ty_fi T (ty_Lt T x.2.1) (ty_sn U) 0).getD 0), nI 0) (fun o => (1, nI o, nI 0)) : tz_Cd).1 = _ ∧ ((ty_fi T (ty_Lt T x.2.1) (K.2.1.map (fun x => x.1)) 0).elim (2, nI ((ty_fi T (ty_Lt T x.2.1) (ty_sn U) 0).getD 0), nI 0) (fun o => (1, nI o, nI 0)) : tz_Cd).2.1 = _ ∧ ((ty_fi T (ty_Lt T x.2.1) (K.2.1.map (fun x => x.1)) 0).elim (2, nI ((ty_fi T (ty_Lt T x.2.1) (ty_sn U) 0).getD 0), nI 0) (fun o => (1, nI o, nI 0)) : tz_Cd).2.2 = _
    cases ty_fi T (ty_Lt T x.2.1) (K.2.1.map (fun x => x.1)) 0 with
    | none => exact ⟨rfl, rfl, rfl⟩
    | some o => exact ⟨rfl, rfl, rfl⟩
  rw [if_neg c1, if_neg c1]
  by_cases c6 : x.1 = 6
  · rw [if_pos c6, if_pos c6]
    exact ⟨rfl, rfl, rfl⟩
  rw [if_neg c6, if_neg c6, if_neg c7, if_neg c8]
  exact ⟨rfl, rfl, rfl⟩
theorem ta_Mcode (h : ta_mr lv T U σ) (hK : U.2[k]? = some K) : ∀ (o : List ty_Uo) (p : Nat), ty_vs T o → (∀ x ∈ o, tz_ev T U k (tz_uc x) = []) → ta_at (ta_al lv (ty_sn U) 0 U.2) p (o.map (fun x => (ta_X1 lv (ty_sn U) k K, x))) → tm_code σ (700 * lv + p) (o.map (ta_Wp T U k))
  | [], _, _, _, _ => trivial
  | x :: o, p, hv, hc, ha => by
    rw [List.map_cons]
    refine ⟨ta_Mop h hK ha.hd (hv x (List.mem_cons_self ..)) (hc x (List.mem_cons_self ..)), ?_⟩
    exact ta_Mcode h hK o (p + 1) (fun y hy => hv y (List.mem_cons_of_mem _ hy)) (fun y hy => hc y (List.mem_cons_of_mem _ hy)) ha.tl
end TBYD
