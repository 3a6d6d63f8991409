/-! NAMES, FAULTS 3 to 6 -/
/-- the first of that name -/
def ty_fi (T : List tw_Tk) (L : List Nat) : List Nat → Nat → Option Nat
  | [], _ => none
  | t :: ts, i => if ty_Lt T t = L then some i else ty_fi T L ts (i + 1)
theorem ty_fi_lt {T : List tw_Tk} {L : List Nat} : ∀ (l : List Nat) (i j : Nat), ty_fi T L l i = some j → i ≤ j ∧ j < i + l.length
  | [], i, j, h => by cases h
  | t :: ts, i, j, h => by
    unfold ty_fi at h
    by_cases c : ty_Lt T t = L
    · rw [if_pos c] at h; cases h; rw [List.length_cons]; omega
    · rw [if_neg c] at h
      have := ty_fi_lt ts (i + 1) j h
      rw [List.length_cons]; omega
def ty_sn (U : ty_Wo) : List Nat := U.1.map (fun x => x.1)
def ty_kn (U : ty_Wo) : List Nat := U.2.map (fun x => x.1)
def ty_vn (U : ty_Wo) (k : Nat) : List Nat := match U.2[k]? with
  | some K => K.2.1.map (fun x => x.1)
  | none => []
/-- of all FAULTS the first by its place, of one place the least: place and FAULT -/
def ty_st (T : List tw_Tk) (n : Nat) (acc : Option (Nat × Nat)) (e : Nat × Nat) : Option (Nat × Nat) := match acc with
  | none => some (ty_Pl T n e.2, e.1)
  | some m => if ty_Pl T n e.2 < m.1 ∨ ty_Pl T n e.2 = m.1 ∧ e.1 < m.2 then some (ty_Pl T n e.2, e.1) else some m
def ty_mn (T : List tw_Tk) (n : Nat) (acc : Option (Nat × Nat)) (l : List (Nat × Nat)) : Option (Nat × Nat) := l.foldl (ty_st T n) acc
def ty_dup (T : List tw_Tk) (l : List Nat) : List Nat → Nat → List (Nat × Nat)
  | [], _ => []
  | t :: ts, i => (if ty_fi T (ty_Lt T t) l 0 = some i then [] else [(3, t)]) ++ ty_dup T l ts (i + 1)
def ty_dupK (T : List tw_Tk) (sn kn : List Nat) : List Nat → Nat → List (Nat × Nat)
  | [], _ => []
  | t :: ts, i => (if ty_fi T (ty_Lt T t) sn 0 = none ∧ ty_fi T (ty_Lt T t) kn 0 = some i then [] else [(3, t)]) ++ ty_dupK T sn kn ts (i + 1)
def ty_tok (x : Int32) : Nat := x.toNatClampNeg
def ty_scr (U : ty_Wo) (k v : Nat) : Bool := match U.2[k]? with
  | some K => match K.2.1[v]? with
    | some x => x.2.2.2
    | none => false
  | none => false
/-- NAMES become numbers -/
def tz_rv (T : List tw_Tk) (U : ty_Wo) (k : Nat) (x : tz_Cd) : tz_Cd :=
  if x.1 = 23 then ((if ty_fi T (ty_Lt T (ty_tok x.2.1)) (ty_vn U k) 0 = none then 40 else 39), (if ty_fi T (ty_Lt T (ty_tok x.2.1)) (ty_vn U k) 0 = none then tw_en (-nI 1) (ty_fi T (ty_Lt T (ty_tok x.2.1)) (ty_sn U) 0) else tw_en (-nI 1) (ty_fi T (ty_Lt T (ty_tok x.2.1)) (ty_vn U k) 0)), x.2.2)
  else if x.1 = 20 then (20, nI (ty_V T (ty_tok x.2.1)), x.2.2)
  else if x.1 = 21 then (ty_fi T (ty_Lt T (ty_tok x.2.1)) (ty_kn U) 0).elim x (fun o => (21, nI o, tw_en (-nI 1) (ty_fi T (ty_Lt T (ty_tok x.2.2)) (ty_vn U o) 0)))
  else if x.1 = 22 then (22, tw_en (-nI 1) (ty_fi T (ty_Lt T (ty_tok x.2.1)) (ty_kn U) 0), x.2.2)
  else if x.1 = 7 then (7, tw_en (-nI 1) (ty_fi T (ty_Lt T (ty_tok x.2.1)) (ty_vn U k) 0), x.2.2)
  else if x.1 = 11 ∨ x.1 = 12 then (x.1, tw_en (-nI 1) (ty_fi T (ty_Lt T (ty_tok x.2.1)) (ty_vn U k) 0), (tw_en (-nI 1) (ty_fi T (ty_Lt T (ty_tok x.2.2)) (ty_kn U) 0)) * (6 : Int32) + ((ty_fi T (ty_Lt T (ty_tok x.2.2)) (ty_kn U) 0).elim (-nI 1) (fun o => tw_en (-nI 1) (ty_fi T (ty_Lt T (ty_tok x.2.1)) (ty_vn U o) 0))))
  else x
/-- what is amiss with it -/
def tz_ev (T : List tw_Tk) (U : ty_Wo) (k : Nat) (x : tz_Cd) : List (Nat × Nat) :=
  if x.1 = 23 then (if ty_fi T (ty_Lt T (ty_tok x.2.1)) (ty_vn U k) 0 = none ∧ ty_fi T (ty_Lt T (ty_tok x.2.1)) (ty_sn U) 0 = none then [(4, ty_tok x.2.1)] else [])
  else if x.1 = 20 then (if ty_V T (ty_tok x.2.1) < 1 then [(5, ty_tok x.2.1)] else [])
  else if x.1 = 21 then ((ty_fi T (ty_Lt T (ty_tok x.2.1)) (ty_kn U) 0).elim [(4, ty_tok x.2.1)] (fun o => (ty_fi T (ty_Lt T (ty_tok x.2.2)) (ty_vn U o) 0).elim [(4, ty_tok x.2.2)] (fun w => if o ≠ k ∧ ty_scr U o w = true then [(6, ty_tok x.2.2)] else [])))
  else if x.1 = 22 then (if ty_fi T (ty_Lt T (ty_tok x.2.1)) (ty_kn U) 0 = none then [(4, ty_tok x.2.1)] else [])
  else if x.1 = 7 then (if ty_fi T (ty_Lt T (ty_tok x.2.1)) (ty_vn U k) 0 = none then [(4, ty_tok x.2.1)] else [])
  else if x.1 = 11 ∨ x.1 = 12 then ((ty_fi T (ty_Lt T (ty_tok x.2.2)) (ty_kn U) 0).elim [(4, ty_tok x.2.2)] (fun o => if ty_fi T (ty_Lt T (ty_tok x.2.1)) (ty_vn U o) 0 = none then [(4, ty_tok x.2.2)] else [])) ++ (if ty_fi T (ty_Lt T (ty_tok x.2.1)) (ty_vn U k) 0 = none then [(4, ty_tok x.2.1)] else [])
  else []
/-- what stands where a NAME is meant -/
def tz_vc (T : List tw_Tk) (x : tz_Cd) : Prop := x.1 < 100 ∧ (x.1 = 23 ∨ x.1 = 22 ∨ x.1 = 7 → ∃ t, x.2.1 = nI t ∧ ty_nm T t) ∧ (x.1 = 20 → ∃ t, x.2.1 = nI t ∧ ty_K T t = 24 ∧ t < 500) ∧ (x.1 = 21 ∨ x.1 = 11 ∨ x.1 = 12 → (∃ t, x.2.1 = nI t ∧ ty_nm T t) ∧ ∃ t, x.2.2 = nI t ∧ ty_nm T t)
section TZC
variable {v : Nat} {T : List tw_Tk} {n : Nat} {U : ty_Wo}
def tz_fd (acc : Option (Nat × Nat)) (σ : rx_St) : Prop := match acc with
  | none => σ.1 37 2 = nI 0 ∧ σ.1 37 3 = -nI 1
  | some m => σ.1 37 2 = nI m.2 ∧ σ.1 37 3 = nI m.1 ∧ 1 ≤ m.2 ∧ m.2 < 8 ∧ m.1 ≤ 2000
theorem tz_placeOf {σ : rx_St} {t : Nat} (ht : tz_tk T n σ) (h5 : t ≤ 500) (hl : t < T.length) : f_tap_placeOf (nI t) σ = some (nI (ty_Pl T n t)) := by
  unfold f_tap_placeOf
  rw [if_neg (show ¬ nI t < (0 : Int32) by rw [show (0 : Int32) = nI 0 from rfl, tw_lt (by omega) (by omega)]; omega), if_neg (show ¬ (502 : Int32) ≤ nI t by rw [show (502 : Int32) = nI 502 from rfl, tw_le (by omega) (by omega)]; omega), tw_gN (by omega) (by decide), nI_clamp (by omega)]
  congr 1
  unfold ty_Pl
  have e : T[t]? = some T[t] := List.getElem?_eq_getElem hl
  rw [e]
  exact (ht.1.1 t _ h5 e).2.1
theorem tz_find {σ : rx_St} {acc : Option (Nat × Nat)} {k t : Nat} (ht : tz_tk T n σ) (hP : ∀ i, ty_Pl T n i ≤ 2000) (h5 : t ≤ 500) (hl : t < T.length) (hk : 1 ≤ k) (hk8 : k < 8) (h : tz_fd acc σ) : tw_ok (f_chk_find (nI k) (nI t) σ) (fun σ' => tw_fr (fun q j => q = 37 ∧ (j = 2 ∨ j = 3)) σ σ' ∧ tz_fd (ty_st T n acc (k, t)) σ') := by
  have p2 := hP t
  unfold f_chk_find
  rw [tz_placeOf ht h5 hl, Option.bind_some]
  have put : tw_ok (f_chk_find_40 (nI k) (nI (ty_Pl T n t)) σ) (fun σ' => tw_fr (fun q j => q = 37 ∧ (j = 2 ∨ j = 3)) σ σ' ∧ tz_fd (some (ty_Pl T n t, k)) σ') := by
    unfold f_chk_find_40
    rw [tw_some]
    refine ⟨(tw_fr.rf.si (by omega)).si (by omega), ?_, tw_r1s _ _ _ _, hk, hk8, p2⟩
    show (rx_si (rx_si σ 37 2 (nI k)) 37 3 (nI (ty_Pl T n t))).1 37 2 = nI k
    rw [tw_r1n _ _ (by omega), tw_r1s]
  unfold ty_st
  cases acc with
  | none =>
    obtain ⟨h1, h2⟩ := h
    rw [h1, if_pos (show nI 0 = (0 : Int32) from rfl)]
    exact put
  | some m =>
    obtain ⟨h1, h2, h3, h4, h5'⟩ := h
    show tw_ok _ (fun σ' => tw_fr (fun q j => q = 37 ∧ (j = 2 ∨ j = 3)) σ σ' ∧ tz_fd (if ty_Pl T n t < m.1 ∨ ty_Pl T n t = m.1 ∧ k < m.2 then some (ty_Pl T n t, k) else some m) σ')
    rw [h1, h2, if_neg (show ¬ nI m.2 = (0 : Int32) by rw [show (0 : Int32) = nI 0 from rfl, tw_eq (by omega) (by omega)]; omega), tw_ifE (tw_lt (a := ty_Pl T n t) (b := m.1) (by omega) (by omega))]
    have keep : ¬ (ty_Pl T n t < m.1 ∨ ty_Pl T n t = m.1 ∧ k < m.2) → tw_ok (some σ) (fun σ' => tw_fr (fun q j => q = 37 ∧ (j = 2 ∨ j = 3)) σ σ' ∧ tz_fd (if ty_Pl T n t < m.1 ∨ ty_Pl T n t = m.1 ∧ k < m.2 then some (ty_Pl T n t, k) else some m) σ') := fun z => by
      rw [if_neg z, tw_some]
      exact ⟨tw_fr.rf, h1, h2, h3, h4, h5'⟩
    by_cases c1 : ty_Pl T n t < m.1
    · rw [if_pos c1, if_pos (Or.inl c1)]
      exact put
    · rw [if_neg c1, tw_ifE (tw_eq (a := ty_Pl T n t) (b := m.1) (by omega) (by omega))]
      by_cases c2 : ty_Pl T n t = m.1
      · rw [if_pos c2, tw_ifE (tw_le (a := m.2) (b := k) (by omega) (by omega))]
        by_cases c3 : m.2 ≤ k
        · rw [if_pos c3]
          exact keep (fun z => by omega)
        · rw [if_neg c3, if_pos (Or.inr ⟨c2, by omega⟩)]
          exact put
      · rw [if_neg c2]
        exact keep (fun z => by omega)
/-- the packed letters of a NAME -/
theorem tz_name {σ : rx_St} {t : Nat} (ht : tz_tk T n σ) (h : ty_nm T t) : f_tap_valueOf (nI t) σ = some (qL (tw_pk 32 (ty_Lt T t))) ∧ tw_az (ty_Lt T t) ∧ (ty_Lt T t).length ≤ 8 ∧ t < T.length := by
  have hl := ty_K_lt h.1 (by omega)
  have nl := ty_nm_L ht.2 h.1
  refine ⟨?_, nl.1, nl.2, hl⟩
  rw [tz_valueOf (by have := h.2; omega)]
  have e : T[t]? = some T[t] := List.getElem?_eq_getElem hl
  have hk := h.1
  unfold ty_K at hk
  rw [e] at hk
  have hk' : T[t].1 = 23 := hk
  unfold ty_Lt
  rw [e, (ht.1.1 t _ (by have := h.2; omega) e).2.2.2 (by omega)]
theorem tz_cmp {L L' : List Nat} (h : tw_az L) (h8 : L.length ≤ 8) (h' : tw_az L') (h8' : L'.length ≤ 8) : (lg_cmp (qL (tw_pk 32 L)) (qL (tw_pk 32 L')) = (0 : Int32)) = (L = L') := by
  rw [lg_cmp0, qL_inj (tw_pk8 (by omega) (by omega) h h8) (tw_pk8 (by omega) (by omega) h' h8')]
  exact propext ⟨fun z => tw_pk_inj (by omega) h h' z, fun z => by rw [z]⟩
theorem ty_drop {l : List Nat} {i t : Nat} (h : l[i]? = some t) : l.drop i = t :: l.drop (i + 1) := by
  have hi := (List.getElem?_eq_some_iff.mp h).1
  rw [List.drop_eq_getElem_cons hi]
  rw [List.getElem?_eq_getElem hi] at h
  rw [Option.some.inj h]
/-- what stands of the world that was told -/
def tz_wr (v : Nat) (T : List tw_Tk) (U : ty_Wo) (σ : rx_St) : Prop := tz_Sr v T U.1 σ ∧ σ.1 (7 + 14 * v) 3 = nI U.2.length ∧ U.2.length ≤ 5 ∧ tz_Krs v T σ 0 0 U.2
theorem tz_Krs_get {σ : rx_St} : ∀ (Ks : List ty_Ki) (k0 p k : Nat) (K : ty_Ki), tz_Krs v T σ k0 p Ks → Ks[k]? = some K → tz_Kr v T (k0 + k) (p + (tz_kcs p (Ks.take k)).length) (p + (tz_kcs p (Ks.take (k + 1))).length) K σ
  | [], k0, p, k, K, _, h => by cases h
  | K0 :: Ks, k0, p, 0, K, h, e => by
    cases e
    have := h.1
    show tz_Kr v T k0 (p + 0) (p + (tz_rcs p K0.2.2 ++ []).length) K0 σ
    rw [List.append_nil]
    exact this
  | K0 :: Ks, k0, p, k + 1, K, h, e => by
    have := tz_Krs_get Ks (k0 + 1) (p + (tz_rcs p K0.2.2).length) k K h.2 e
    rw [show k0 + (k + 1) = k0 + 1 + k by omega]
    show tz_Kr v T (k0 + 1 + k) (p + (tz_rcs p K0.2.2 ++ tz_kcs (p + (tz_rcs p K0.2.2).length) (Ks.take k)).length) (p + (tz_rcs p K0.2.2 ++ tz_kcs (p + (tz_rcs p K0.2.2).length) (Ks.take (k + 1))).length) K σ
    rw [List.length_append, List.length_append, ← Nat.add_assoc, ← Nat.add_assoc]
    exact this
theorem tz_setN {σ : rx_St} {L : List Nat} (ht : tz_tk T n σ) (hv : ty_vP T U) (hw : tz_wr v T U σ) (hL : tw_az L) (h8 : L.length ≤ 8) : f_chk_settingNamed v (qL (tw_pk 32 L)) σ = some (tw_en (-nI 1) (ty_fi T L (ty_sn U) 0)) := by
  obtain ⟨⟨r1, r2, r3⟩, -⟩ := hw
  have ll : (ty_sn U).length = U.1.length := List.length_map _
  have main : ∀ m i, i ≤ U.1.length → U.1.length - i < m → f_chk_settingNamed_2 v m (qL (tw_pk 32 L)) (nI i) σ = some (tw_en (-nI 1) (ty_fi T L ((ty_sn U).drop i) i)) := by
    intro m
    induction m with
    | zero => intro i _ h; exact absurd h (Nat.not_lt_zero _)
    | succ m ih =>
      intro i hi hm
      unfold f_chk_settingNamed_2
      rw [r1]
      by_cases c : i = U.1.length
      · subst c
        rw [if_pos (tp_yl (by omega) (by omega) (Nat.le_refl _)), List.drop_eq_nil_of_le (by omega)]
        rfl
      · have hx : U.1[i]? = some U.1[i] := List.getElem?_eq_getElem (by omega)
        have vx := (hv.1 _ (List.getElem_mem (show i < U.1.length by omega))).1
        obtain ⟨e1, -⟩ := r3 i _ hx
        obtain ⟨n1, n2, n3, -⟩ := tz_name ht vx
        have hl : (ty_sn U)[i]? = some U.1[i].1 := by unfold ty_sn; rw [List.getElem?_map, hx]; rfl
        rw [if_neg (tp_nl (by omega) (by omega) (by omega)), tw_gN (by omega) (by decide), nI_clamp (by omega), e1, n1, Option.bind_some, tw_ifE (tz_cmp n2 n3 hL h8), ty_drop hl, ty_fi]
        by_cases d : ty_Lt T U.1[i].1 = L
        · rw [if_pos d, if_pos d]; rfl
        · rw [if_neg d, if_neg d, show nI i + (1 : Int32) = nI (i + 1) from nI_add i 1]
          exact ih (i + 1) (by omega) (by omega)
  have := main rx_fu 0 (Nat.zero_le _) (by show _ < 100000; omega)
  rw [List.drop_zero] at this
  exact this
theorem tz_kindN {σ : rx_St} {L : List Nat} (ht : tz_tk T n σ) (hv : ty_vP T U) (hw : tz_wr v T U σ) (hL : tw_az L) (h8 : L.length ≤ 8) : f_chk_kindNamed v (qL (tw_pk 32 L)) σ = some (tw_en (-nI 1) (ty_fi T L (ty_kn U) 0)) := by
  obtain ⟨-, r1, r2, r3⟩ := hw
  have ll : (ty_kn U).length = U.2.length := List.length_map _
  have main : ∀ m i, i ≤ U.2.length → U.2.length - i < m → f_chk_kindNamed_2 v m (qL (tw_pk 32 L)) (nI i) σ = some (tw_en (-nI 1) (ty_fi T L ((ty_kn U).drop i) i)) := by
    intro m
    induction m with
    | zero => intro i _ h; exact absurd h (Nat.not_lt_zero _)
    | succ m ih =>
      intro i hi hm
      unfold f_chk_kindNamed_2
      rw [r1]
      by_cases c : i = U.2.length
      · subst c
        rw [if_pos (tp_yl (by omega) (by omega) (Nat.le_refl _)), List.drop_eq_nil_of_le (by omega)]
        rfl
      · have hx : U.2[i]? = some U.2[i] := List.getElem?_eq_getElem (by omega)
        have vx := (hv.2.2.1 _ (List.getElem_mem (show i < U.2.length by omega))).1
        obtain ⟨e1, -⟩ := tz_Krs_get U.2 0 0 i _ r3 hx
        rw [Nat.zero_add] at e1
        obtain ⟨n1, n2, n3, -⟩ := tz_name ht vx
        have hl : (ty_kn U)[i]? = some U.2[i].1 := by unfold ty_kn; rw [List.getElem?_map, hx]; rfl
        rw [if_neg (tp_nl (by omega) (by omega) (by omega)), tw_gN (by omega) (by decide), nI_clamp (by omega), e1, n1, Option.bind_some, tw_ifE (tz_cmp n2 n3 hL h8), ty_drop hl, ty_fi]
        by_cases d : ty_Lt T U.2[i].1 = L
        · rw [if_pos d, if_pos d]; rfl
        · rw [if_neg d, if_neg d, show nI i + (1 : Int32) = nI (i + 1) from nI_add i 1]
          exact ih (i + 1) (by omega) (by omega)
  have := main rx_fu 0 (Nat.zero_le _) (by show _ < 100000; omega)
  rw [List.drop_zero] at this
  exact this
theorem tz_varN {σ : rx_St} {L : List Nat} {k : Nat} (ht : tz_tk T n σ) (hv : ty_vP T U) (hw : tz_wr v T U σ) (hk : k < U.2.length) (hL : tw_az L) (h8 : L.length ≤ 8) : f_chk_varNamed v (nI k) (qL (tw_pk 32 L)) σ = some (tw_en (-nI 1) (ty_fi T L (ty_vn U k) 0)) := by
  obtain ⟨-, r1, r2, r3⟩ := hw
  have hK : U.2[k]? = some U.2[k] := List.getElem?_eq_getElem hk
  obtain ⟨-, ⟨q1, q2, q3⟩, -⟩ := tz_Krs_get U.2 0 0 k _ r3 hK
  rw [Nat.zero_add] at q1 q3
  have vK := (hv.2.2.1 _ (List.getElem_mem hk)).2.1
  have ev : ty_vn U k = U.2[k].2.1.map (fun x => x.1) := by unfold ty_vn; rw [hK]
  have ll : (ty_vn U k).length = U.2[k].2.1.length := by rw [ev]; exact List.length_map _
  have main : ∀ m i, i ≤ U.2[k].2.1.length → U.2[k].2.1.length - i < m → f_chk_varNamed_16 v m (nI k) (qL (tw_pk 32 L)) (nI i) σ = some (tw_en (-nI 1) (ty_fi T L ((ty_vn U k).drop i) i)) := by
    intro m
    induction m with
    | zero => intro i _ h; exact absurd h (Nat.not_lt_zero _)
    | succ m ih =>
      intro i hi hm
      unfold f_chk_varNamed_16
      rw [tw_gN (by omega) (by decide), nI_clamp (by omega), q1]
      by_cases c : i = U.2[k].2.1.length
      · subst c
        rw [if_pos (tp_yl (by omega) (by omega) (Nat.le_refl _)), List.drop_eq_nil_of_le (by omega)]
        rfl
      · have hx : U.2[k].2.1[i]? = some U.2[k].2.1[i] := List.getElem?_eq_getElem (by omega)
        have vx := (vK _ (List.getElem_mem (show i < U.2[k].2.1.length by omega))).1
        obtain ⟨e1, -⟩ := q3 i _ hx
        obtain ⟨n1, n2, n3, -⟩ := tz_name ht vx
        have hl : (ty_vn U k)[i]? = some U.2[k].2.1[i].1 := by rw [ev, List.getElem?_map, hx]; rfl
        rw [if_neg (tp_nl (by omega) (by omega) (by omega)), show nI k * (6 : Int32) + nI i = nI (k * 6 + i) by rw [show (6 : Int32) = nI 6 from rfl, pk_mul, nI_add], tw_gN (by omega) (by decide), nI_clamp (by omega), e1, n1, Option.bind_some, tw_ifE (tz_cmp n2 n3 hL h8), ty_drop hl, ty_fi]
        by_cases d : ty_Lt T U.2[k].2.1[i].1 = L
        · rw [if_pos d, if_pos d]; rfl
        · rw [if_neg d, if_neg d, show nI i + (1 : Int32) = nI (i + 1) from nI_add i 1]
          exact ih (i + 1) (by omega) (by omega)
  have := main rx_fu 0 (Nat.zero_le _) (by show _ < 100000; omega)
  rw [List.drop_zero] at this
  unfold f_chk_varNamed f_wor_hasKind
  rw [r1, if_neg (show ¬ nI k < (0 : Int32) by rw [show (0 : Int32) = nI 0 from rfl, tw_lt (by omega) (by omega)]; omega), if_neg (tp_nl (by omega) (by omega) (by omega)), if_neg (by decide)]
  exact this
theorem tz_varNm {σ : rx_St} {x : Int64} (hw : tz_wr v T U σ) : f_chk_varNamed v (-nI 1) x σ = some (-nI 1) := by
  unfold f_chk_varNamed f_wor_hasKind
  rw [if_pos (show -nI 1 < (0 : Int32) by decide), if_pos rfl]
  rfl
end TZC
