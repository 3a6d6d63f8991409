/-! THE MODEL READS: a KIND's NAME -/
def ta_kn (lv : Nat) (T : List tw_Tk) (KN : List Nat) (σ : rx_St) : Prop := σ.1 98 lv = nI KN.length ∧ KN.length ≤ 5 ∧ ∀ (i t : Nat), KN[i]? = some t → σ.2 99 (5 * lv + i) = qL (tw_pk 27 (ty_Lt T t)) ∧ ty_nm T t
theorem ta_kn.fr {lv : Nat} {T : List tw_Tk} {KN : List Nat} {σ σ' : rx_St} (h : ta_kn lv T KN σ) (f : ∀ q j, q = 98 ∧ j = lv ∨ q = 99 ∧ 5 * lv ≤ j ∧ j < 5 * lv + KN.length → σ'.1 q j = σ.1 q j ∧ σ'.2 q j = σ.2 q j) : ta_kn lv T KN σ' := by
  obtain ⟨h1, h2, h3⟩ := h
  refine ⟨(f _ _ (by omega)).1.trans h1, h2, fun i t ht => ?_⟩
  have il := (List.getElem?_eq_some_iff.mp ht).1
  obtain ⟨a, b⟩ := h3 i t ht
  exact ⟨(f _ _ (by omega)).2.trans a, b⟩
def ta_ne (T : List tw_Tk) (SN KN : List Nat) (t : Nat) : List (Nat × Nat) := if ty_fi T (ty_Lt T t) SN 0 = none ∧ ty_fi T (ty_Lt T t) KN 0 = none then [] else [(3, t)]
section TBN
variable {T : List tw_Tk} {n : Nat}
/-- is it named so far? -/
theorem ta_named {σ : rx_St} {lv : Nat} {SN KN L : List Nat} (hl : lv ≤ 1) (h19 : σ.1 87 19 = nI lv) (hs : ta_sn lv T SN σ) (hk : ta_kn lv T KN σ) (hT : ∀ (i : Nat) (x : tw_Tk), T[i]? = some x → tw_tkok x) (hL : tw_az L) (h8 : L.length ≤ 8) : f_m_isNamed (qL (tw_pk 27 L)) σ = some (if ty_fi T L SN 0 = none ∧ ty_fi T L KN 0 = none then (0 : Int32) else (1 : Int32)) := by
  obtain ⟨h1, h2, h3⟩ := hs
  obtain ⟨k1, k2, k3⟩ := hk
  have inner : ∀ m i, i ≤ KN.length → KN.length - i < m → f_m_isNamed_44 m (qL (tw_pk 27 L)) (nI i) σ = some (if ty_fi T L (KN.drop i) i = none then (0 : Int32) else (1 : Int32)) := by
    intro m
    induction m with
    | zero => intro i _ h; exact absurd h (Nat.not_lt_zero _)
    | succ m ih =>
      intro i hi hm
      unfold f_m_isNamed_44
      rw [h19, tw_gN (by omega) (by decide), nI_clamp (by omega), k1]
      by_cases c : i = KN.length
      · subst c
        rw [if_pos (tp_yl (by omega) (by omega) (Nat.le_refl _)), List.drop_eq_nil_of_le (by omega)]
        rfl
      · have hl : KN[i]? = some KN[i] := List.getElem?_eq_getElem (by omega)
        obtain ⟨e1, e2⟩ := k3 i _ hl
        have nl := ty_nm_L hT e2.1
        rw [if_neg (tp_nl (by omega) (by omega) (by omega)), show (5 : Int32) * nI lv + nI i = nI (5 * lv + i) by rw [show (5 : Int32) = nI 5 from rfl, pk_mul, nI_add], tw_gN (by omega) (by decide), nI_clamp (by omega), e1, tw_ifE (tm_cmp nl.1 nl.2 hL h8), ty_drop hl, ty_fi]
        by_cases d : ty_Lt T KN[i] = L
        · rw [if_pos d, if_pos d, if_neg (fun z => by cases z)]
        · rw [if_neg d, if_neg d, show nI i + (1 : Int32) = nI (i + 1) from nI_add i 1]
          exact ih (i + 1) (by omega) (by omega)
  have main : ∀ m i, i ≤ SN.length → SN.length - i < m → f_m_isNamed_2 m (qL (tw_pk 27 L)) (nI i) σ = some (if ty_fi T L (SN.drop i) i = none ∧ ty_fi T L KN 0 = none then (0 : Int32) else (1 : Int32)) := by
    intro m
    induction m with
    | zero => intro i _ h; exact absurd h (Nat.not_lt_zero _)
    | succ m ih =>
      intro i hi hm
      unfold f_m_isNamed_2
      rw [h19, tw_gN (by omega) (by decide), nI_clamp (by omega), h1]
      by_cases c : i = SN.length
      · subst c
        have := inner rx_fu 0 (Nat.zero_le _) (by show _ < 100000; omega)
        rw [List.drop_zero] at this
        rw [if_pos (tp_yl (by omega) (by omega) (Nat.le_refl _)), List.drop_eq_nil_of_le (by omega), show (0 : Int32) = nI 0 from rfl, this]
        congr 1
        by_cases d : ty_fi T L KN 0 = none
        · rw [if_pos d, if_pos ⟨rfl, d⟩]; rfl
        · rw [if_neg d, if_neg (fun z => d z.2)]
      · have hl : SN[i]? = some SN[i] := List.getElem?_eq_getElem (by omega)
        obtain ⟨e1, e2⟩ := h3 i _ hl
        have nl := ty_nm_L hT e2.1
        rw [if_neg (tp_nl (by omega) (by omega) (by omega)), show (6 : Int32) * nI lv + nI i = nI (6 * lv + i) by rw [show (6 : Int32) = nI 6 from rfl, pk_mul, nI_add], tw_gN (by omega) (by decide), nI_clamp (by omega), e1, tw_ifE (tm_cmp nl.1 nl.2 hL h8), ty_drop hl, ty_fi]
        by_cases d : ty_Lt T SN[i] = L
        · rw [if_pos d, if_pos d, if_neg (fun z => by cases z.1)]
        · rw [if_neg d, if_neg d, show nI i + (1 : Int32) = nI (i + 1) from nI_add i 1]
          exact ih (i + 1) (by omega) (by omega)
  have := main rx_fu 0 (Nat.zero_le _) (by show _ < 100000; omega)
  rw [List.drop_zero] at this
  exact this
/-- between the KINDS -/
def ta_ou (lv : Nat) (T : List tw_Tk) (n : Nat) (s : ty_Ps) (SN KN : List Nat) (C : List tz_Cd) (Q : List ta_Qu) (acc : Option (Nat × Nat)) (L : List ta_Lr) (σ : rx_St) : Prop := tm_tk T n σ ∧ tm_rs T n s σ ∧ (s.1 = 0 → (σ.1 87 19 = nI lv ∧ lv ≤ 1) ∧ ta_sn lv T SN σ ∧ ta_kn lv T KN σ ∧ ta_gd lv T n C Q acc σ ∧ C.length + Q.length + 2 * L.length ≤ s.2 ∧ σ.1 87 12 = nI 0 ∧ ta_lr lv L σ)
variable {lv : Nat} {SN KN : List Nat} {C : List tz_Cd} {Q : List ta_Qu} {acc : Option (Nat × Nat)} {L : List ta_Lr}
theorem ta_ou.of1 {s s' : ty_Ps} {σ σ' : rx_St} (h : ta_ou lv T n s SN KN C Q acc L σ) (f : tw_fr ta_S1 σ σ') (r : tm_rs T n s' σ') (z : s'.1 = 0 → s.1 = 0 ∧ s.2 ≤ s'.2) : ta_ou lv T n s' SN KN C Q acc L σ' := by
  obtain ⟨h1, h2, h3⟩ := h
  refine ⟨h1.fr (fun q j a b => ⟨f.i (by unfold ta_S1; omega), f.l (by unfold ta_S1; omega)⟩), r, fun y => ?_⟩
  obtain ⟨z1, z2⟩ := z y
  obtain ⟨⟨a1, a1'⟩, a2, a3, a4, a5, a6, a7⟩ := h3 z1
  exact ⟨⟨(f.i (by unfold ta_S1; omega)).trans a1, a1'⟩, a2.fr (fun q j a => f q j (by unfold ta_S1; omega)), a3.fr (fun q j a => f q j (by unfold ta_S1; omega)), a4.fr (fun q j a => f.i (by unfold ta_S1; omega)), by omega, (f.i (by unfold ta_S1; omega)).trans a6, a7.fr (fun q j a => f.i (by unfold ta_S1; omega))⟩
theorem ta_ou.bad {s : ty_Ps} {SN' KN' : List Nat} {C' : List tz_Cd} {Q' : List ta_Qu} {acc' : Option (Nat × Nat)} {L' : List ta_Lr} {σ : rx_St} (h : ta_ou lv T n s SN KN C Q acc L σ) (hs : ¬ s.1 = 0) : ta_ou lv T n s SN' KN' C' Q' acc' L' σ := ⟨h.1, h.2.1, fun z => absurd z hs⟩
theorem ta_ou.mu {s : ty_Ps} {σ : rx_St} {m : Int32} (k : Nat) (hm : m = nI (tw_km k)) (hk : k < 37) (h : ta_ou lv T n s SN KN C Q acc L σ) : tw_ok (f_m_must m σ) (fun σ' => tw_fr ta_S1 σ σ' ∧ ta_ou lv T n (ty_tkn T k s) SN KN C Q acc L σ') := by
  refine tw_mono (tm_must k hm hk h.1 h.2.1) (fun σ' g => ⟨g.1, h.of1 g.1 g.2 (fun z => ?_)⟩)
  obtain ⟨a, -, -, b⟩ := ty_tkn_0 z
  exact ⟨a, by omega⟩
theorem ta_ou.nx {s : ty_Ps} {σ : rx_St} (k : Nat) (hk : k ≠ 37) (hs : s.1 = 0 → ty_K T s.2 = k) (h : ta_ou lv T n s SN KN C Q acc L σ) : tw_ok (f_m_next σ) (fun σ' => tw_fr ta_S1 σ σ' ∧ ta_ou lv T n (ty_tkn T k s) SN KN C Q acc L σ') := by
  refine tw_mono (tm_next k hk hs h.1 h.2.1) (fun σ' g => ⟨g.1, h.of1 g.1 g.2 (fun z => ?_)⟩)
  obtain ⟨a, -, -, b⟩ := ty_tkn_0 z
  exact ⟨a, by omega⟩
theorem ta_ou.wr {s : ty_Ps} {k t : Nat} {m : Int32} {σ : rx_St} (hm : m = nI k) (hP : ∀ i, ty_Pl T n i ≤ 2000) (hs : s.1 = 0) (h5 : t ≤ 500) (hl : t ≤ T.length) (hk : 1 ≤ k) (hk8 : k < 8) (h : ta_ou lv T n s SN KN C Q acc L σ) : tw_ok (f_m_wrong m (nI t) σ) (fun σ' => tw_fr ta_S5 σ σ' ∧ ta_ou lv T n s SN KN C Q (ty_st T n acc (k, t)) L σ') := by
  obtain ⟨h1, h2, h3⟩ := h
  obtain ⟨⟨a1, a1'⟩, a2, a3, a4, a5, a6, a7⟩ := h3 hs
  refine tw_mono (tm_wrong hm hP h1 h2 hs h5 hl hk hk8 a4.2.2) (fun σ' g => ?_)
  obtain ⟨f, w⟩ := g
  obtain ⟨⟨q1, q2⟩, ⟨q3, q4⟩, -⟩ := a4
  refine ⟨f, h1.fr (fun q j a b => f q j (by unfold ta_S5; omega)), h2.fr (fun j a => f.i (by unfold ta_S5; omega)), fun _ => ⟨⟨(f.i (by unfold ta_S5; omega)).trans a1, a1'⟩, a2.fr (fun q j a => f q j (by unfold ta_S5; omega)), a3.fr (fun q j a => f q j (by unfold ta_S5; omega)), ⟨⟨(f.i (by unfold ta_S5; omega)).trans q1, fun p x hx => ?_⟩, ⟨(f.i (by unfold ta_S5; omega)).trans q3, fun p x hx => ?_⟩, w⟩, a5, (f.i (by unfold ta_S5; omega)).trans a6, a7.fr (fun q j a => f.i (by unfold ta_S5; omega))⟩⟩
  · obtain ⟨a, b, e⟩ := q2 p x hx
    exact ⟨(f.i (by unfold ta_S5; omega)).trans a, (f.i (by unfold ta_S5; omega)).trans b, (f.i (by unfold ta_S5; omega)).trans e⟩
  · obtain ⟨a, b, e, e2, e3⟩ := q4 p x hx
    exact ⟨(f.i (by unfold ta_S5; omega)).trans a, (f.i (by unfold ta_S5; omega)).trans b, (f.i (by unfold ta_S5; omega)).trans e, (f.i (by unfold ta_S5; omega)).trans e2, fun y => (f.i (by unfold ta_S5; omega)).trans (e3 y)⟩
end TBN
