/-! THE MODEL READS: what it knows while it reads a RULE -/
def ta_sn (lv : Nat) (T : List tw_Tk) (SN : List Nat) (σ : rx_St) : Prop := σ.1 95 lv = nI SN.length ∧ SN.length ≤ 6 ∧ ∀ (i t : Nat), SN[i]? = some t → σ.2 96 (6 * lv + i) = qL (tw_pk 27 (ty_Lt T t)) ∧ ty_nm T t
def ta_vn (kk : Nat) (T : List tw_Tk) (VN : List Nat) (σ : rx_St) : Prop := σ.1 100 kk = nI VN.length ∧ VN.length ≤ 6 ∧ ∀ (i t : Nat), VN[i]? = some t → σ.2 101 (6 * kk + i) = qL (tw_pk 27 (ty_Lt T t)) ∧ ty_nm T t
/-- side, KIND, SETTINGS and VARS told so far -/
abbrev ta_X : Type := Nat × Nat × List Nat × List Nat
def ta_cx (X : ta_X) (T : List tw_Tk) (n : Nat) (σ : rx_St) : Prop := tm_tk T n σ ∧ (σ.1 87 19 = nI X.1 ∧ X.1 ≤ 1) ∧ (σ.1 87 56 = nI X.2.1 ∧ X.2.1 < 10) ∧ ta_sn X.1 T X.2.2.1 σ ∧ ta_vn X.2.1 T X.2.2.2 σ
/-- what a question is: sort, where, KIND, the NAMES -/
abbrev ta_Qu : Type := Nat × Nat × Nat × Nat × Nat
def ta_gd (lv : Nat) (T : List tw_Tk) (n : Nat) (C : List tz_Cd) (Q : List ta_Qu) (acc : Option (Nat × Nat)) (σ : rx_St) : Prop := (σ.1 87 46 = nI (700 * lv + C.length) ∧ ∀ (p : Nat) (x : tz_Cd), C[p]? = some x → σ.1 120 (700 * lv + p) = nI x.1 ∧ σ.1 121 (700 * lv + p) = x.2.1 ∧ σ.1 122 (700 * lv + p) = x.2.2) ∧ (σ.1 87 50 = nI Q.length ∧ ∀ (p : Nat) (x : ta_Qu), Q[p]? = some x → σ.1 123 p = nI x.1 ∧ σ.1 124 p = nI x.2.1 ∧ σ.1 125 p = nI x.2.2.1 ∧ σ.1 126 p = nI x.2.2.2.1 ∧ (x.1 ≠ 1 → σ.1 127 p = nI x.2.2.2.2)) ∧ tm_fd acc σ
def ta_SE (lv q j : Nat) : Prop := q = 87 ∧ (11 ≤ j ∧ j ≤ 16 ∨ j = 46 ∨ j = 50 ∨ j = 58) ∨ 120 ≤ q ∧ q ≤ 122 ∧ 700 * lv ≤ j ∧ j < 700 * lv + 700 ∨ 123 ≤ q ∧ q ≤ 128
theorem ta_cx.fr {X : ta_X} {T : List tw_Tk} {n : Nat} {σ σ' : rx_St} (h : ta_cx X T n σ) (f : tw_fr (ta_SE X.1) σ σ') : ta_cx X T n σ' := by
  obtain ⟨h1, ⟨h2, h3⟩, ⟨h4, h5⟩, ⟨h6, h7, h8⟩, ⟨h9, h10, h11⟩⟩ := h
  refine ⟨h1.fr (fun q j a b => ⟨f.i (by unfold ta_SE; omega), f.l (by unfold ta_SE; omega)⟩), ⟨(f.i (by unfold ta_SE; omega)).trans h2, h3⟩, ⟨(f.i (by unfold ta_SE; omega)).trans h4, h5⟩, ⟨(f.i (by unfold ta_SE; omega)).trans h6, h7, fun i t ht => ?_⟩, ⟨(f.i (by unfold ta_SE; omega)).trans h9, h10, fun i t ht => ?_⟩⟩
  · obtain ⟨a, b⟩ := h8 i t ht
    exact ⟨(f.l (by unfold ta_SE; omega)).trans a, b⟩
  · obtain ⟨a, b⟩ := h11 i t ht
    exact ⟨(f.l (by unfold ta_SE; omega)).trans a, b⟩
theorem ta_gd.fr {lv : Nat} {T : List tw_Tk} {n : Nat} {C : List tz_Cd} {Q : List ta_Qu} {acc : Option (Nat × Nat)} {σ σ' : rx_St} (h : ta_gd lv T n C Q acc σ) (f : ∀ q j, q = 87 ∧ (j = 15 ∨ j = 16 ∨ j = 46 ∨ j = 50) ∨ 120 ≤ q ∧ q ≤ 127 → σ'.1 q j = σ.1 q j) : ta_gd lv T n C Q acc σ' := by
  obtain ⟨⟨h1, h2⟩, ⟨h3, h4⟩, h5⟩ := h
  refine ⟨⟨(f _ _ (by omega)).trans h1, fun p x hx => ?_⟩, ⟨(f _ _ (by omega)).trans h3, fun p x hx => ?_⟩, h5.fr (fun j a => f _ _ (by omega))⟩
  · obtain ⟨a, b, c⟩ := h2 p x hx
    exact ⟨(f _ _ (by omega)).trans a, (f _ _ (by omega)).trans b, (f _ _ (by omega)).trans c⟩
  · obtain ⟨a, b, c, d, e⟩ := h4 p x hx
    exact ⟨(f _ _ (by omega)).trans a, (f _ _ (by omega)).trans b, (f _ _ (by omega)).trans c, (f _ _ (by omega)).trans d, fun z => (f _ _ (by omega)).trans (e z)⟩
section TAE
variable {X : ta_X} {T : List tw_Tk} {n : Nat}
/-- emitting, whatever stands there -/
theorem ta_emit0 {σ : rx_St} {lv c : Nat} (a b : Int32) (hlv : lv ≤ 1) (h : σ.1 87 46 = nI (700 * lv + c)) (hc : c < 700) : tw_ok (f_m_emit a b σ) (fun σ' => tw_fr (fun q j => q = 87 ∧ j = 46 ∨ 120 ≤ q ∧ q ≤ 122 ∧ j = 700 * lv + c) σ σ' ∧ σ'.1 87 46 = nI (700 * lv + (c + 1)) ∧ σ'.1 120 (700 * lv + c) = a ∧ σ'.1 121 (700 * lv + c) = b ∧ σ'.1 122 (700 * lv + c) = nI 0) := by
  unfold f_m_emit
  simp (disch := omega) only [tw_L, tw_gN, tw_cl, tw_le, tw_lt, tw_eq, nI_add, pk_mul, tw_sub, tw_B0, tw_B1, tw_nb0, tw_nb1, tw_r1s, tw_r1n, if_true, if_false, Nat.le_refl, Nat.reduceEqDiff, Nat.reduceLeDiff, Nat.reduceLT, reduceIte, h]
  rw [tw_some]
  refine ⟨(((tw_fr.rf.si (by omega)).si (by omega)).si (by omega)).si (by omega), ?_, ?_, ?_, ?_⟩
  · rw [tw_r1s]; rfl
  · simp (disch := omega) only [tw_L, tw_gN, tw_cl, tw_le, tw_lt, tw_eq, nI_add, pk_mul, tw_sub, tw_B0, tw_B1, tw_nb0, tw_nb1, tw_r1s, tw_r1n, if_true, if_false, Nat.le_refl, Nat.reduceEqDiff, Nat.reduceLeDiff, Nat.reduceLT, reduceIte]
  · simp (disch := omega) only [tw_L, tw_gN, tw_cl, tw_le, tw_lt, tw_eq, nI_add, pk_mul, tw_sub, tw_B0, tw_B1, tw_nb0, tw_nb1, tw_r1s, tw_r1n, if_true, if_false, Nat.le_refl, Nat.reduceEqDiff, Nat.reduceLeDiff, Nat.reduceLT, reduceIte]
  · simp (disch := omega) only [tw_L, tw_gN, tw_cl, tw_le, tw_lt, tw_eq, nI_add, pk_mul, tw_sub, tw_B0, tw_B1, tw_nb0, tw_nb1, tw_r1s, tw_r1n, if_true, if_false, Nat.le_refl, Nat.reduceEqDiff, Nat.reduceLeDiff, Nat.reduceLT, reduceIte]
theorem ta_gd.em {lv : Nat} {C : List tz_Cd} {Q : List ta_Qu} {acc : Option (Nat × Nat)} {σ : rx_St} {m : Int32} (k : Nat) (b : Int32) (hm : m = nI k) (hlv : lv ≤ 1) (hC : C.length < 700) (h : ta_gd lv T n C Q acc σ) : tw_ok (f_m_emit m b σ) (fun σ' => tw_fr (fun q j => q = 87 ∧ j = 46 ∨ 120 ≤ q ∧ q ≤ 122 ∧ 700 * lv ≤ j ∧ j < 700 * lv + 700) σ σ' ∧ ta_gd lv T n (C ++ [(k, b, nI 0)]) Q acc σ') := by
  obtain ⟨⟨h1, h2⟩, ⟨h3, h4⟩, h5⟩ := h
  refine tw_mono (ta_emit0 m b hlv h1 hC) (fun σ' g => ?_)
  obtain ⟨g1, g2, g3, g4, g5⟩ := g
  refine ⟨g1.mn (fun q j z => by omega), ⟨?_, fun p x hx => ?_⟩, ⟨(g1.i (by omega)).trans h3, fun p x hx => ?_⟩, h5.fr (fun j a => g1.i (by omega))⟩
  · rw [List.length_append]; exact g2
  · rcases tw_app hx with ⟨hp, hx⟩ | ⟨hp, rfl⟩
    · obtain ⟨r1, r2, r3⟩ := h2 p x hx
      exact ⟨(g1.i (by omega)).trans r1, (g1.i (by omega)).trans r2, (g1.i (by omega)).trans r3⟩
    · subst hp
      exact ⟨g3.trans hm, g4, g5⟩
  · obtain ⟨a, b, c, d, e⟩ := h4 p x hx
    exact ⟨(g1.i (by omega)).trans a, (g1.i (by omega)).trans b, (g1.i (by omega)).trans c, (g1.i (by omega)).trans d, fun z => (g1.i (by omega)).trans (e z)⟩
theorem ta_gd.ask {lv kk : Nat} {C : List tz_Cd} {Q : List ta_Qu} {acc : Option (Nat × Nat)} {σ : rx_St} {m e : Int32} (k p t t' : Nat) (hm : m = nI k) (he : k ≠ 1 → e = nI t') (h56 : σ.1 87 56 = nI kk) (hQ : Q.length < 500) (h : ta_gd lv T n C Q acc σ) : tw_ok (f_m_asks m (nI p) (nI t) e σ) (fun σ' => tw_fr (fun q j => q = 87 ∧ j = 50 ∨ 123 ≤ q ∧ q ≤ 127) σ σ' ∧ ta_gd lv T n C (Q ++ [(k, p, kk, t, t')]) acc σ') := by
  obtain ⟨⟨h1, h2⟩, ⟨h3, h4⟩, h5⟩ := h
  unfold f_m_asks
  simp (disch := omega) only [tw_L, tw_gN, tw_cl, tw_le, tw_lt, tw_eq, nI_add, pk_mul, tw_sub, tw_B0, tw_B1, tw_nb0, tw_nb1, tw_r1s, tw_r1n, if_true, if_false, Nat.le_refl, Nat.reduceEqDiff, Nat.reduceLeDiff, Nat.reduceLT, reduceIte, h3, h56]
  rw [tw_some]
  refine ⟨(((((tw_fr.rf.si (by omega)).si (by omega)).si (by omega)).si (by omega)).si (by omega)).si (by omega), ⟨?_, fun p x hx => ?_⟩, ⟨?_, fun p x hx => ?_⟩, h5.fr (fun j a => by
    rw [tw_r1n _ _ (by omega), tw_r1n _ _ (by omega), tw_r1n _ _ (by omega), tw_r1n _ _ (by omega), tw_r1n _ _ (by omega), tw_r1n _ _ (by omega)])⟩
  · simp (disch := omega) only [tw_L, tw_gN, tw_cl, tw_le, tw_lt, tw_eq, nI_add, pk_mul, tw_sub, tw_B0, tw_B1, tw_nb0, tw_nb1, tw_r1s, tw_r1n, if_true, if_false, Nat.le_refl, Nat.reduceEqDiff, Nat.reduceLeDiff, Nat.reduceLT, reduceIte, h1]
  · obtain ⟨a, b, c⟩ := h2 p x hx
    simp (disch := omega) only [tw_L, tw_gN, tw_cl, tw_le, tw_lt, tw_eq, nI_add, pk_mul, tw_sub, tw_B0, tw_B1, tw_nb0, tw_nb1, tw_r1s, tw_r1n, if_true, if_false, Nat.le_refl, Nat.reduceEqDiff, Nat.reduceLeDiff, Nat.reduceLT, reduceIte, a, b, c]
    exact ⟨trivial, trivial, trivial⟩
  · rw [tw_r1s, List.length_append]; rfl
  · rcases tw_app hx with ⟨hp, hx⟩ | ⟨hp, rfl⟩
    · obtain ⟨a, b, c, d, f⟩ := h4 p x hx
      simp (disch := omega) only [tw_L, tw_gN, tw_cl, tw_le, tw_lt, tw_eq, nI_add, pk_mul, tw_sub, tw_B0, tw_B1, tw_nb0, tw_nb1, tw_r1s, tw_r1n, if_true, if_false, Nat.le_refl, Nat.reduceEqDiff, Nat.reduceLeDiff, Nat.reduceLT, reduceIte, a, b, c, d]
      exact ⟨trivial, trivial, trivial, trivial, f⟩
    · subst hp
      simp (disch := omega) only [tw_L, tw_gN, tw_cl, tw_le, tw_lt, tw_eq, nI_add, pk_mul, tw_sub, tw_B0, tw_B1, tw_nb0, tw_nb1, tw_r1s, tw_r1n, if_true, if_false, Nat.le_refl, Nat.reduceEqDiff, Nat.reduceLeDiff, Nat.reduceLT, reduceIte]
      exact ⟨hm, trivial, trivial, trivial, he⟩
/-- a VAR of the KIND that is told -/
theorem ta_varOf {σ : rx_St} {kk : Nat} {VN : List Nat} {L : List Nat} (hk : kk < 10) (hv : ta_vn kk T VN σ) (hT : ∀ (i : Nat) (x : tw_Tk), T[i]? = some x → tw_tkok x) (hL : tw_az L) (h8 : L.length ≤ 8) : f_m_varOf (nI kk) (qL (tw_pk 27 L)) σ = some (tw_en (-nI 1) (ty_fi T L VN 0)) := by
  obtain ⟨h1, h2, h3⟩ := hv
  have main : ∀ m i, i ≤ VN.length → VN.length - i < m → f_m_varOf_3 m (nI kk) (qL (tw_pk 27 L)) (nI i) σ = some (tw_en (-nI 1) (ty_fi T L (VN.drop i) i)) := by
    intro m
    induction m with
    | zero => intro i _ h; exact absurd h (Nat.not_lt_zero _)
    | succ m ih =>
      intro i hi hm
      unfold f_m_varOf_3
      rw [tw_gN (by omega) (by decide), nI_clamp (by omega), h1]
      by_cases c : i = VN.length
      · subst c
        rw [if_pos (tp_yl (by omega) (by omega) (Nat.le_refl _)), List.drop_eq_nil_of_le (by omega)]
        rfl
      · have hl : VN[i]? = some VN[i] := List.getElem?_eq_getElem (by omega)
        obtain ⟨e1, e2⟩ := h3 i _ hl
        have nl := ty_nm_L hT e2.1
        rw [if_neg (tp_nl (by omega) (by omega) (by omega)), show (6 : Int32) * nI kk + nI i = nI (6 * kk + i) by rw [show (6 : Int32) = nI 6 from rfl, pk_mul, nI_add], tw_gN (by omega) (by decide), nI_clamp (by omega), e1, tw_ifE (tm_cmp nl.1 nl.2 hL h8), ty_drop hl, ty_fi]
        by_cases d : ty_Lt T VN[i] = L
        · rw [if_pos d, if_pos d]; rfl
        · rw [if_neg d, if_neg d, show nI i + (1 : Int32) = nI (i + 1) from nI_add i 1]
          exact ih (i + 1) (by omega) (by omega)
  have := main rx_fu 0 (Nat.zero_le _) (by show _ < 100000; omega)
  rw [List.drop_zero] at this
  exact this
end TAE
