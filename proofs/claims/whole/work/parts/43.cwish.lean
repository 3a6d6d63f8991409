/-! THE CLASS: a WISH -/
section TC4
variable {r w : Nat} {W : tw_Wo} {N : tw_N} {E : tw_E} {R : tw_R}
/-- the row i of what is wished -/
def tc_ev (σ : rx_St) (i : Nat) (e : tw_Ev) : Prop :=
  (e.1 = 0 → σ.1 46 i = nI 7 ∧ σ.1 47 i = nI e.2.1) ∧ (e.1 = 1 → σ.1 46 i = nI 8) ∧ (e.1 = 2 → σ.1 46 i = nI 9 ∧ σ.1 47 i = nI e.2.1 ∧ σ.1 49 i = tw_opt e.2.2.2.1 ∧ σ.1 50 i = nI e.2.2.2.2) ∧ (3 ≤ e.1 → σ.1 46 i = nI 13) ∧ (e.1 ≤ 2 → σ.1 48 i = e.2.2.1)
def tc_evs (σ : rx_St) : Nat → List tw_Ev → Prop
  | _, [] => True
  | i, e :: es => tc_ev σ i e ∧ tc_evs σ (i + 1) es
theorem tc_ev.fr {σ σ' : rx_St} {i : Nat} {e : tw_Ev} (h : ∀ q, 46 ≤ q → q ≤ 50 → σ'.1 q i = σ.1 q i) (g : tc_ev σ i e) : tc_ev σ' i e := by
  unfold tc_ev
  rw [h 46 (by omega) (by omega), h 47 (by omega) (by omega), h 48 (by omega) (by omega), h 49 (by omega) (by omega), h 50 (by omega) (by omega)]
  exact g
theorem tc_evs.fr {σ σ' : rx_St} : ∀ (es : List tw_Ev) (i : Nat), (∀ q j, 46 ≤ q → q ≤ 50 → i ≤ j → j < i + es.length → σ'.1 q j = σ.1 q j) → tc_evs σ i es → tc_evs σ' i es
  | [], _, _, _ => trivial
  | e :: es, i, h, ⟨g1, g2⟩ => ⟨g1.fr (fun q a b => h q i a b (Nat.le_refl _) (by rw [List.length_cons]; omega)), tc_evs.fr es (i + 1) (fun q j a b c d => h q j a b (by omega) (by rw [List.length_cons]; omega)) g2⟩
theorem tc_evs_app {σ : rx_St} : ∀ (a b : List tw_Ev) (p : Nat), tc_evs σ p (a ++ b) ↔ tc_evs σ p a ∧ tc_evs σ (p + a.length) b
  | [], b, p => ⟨fun h => ⟨trivial, h⟩, fun h => h.2⟩
  | x :: a, b, p => by
    have := tc_evs_app (σ := σ) a b (p + 1)
    rw [List.length_cons, show p + (a.length + 1) = p + 1 + a.length by omega]
    exact ⟨fun ⟨h1, h2⟩ => ⟨⟨h1, (this.mp h2).1⟩, (this.mp h2).2⟩, fun ⟨⟨h1, h2⟩, h3⟩ => ⟨h1, this.mpr ⟨h2, h3⟩⟩⟩
def tc_S3 (o q j : Nat) : Prop := tc_S1 q j ∨ q = 56 ∨ q = 45 ∧ j = o ∨ 46 ≤ q ∧ q ≤ 50 ∧ 48 * o ≤ j ∧ j < 48 * o + 48
def tc_S5 (q j : Nat) : Prop := tc_S1 q j ∨ q = 56
theorem tc_S32 {o : Nat} : ∀ q j, tc_S3 o q j → tc_S2 q j := fun q j h => by unfold tc_S3 tc_S1 at h; unfold tc_S2; omega
theorem tc_S52 : ∀ q j, tc_S5 q j → tc_S2 q j := fun q j h => by unfold tc_S5 tc_S1 at h; unfold tc_S2; omega
theorem tc_S53 {o : Nat} : ∀ q j, tc_S5 q j → tc_S3 o q j := fun q j h => h.elim (fun h => Or.inl h) (fun h => Or.inr (Or.inl h))
theorem tc_S15 : ∀ q j, tc_S1 q j → tc_S5 q j := fun _ _ h => Or.inl h
theorem tc_S13 {o : Nat} : ∀ q j, tc_S1 q j → tc_S3 o q j := fun _ _ h => Or.inl h
def tc_res (σ σ' : rx_St) (o n : Nat) (ev : tw_Ev) (lots : Nat) : Prop := tw_fr (tc_S3 o) σ σ' ∧ tc_inv σ' [] false lots ∧ σ'.1 45 o = nI (n + 1) ∧ tc_ev σ' (48 * o + n) ev ∧ ∀ q j, 46 ≤ q → q ≤ 50 → j ≠ 48 * o + n → σ'.1 q j = σ.1 q j
theorem tc_inv.f5 {σ σ' : rx_St} {br : Bool} {lots : Nat} (h : tc_inv σ [] br lots) (f : ∀ j, j ≤ 8 → σ'.1 51 j = σ.1 51 j) : tc_inv σ' [] br lots :=
  ⟨⟨by rw [f 6 (by omega)]; exact h.1.1, h.1.2⟩, trivial, by rw [f 7 (by omega)]; exact h.2.2.1, by rw [f 8 (by omega)]; exact h.2.2.2⟩
theorem tc_add {σ σ3 : rx_St} {o n : Nat} {a b c d e : Int32} {ev : tw_Ev} {lots : Nat} (ho : o < 20) (hn : n < 48) (h45 : σ.1 45 o = nI n) (f : tw_fr tc_S5 σ σ3) (i : tc_inv σ3 [] false lots)
    (hev : ∀ σ' : rx_St, σ'.1 46 (48 * o + n) = a → σ'.1 47 (48 * o + n) = b → σ'.1 48 (48 * o + n) = c → σ'.1 49 (48 * o + n) = d → σ'.1 50 (48 * o + n) = e → tc_ev σ' (48 * o + n) ev) : ∃ σ', f_wis_add (nI o) a b c d e σ3 = some σ' ∧ tc_res σ σ' o n ev lots := by
  have h3 : σ3.1 45 o = nI n := by rw [f.i (by unfold tc_S5 tc_S1; omega)]; exact h45
  unfold f_wis_add
  simp (disch := omega) only [tw_L, tw_gN, tw_cl, tw_le, tw_lt, tw_eq, nI_add, pk_mul, tw_sub, tw_B0, tw_B1, tw_nb0, tw_nb1, tw_r1s, tw_r1n, if_true, if_false, Nat.le_refl, Nat.reduceEqDiff, Nat.reduceLeDiff, Nat.reduceLT, reduceIte, h3]
  rw [if_pos hn, show o * 48 + n = 48 * o + n by omega]
  refine ⟨_, rfl, (((((((f.mn tc_S53).si ?_).si ?_).si ?_).si ?_).si ?_).si ?_), i.f5 (fun j hj => ?_), tw_r1s _ _ _ _, hev _ ?_ ?_ ?_ ?_ ?_, fun q j h1 h2 h4 => ?_⟩
  · unfold tc_S3; omega
  · unfold tc_S3; omega
  · unfold tc_S3; omega
  · unfold tc_S3; omega
  · unfold tc_S3; omega
  · unfold tc_S3; omega
  · simp (disch := omega) only [tw_L, tw_gN, tw_cl, tw_le, tw_lt, tw_eq, nI_add, pk_mul, tw_sub, tw_B0, tw_B1, tw_nb0, tw_nb1, tw_r1s, tw_r1n, if_true, if_false, Nat.le_refl, Nat.reduceEqDiff, Nat.reduceLeDiff, Nat.reduceLT, reduceIte]
  · simp (disch := omega) only [tw_L, tw_gN, tw_cl, tw_le, tw_lt, tw_eq, nI_add, pk_mul, tw_sub, tw_B0, tw_B1, tw_nb0, tw_nb1, tw_r1s, tw_r1n, if_true, if_false, Nat.le_refl, Nat.reduceEqDiff, Nat.reduceLeDiff, Nat.reduceLT, reduceIte]
  · simp (disch := omega) only [tw_L, tw_gN, tw_cl, tw_le, tw_lt, tw_eq, nI_add, pk_mul, tw_sub, tw_B0, tw_B1, tw_nb0, tw_nb1, tw_r1s, tw_r1n, if_true, if_false, Nat.le_refl, Nat.reduceEqDiff, Nat.reduceLeDiff, Nat.reduceLT, reduceIte]
  · simp (disch := omega) only [tw_L, tw_gN, tw_cl, tw_le, tw_lt, tw_eq, nI_add, pk_mul, tw_sub, tw_B0, tw_B1, tw_nb0, tw_nb1, tw_r1s, tw_r1n, if_true, if_false, Nat.le_refl, Nat.reduceEqDiff, Nat.reduceLeDiff, Nat.reduceLT, reduceIte]
  · simp (disch := omega) only [tw_L, tw_gN, tw_cl, tw_le, tw_lt, tw_eq, nI_add, pk_mul, tw_sub, tw_B0, tw_B1, tw_nb0, tw_nb1, tw_r1s, tw_r1n, if_true, if_false, Nat.le_refl, Nat.reduceEqDiff, Nat.reduceLeDiff, Nat.reduceLT, reduceIte]
  · simp (disch := omega) only [tw_L, tw_gN, tw_cl, tw_le, tw_lt, tw_eq, nI_add, pk_mul, tw_sub, tw_B0, tw_B1, tw_nb0, tw_nb1, tw_r1s, tw_r1n, if_true, if_false, Nat.le_refl, Nat.reduceEqDiff, Nat.reduceLeDiff, Nat.reduceLT, reduceIte]
  · simp (disch := omega) only [tw_L, tw_gN, tw_cl, tw_le, tw_lt, tw_eq, nI_add, pk_mul, tw_sub, tw_B0, tw_B1, tw_nb0, tw_nb1, tw_r1s, tw_r1n, if_true, if_false, Nat.le_refl, Nat.reduceEqDiff, Nat.reduceLeDiff, Nat.reduceLT, reduceIte]
    exact f.i (by unfold tc_S5 tc_S1; omega)
theorem tc_gather_l {o k : Nat} (hon : o < N.1) (hk : k < W.2.length) : ∀ (fuel i : Nat) (σ : rx_St), i ≤ N.1 → N.1 - i < fuel → tc_env r W N E R σ → σ.1 51 9 = nI o → (∀ j q, (tw_others N R o k i)[j]? = some q → σ.1 56 j = nI q) →
    tw_ok (f_cho_gather_5 r fuel (nI k) (nI (tw_others N R o k i).length) (nI i) σ) (fun y => y.1 = nI (tw_others N R o k N.1).length ∧ tw_fr (fun q _ => q = 56) σ y.2 ∧ ∀ j q, (tw_others N R o k N.1)[j]? = some q → y.2.1 56 j = nI q) := by
  intro fuel
  induction fuel with
  | zero => intro i σ h1 h2; exact absurd h2 (Nat.not_lt_zero _)
  | succ n ih =>
    intro i σ hi hf he ho h56
    obtain ⟨⟨e1, e2⟩, e3, e4, e5, e6, e7, e8⟩ := id he
    have hk5 := e7.2.1
    have hlen := tw_oth_le N R o k i
    rw [f_cho_gather_5]
    by_cases hN : i = N.1
    · rw [hN] at h56 ⊢
      simp (disch := omega) only [tw_L, tw_gN, tw_cl, tw_le, tw_lt, tw_eq, nI_add, pk_mul, tw_sub, tw_B0, tw_B1, tw_nb0, tw_nb1, tw_r1s, tw_r1n, if_true, if_false, Nat.le_refl, Nat.reduceEqDiff, Nat.reduceLeDiff, Nat.reduceLT, reduceIte, e1]
      rw [tw_some]
      exact ⟨rfl, tw_fr.rf, h56⟩
    · obtain ⟨⟨g1, g2⟩, g3, ⟨g4, g5⟩, g6, g7⟩ := e3 i (by omega)
      obtain ⟨⟨o1, o2⟩, o3, ⟨o4, o5⟩, o6, o7⟩ := e3 o hon
      have hno : tw_oth N R o k i = false → tw_ok (f_cho_gather_5 r n (nI k) (nI (tw_others N R o k i).length) (nI (i + 1)) σ) (fun y => y.1 = nI (tw_others N R o k N.1).length ∧ tw_fr (fun q _ => q = 56) σ y.2 ∧ ∀ j q, (tw_others N R o k N.1)[j]? = some q → y.2.1 56 j = nI q) := by
        intro hz
        have e0 : tw_others N R o k (i + 1) = tw_others N R o k i := by rw [tw_oth_s, hz, if_neg (by decide)]
        have := ih (i + 1) σ (by omega) (by omega) he ho (by rw [e0]; exact h56)
        rw [e0] at this
        exact this
      simp (disch := omega) only [tw_L, tw_gN, tw_cl, tw_le, tw_lt, tw_eq, nI_add, pk_mul, tw_sub, tw_B0, tw_B1, tw_nb0, tw_nb1, tw_r1s, tw_r1n, if_true, if_false, Nat.le_refl, Nat.reduceEqDiff, Nat.reduceLeDiff, Nat.reduceLT, reduceIte, e1, ho, f_cho_gather_80, g6, g1, g4, o4]
      rw [if_neg (by omega)]
      by_cases h1 : i = o
      · rw [if_pos h1]
        exact hno (by unfold tw_oth; rw [h1]; simp)
      · rw [if_neg h1]
        cases hq : R.2.2 i with
        | true =>
          rw [if_neg (by decide)]
          exact hno (by unfold tw_oth; rw [hq]; simp)
        | false =>
          rw [if_pos rfl]
          by_cases hk2 : N.2.1 i = k
          · rw [if_pos hk2]
            by_cases hp : R.2.1 i = R.2.1 o
            · rw [if_pos hp]
              have hz : tw_oth N R o k i = true := by unfold tw_oth; rw [hq, hk2, hp]; simp [h1]
              have e0 : tw_others N R o k (i + 1) = tw_others N R o k i ++ [i] := by rw [tw_oth_s, hz, if_pos rfl]
              have := ih (i + 1) (rx_si σ 56 (tw_others N R o k i).length (nI i)) (by omega) (by omega) (he.fr (fun q j a => tw_r1n _ _ (by omega))) (by rw [tw_r1n _ _ (by omega)]; exact ho) (fun j q hj => by
                rw [e0] at hj
                by_cases hjl : j < (tw_others N R o k i).length
                · rw [List.getElem?_append_left hjl] at hj
                  rw [tw_r1n _ _ (by omega)]
                  exact h56 j q hj
                · rw [List.getElem?_append_right (by omega)] at hj
                  by_cases hj2 : j = (tw_others N R o k i).length
                  · rw [hj2, Nat.sub_self] at hj
                    have hiq : i = q := by simpa using hj
                    rw [hj2, tw_r1s, hiq]
                  · rw [List.getElem?_eq_none (by rw [List.length_singleton]; omega)] at hj
                    cases hj)
              rw [e0, List.length_append, List.length_singleton] at this
              refine tw_mono this (fun y hy => ⟨hy.1, tw_fr.tr (S := fun q _ => q = 56) (tw_fr.rf.si rfl) hy.2.1, hy.2.2⟩)
            · rw [if_neg hp]
              exact hno (by unfold tw_oth; simp [hp])
          · rw [if_neg hk2]
            exact hno (by unfold tw_oth; simp [hk2])
theorem tc_gather {o k : Nat} {σ : rx_St} (hon : o < N.1) (hk : k < W.2.length) (he : tc_env r W N E R σ) (ho : σ.1 51 9 = nI o) :
    tw_ok (f_cho_gather r (nI k) σ) (fun y => y.1 = nI (tw_others N R o k N.1).length ∧ tw_fr (fun q _ => q = 56) σ y.2 ∧ ∀ j q, (tw_others N R o k N.1)[j]? = some q → y.2.1 56 j = nI q) :=
  tc_gather_l hon hk rx_fu 0 σ (Nat.zero_le _) (by have := he.1.2; show _ < 100000; omega) he ho (fun j q hj => by cases hj)
theorem tc_wish0 {σ : rx_St} {a : Int32} {br : Bool} {lots c : Nat} (hc : c < 13) (A B : Int32) (hi : tc_inv σ [a] br lots) : ∃ σ1, f_cho_wish r (nI c) A B σ = f_cho_wish_43 r (nI c) A B (tw_amt ([a], br, lots)) σ1 ∧ tw_fr tc_S1 σ σ1 ∧ tc_inv σ1 [] br lots := by
  obtain ⟨σ1, p1, f1, i1⟩ := tc_pop hi
  refine ⟨σ1, ?_, f1, i1⟩
  have h7 := i1.2.2.1
  unfold f_cho_wish
  simp (disch := omega) only [tw_L, tw_gN, tw_cl, tw_le, tw_lt, tw_eq, nI_add, pk_mul, tw_sub, tw_B0, tw_B1, tw_nb0, tw_nb1, tw_r1s, tw_r1n, if_true, if_false, Nat.le_refl, Nat.reduceEqDiff, Nat.reduceLeDiff, Nat.reduceLT, reduceIte, p1, Option.bind_some, h7]
  rw [if_neg (by omega)]
  cases br with
  | true => rw [if_neg (by decide)]; rfl
  | false => rw [if_pos rfl]; rfl
theorem tc_141 {σ : rx_St} {o k u j n : Nat} {s0 A : Int32} {X : Option Nat} (ho : σ.1 51 9 = nI o) (hu : u < 6) (hk : k < 5) (hj : j < 20) (hn : n < 21) (h1 : n ≤ j → X = none) (h2 : j < n → ∃ q, X = some q ∧ σ.1 56 j = nI q) :
    f_cho_wish_141 r A (nI (k * 6 + u)) s0 (nI n) (nI j) σ = (f_wis_add (nI o) (nI 9) A s0 (tw_opt X) (nI u) σ).bind fun y1 => some y1 := by
  have hr : rx_irem (nI (k * 6 + u)) (nI 6) = nI u := by rw [tw_rem (by omega) (by omega) (by omega), show (k * 6 + u) % 6 = u by omega]
  unfold f_cho_wish_141 f_cho_wish_172
  simp (disch := omega) only [tw_L, tw_gN, tw_cl, tw_le, tw_lt, tw_eq, nI_add, pk_mul, tw_sub, tw_B0, tw_B1, tw_nb0, tw_nb1, tw_r1s, tw_r1n, if_true, if_false, Nat.le_refl, Nat.reduceEqDiff, Nat.reduceLeDiff, Nat.reduceLT, reduceIte, ho, hr]
  by_cases h : n ≤ j
  · rw [if_pos h, h1 h]
    rfl
  · obtain ⟨q, rfl, h3⟩ := h2 (by omega)
    rw [if_neg h, h3]
    rfl
def tc_wop : Nat → Nat
  | 0 => 7
  | 1 => 8
  | 2 => 11
  | 3 => 12
  | _ => 13
theorem tc_wish {cnt : Bool} {σ : rx_St} {o n lots : Nat} {br : Bool} {a A B : Int32} (hk : tc_ok r w cnt W N E R o σ) (hon : o < N.1) (hi : tc_inv σ [a] br lots) (h45 : σ.1 45 o = nI n) (hn : n < 48) (x : tw_Wi) (hx : x.1 ≤ 3) (hA : x.1 = 0 ∨ x.1 = 2 ∨ x.1 = 3 → A = nI x.2.1) (hB : x.1 = 2 ∨ x.1 = 3 → B = nI (x.2.2.1 * 6 + x.2.2.2.1) ∧ x.2.2.1 < W.2.length ∧ x.2.2.2.1 < 6) (l0 : Nat) (hl : tw_ev N E R o x.2.2.2.2 ([], false, l0) = ([a], br, lots)) :
    ∃ σ', f_cho_wish r (nI (tc_wop x.1)) A B σ = some σ' ∧ tc_res σ σ' o n (tw_wish N E R o x l0).1 (tw_wish N E R o x l0).2 := by
  obtain ⟨s, v, k, u, c⟩ := x
  dsimp only at hx hA hB hl
  have e20 := hk.1.1.2
  have ek5 := hk.1.2.2.2.2.2.1.2.1
  have er := hk.1.2.2.2.2.2.2
  obtain ⟨σ1, p1, f1, i1⟩ := tc_wish0 (r := r) (c := tc_wop s) (by match s, hx with | 0, _ => decide | 1, _ => decide | 2, _ => decide | 3, _ => decide) A B hi
  have i2 := i1.br false
  have f2 : tw_fr tc_S1 σ (rx_si σ1 51 7 (nI 0)) := f1.si (by unfold tc_S1; omega)
  have ho2 : σ1.1 51 9 = nI o := by rw [f1.i (by unfold tc_S1; omega)]; exact hk.2.1
  have k2 := hk.fr f2
  rw [show tc_wop (s, v, k, u, c).1 = tc_wop s from rfl, p1]
  unfold f_cho_wish_43
  match s, hx with
  | 0, _ =>
    simp (disch := omega) only [tw_L, tw_gN, tw_cl, tw_le, tw_lt, tw_eq, nI_add, pk_mul, tw_sub, tw_B0, tw_B1, tw_nb0, tw_nb1, tw_r1s, tw_r1n, if_true, if_false, Nat.le_refl, Nat.reduceEqDiff, Nat.reduceLeDiff, Nat.reduceLT, reduceIte, tc_wop, f_cho_wish_62, ho2]
    obtain ⟨σ', q1, q2⟩ := tc_add (a := nI 7) (b := A) (c := tw_amt ([a], br, lots)) (d := -nI 1) (e := nI 0) (ev := (tw_wish N E R o (0, v, k, u, c) l0).1) (by omega : o < 20) hn h45 (f2.mn tc_S15) i2 (fun σ' r1 r2 r3 r4 r5 => by
      unfold tw_wish
      refine ⟨fun _ => ⟨r1, by rw [r2]; exact hA (Or.inl rfl)⟩, fun h => absurd h (show ¬ (0:Nat) = 1 by decide), fun h => absurd h (show ¬ (0:Nat) = 2 by decide), fun h => absurd h (show ¬ 3 ≤ (0:Nat) by decide), fun _ => by rw [r3]; dsimp only; rw [hl]; rfl⟩)
    rw [q1, Option.bind_some]
    refine ⟨σ', rfl, ?_⟩
    rw [show (tw_wish N E R o (0, v, k, u, c) l0).2 = lots by unfold tw_wish; dsimp only; rw [hl]; rfl]
    exact q2
  | 1, _ =>
    simp (disch := omega) only [tw_L, tw_gN, tw_cl, tw_le, tw_lt, tw_eq, nI_add, pk_mul, tw_sub, tw_B0, tw_B1, tw_nb0, tw_nb1, tw_r1s, tw_r1n, if_true, if_false, Nat.le_refl, Nat.reduceEqDiff, Nat.reduceLeDiff, Nat.reduceLT, reduceIte, tc_wop, f_cho_wish_62, ho2]
    obtain ⟨σ', q1, q2⟩ := tc_add (a := nI 8) (b := A) (c := tw_amt ([a], br, lots)) (d := -nI 1) (e := nI 0) (ev := (tw_wish N E R o (1, v, k, u, c) l0).1) (by omega : o < 20) hn h45 (f2.mn tc_S15) i2 (fun σ' r1 r2 r3 r4 r5 => by
      unfold tw_wish
      refine ⟨fun h => absurd h (show ¬ (1:Nat) = 0 by decide), fun _ => r1, fun h => absurd h (show ¬ (1:Nat) = 2 by decide), fun h => absurd h (show ¬ 3 ≤ (1:Nat) by decide), fun _ => by rw [r3]; dsimp only; rw [hl]; rfl⟩)
    rw [q1, Option.bind_some]
    refine ⟨σ', rfl, ?_⟩
    rw [show (tw_wish N E R o (1, v, k, u, c) l0).2 = lots by unfold tw_wish; dsimp only; rw [hl]; rfl]
    exact q2
  | 2, _ =>
    obtain ⟨b1, b2, b3⟩ := hB (Or.inl rfl)
    subst b1
    have hd : nI (k * 6 + u) / nI 6 = nI k := by rw [tw_div (by omega) (by omega) (by omega), show (k * 6 + u) / 6 = k by omega]
    obtain ⟨y, g0, g1, g2, g3⟩ := tc_gather hon b2 k2.1 (k2.2.1)
    have hle := tw_oth_le N R o k N.1
    simp (disch := omega) only [tw_L, tw_gN, tw_cl, tw_le, tw_lt, tw_eq, nI_add, pk_mul, tw_sub, tw_B0, tw_B1, tw_nb0, tw_nb1, tw_r1s, tw_r1n, if_true, if_false, Nat.le_refl, Nat.reduceEqDiff, Nat.reduceLeDiff, Nat.reduceLT, reduceIte, tc_wop, hd, g0, Option.bind_some, g1]
    have ho3 : y.2.1 51 9 = nI o := by rw [g2.i (by omega)]; exact k2.2.1
    rw [tc_141 (X := (tw_others N R o k N.1)[0]?) ho3 b3 (by omega) (by omega) (by omega) (fun h => List.getElem?_eq_none h) (fun h => ⟨_, List.getElem?_eq_getElem h, g3 0 _ (List.getElem?_eq_getElem h)⟩)]
    obtain ⟨σ', q1, q2⟩ := tc_add (a := nI 9) (b := A) (c := tw_amt ([a], br, lots)) (d := tw_opt (tw_others N R o k N.1)[0]?) (e := nI u) (ev := (tw_wish N E R o (2, v, k, u, c) l0).1) (by omega : o < 20) hn h45 ((f2.mn tc_S15).tr (g2.mn (fun q j h => Or.inr h))) (i2.f5 (fun j hj => g2.i (by omega))) (fun σ' r1 r2 r3 r4 r5 => by
      unfold tw_wish
      refine ⟨fun h => absurd h (show ¬ (2:Nat) = 0 by decide), fun h => absurd h (show ¬ (2:Nat) = 1 by decide), fun _ => ⟨r1, by rw [r2]; exact hA (Or.inr (Or.inl rfl)), r4, r5⟩, fun h => absurd h (show ¬ 3 ≤ (2:Nat) by decide), fun _ => by rw [r3]; dsimp only; rw [hl]; rfl⟩)
    rw [q1, Option.bind_some]
    refine ⟨σ', rfl, ?_⟩
    rw [show (tw_wish N E R o (2, v, k, u, c) l0).2 = lots by unfold tw_wish; dsimp only; rw [hl]; rfl]
    exact q2
  | 3, _ =>
    obtain ⟨b1, b2, b3⟩ := hB (Or.inr rfl)
    subst b1
    have hd : nI (k * 6 + u) / nI 6 = nI k := by rw [tw_div (by omega) (by omega) (by omega), show (k * 6 + u) / 6 = k by omega]
    obtain ⟨y, g0, g1, g2, g3⟩ := tc_gather hon b2 k2.1 (k2.2.1)
    have hle := tw_oth_le N R o k N.1
    have ho3 : y.2.1 51 9 = nI o := by rw [g2.i (by omega)]; exact k2.2.1
    have i3 : tc_inv y.2 [] false lots := i2.f5 (fun j hj => g2.i (by omega))
    have f3 : tw_fr tc_S5 σ y.2 := (f2.mn tc_S15).tr (g2.mn (fun q j h => Or.inr h))
    have e3 : tc_env r W N E R y.2 := hk.1.f2 (f3.mn tc_S52)
    have h58 : y.2.1 51 8 = nI lots := i3.2.2.2
    have hw2 : (tw_wish N E R o (3, v, k, u, c) l0).2 = (tw_pick N E R o k lots).2 := by unfold tw_wish; dsimp only; rw [hl]; rfl
    simp (disch := omega) only [tw_L, tw_gN, tw_cl, tw_le, tw_lt, tw_eq, nI_add, pk_mul, tw_sub, tw_B0, tw_B1, tw_nb0, tw_nb1, tw_r1s, tw_r1n, if_true, if_false, Nat.le_refl, Nat.reduceEqDiff, Nat.reduceLeDiff, Nat.reduceLT, reduceIte, tc_wop, hd, g0, Option.bind_some, g1]
    have last : ∀ (σ4 : rx_St) (j : Nat), j < 20 → tw_fr tc_S5 σ σ4 → tc_inv σ4 [] false (tw_pick N E R o k lots).2 → σ4.1 51 9 = nI o → ((tw_others N R o k N.1).length ≤ j → (tw_pick N E R o k lots).1 = none) → (j < (tw_others N R o k N.1).length → ∃ q, (tw_pick N E R o k lots).1 = some q ∧ σ4.1 56 j = nI q) → ∃ σ', f_cho_wish_141 r A (nI (k * 6 + u)) (tw_amt ([a], br, lots)) (nI (tw_others N R o k N.1).length) (nI j) σ4 = some σ' ∧ tc_res σ σ' o n (tw_wish N E R o (3, v, k, u, c) l0).1 (tw_wish N E R o (3, v, k, u, c) l0).2 := by
      intro σ4 j hj f4 i4 ho4 hx1 hx2
      rw [tc_141 (X := (tw_pick N E R o k lots).1) ho4 b3 (by omega) hj (by omega) hx1 hx2, hw2]
      obtain ⟨σ', q1, q2⟩ := tc_add (a := nI 9) (b := A) (c := tw_amt ([a], br, lots)) (d := tw_opt (tw_pick N E R o k lots).1) (e := nI u) (ev := (tw_wish N E R o (3, v, k, u, c) l0).1) (by omega : o < 20) hn h45 f4 i4 (fun σ' r1 r2 r3 r4 r5 => by
        unfold tw_wish
        refine ⟨fun h => absurd h (show ¬ (2:Nat) = 0 by decide), fun h => absurd h (show ¬ (2:Nat) = 1 by decide), fun _ => ⟨r1, by rw [r2]; exact hA (Or.inr (Or.inr rfl)), by rw [r4]; dsimp only; rw [hl]; rfl, r5⟩, fun h => absurd h (show ¬ 3 ≤ (2:Nat) by decide), fun _ => by rw [r3]; dsimp only; rw [hl]; rfl⟩)
      rw [q1, Option.bind_some]
      exact ⟨σ', rfl, q2⟩
    by_cases h0 : (tw_others N R o k N.1).length = 0
    · rw [if_pos (by omega)]
      have hp : tw_pick N E R o k lots = (none, lots) := by unfold tw_pick; rw [if_pos h0]
      exact last y.2 0 (by omega) f3 (by rw [hp]; exact i3) ho3 (fun _ => by rw [hp]) (fun h => absurd h (by omega))
    · rw [if_neg (by omega)]
      obtain ⟨j, hj, e9⟩ := tw_lot_lt E.2.1 (nI o) (nI E.2.2) (nI lots) (m := (tw_others N R o k N.1).length) (by omega) (by omega)
      have hp : tw_pick N E R o k lots = ((tw_others N R o k N.1)[j]?, lots + 1) := by
        unfold tw_pick
        rw [if_neg h0, e9, nI_clamp (by omega)]
      have hE1 : y.2.1 (57 + 7 * r) 9 = E.2.1 := e3.2.2.2.1
      have hE2 : y.2.1 (57 + 7 * r) 10 = nI E.2.2 := e3.2.2.2.2.1
      simp (disch := omega) only [tw_L, tw_gN, tw_cl, tw_le, tw_lt, tw_eq, nI_add, pk_mul, tw_sub, tw_B0, tw_B1, tw_nb0, tw_nb1, tw_r1s, tw_r1n, if_true, if_false, Nat.le_refl, Nat.reduceEqDiff, Nat.reduceLeDiff, Nat.reduceLT, reduceIte, ho3, h58, hE1, hE2, Nat.add_sub_cancel, tc_lot (show 1 ≤ (tw_others N R o k N.1).length by omega) (show (tw_others N R o k N.1).length < 2147483648 by omega), Option.bind_some, e9]
      exact last _ j (by omega) (f3.si (by unfold tc_S5 tc_S1; omega)) ⟨⟨by rw [tw_r1n _ _ (by omega)]; exact i3.1.1, i3.1.2⟩, trivial, by rw [tw_r1n _ _ (by omega)]; exact i3.2.2.1, by rw [tw_r1s, hp]⟩ (by rw [tw_r1n _ _ (by omega)]; exact ho3) (fun h => absurd h (by omega)) (fun h => ⟨_, by rw [hp]; exact List.getElem?_eq_getElem h, by rw [tw_r1n _ _ (by omega)]; exact g3 j _ (List.getElem?_eq_getElem h)⟩)
theorem tc_quit {cnt : Bool} {σ : rx_St} {o n lots : Nat} {A B : Int32} (hk : tc_ok r w cnt W N E R o σ) (hon : o < N.1) (hi : tc_inv σ [] false lots) (h45 : σ.1 45 o = nI n) (hn : n < 48) (x : tw_Wi) (hx : x.1 = 4) :
    ∃ σ', f_cho_wish r (nI 13) A B σ = some σ' ∧ tc_res σ σ' o n (tw_wish N E R o x lots).1 (tw_wish N E R o x lots).2 := by
  obtain ⟨s, v, k, u, c⟩ := x
  dsimp only at hx
  subst hx
  have e20 := hk.1.1.2
  have ho2 : σ.1 51 9 = nI o := hk.2.1
  obtain ⟨σ', q1, q2⟩ := tc_add (a := nI 13) (b := nI 0) (c := nI 0) (d := -nI 1) (e := nI 0) (ev := (tw_wish N E R o (4, v, k, u, c) lots).1) (by omega : o < 20) hn h45 tw_fr.rf hi (fun σ' r1 r2 r3 r4 r5 =>
    ⟨fun h => absurd h (show ¬ (4:Nat) = 0 by decide), fun h => absurd h (show ¬ (4:Nat) = 1 by decide), fun h => absurd h (show ¬ (4:Nat) = 2 by decide), fun _ => r1, fun h => absurd h (show ¬ (4:Nat) ≤ 2 by decide)⟩)
  unfold f_cho_wish
  simp (disch := omega) only [tw_L, tw_gN, tw_cl, tw_le, tw_lt, tw_eq, nI_add, pk_mul, tw_sub, tw_B0, tw_B1, tw_nb0, tw_nb1, tw_r1s, tw_r1n, if_true, if_false, Nat.le_refl, Nat.reduceEqDiff, Nat.reduceLeDiff, Nat.reduceLT, reduceIte, ho2]
  rw [q1, Option.bind_some]
  exact ⟨σ', rfl, q2⟩
end TC4
