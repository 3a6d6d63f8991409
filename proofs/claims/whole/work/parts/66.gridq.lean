/-! seen, span, meets, met, untold on both sides -/
theorem tw_app {α : Type} {l : List α} {x y : α} {i : Nat} (h : (l ++ [x])[i]? = some y) : (i < l.length ∧ l[i]? = some y) ∨ (i = l.length ∧ y = x) := by
  by_cases c : i < l.length
  · rw [List.getElem?_append_left c] at h
    exact Or.inl ⟨c, h⟩
  · rw [List.getElem?_append_right (by omega)] at h
    cases e : i - l.length with
    | zero =>
      rw [e] at h
      cases h
      exact Or.inr ⟨by omega, rfl⟩
    | succ k =>
      rw [e] at h
      cases h
theorem tw_app_z {sp : List tw_Sp} {x : tw_Sp} {i : Nat} : tw_z (sp ++ [x]) i = if i < sp.length then tw_z sp i else if i = sp.length then x.2.2.2 else 1 := by
  unfold tw_z
  by_cases c : i < sp.length
  · rw [if_pos c, List.getElem?_append_left c]
  · rw [if_neg c, List.getElem?_append_right (by omega)]
    by_cases d : i = sp.length
    · rw [if_pos d, d, Nat.sub_self]; rfl
    · rw [if_neg d]
      obtain ⟨k, hk⟩ : ∃ k, i - sp.length = k + 1 := ⟨i - sp.length - 1, by omega⟩
      rw [hk]
      rfl
theorem tw_app_p {sp : List tw_Sp} {x : tw_Sp} : tw_pts (sp ++ [x]) = tw_pts sp * x.2.2.2 := by
  have h : ∀ i, i ≤ sp.length → tw_ptn (sp ++ [x]) i = tw_ptn sp i := by
    intro i
    induction i with
    | zero => intro _; rfl
    | succ i ih =>
      intro hi
      rw [tw_ptn, tw_ptn, ih (by omega), tw_app_z, if_pos (by omega)]
  unfold tw_pts
  rw [List.length_append, show [x].length = 1 from rfl, tw_ptn, h _ (Nat.le_refl _), tw_app_z, if_neg (by omega), if_pos rfl]
theorem tq_diff {a b : Int32} (ha : -9999 ≤ a.toInt ∧ a.toInt ≤ 9999) (hb : -9999 ≤ b.toInt ∧ b.toInt ≤ 9999) (h : ¬ b < a) : ∃ d, d ≤ 19998 ∧ b - a = nI d := by
  rw [Int32.lt_iff_toInt_lt] at h
  refine ⟨(b.toInt - a.toInt).toNat, by omega, Int32.toInt_inj.mp ?_⟩
  rw [nI_toInt (by omega), Int32.toInt_sub, tw_bm32 (by omega) (by omega)]
  omega
theorem tq_seeds (a : Int32) : f_c_isSeeds a = nI 0 ∧ f_m_isSeeds a = nI 0 ∨ ∃ s, 1 ≤ s ∧ s ≤ 3 ∧ a = nI s ∧ f_c_isSeeds a = nI 1 ∧ f_m_isSeeds a = nI 1 := by
  have e : f_m_isSeeds a = f_c_isSeeds a := rfl
  rw [e]
  by_cases c1 : a < (1 : Int32)
  · have : f_c_isSeeds a = nI 0 := if_pos c1
    exact Or.inl ⟨this, this⟩
  · by_cases c2 : (3 : Int32) < a
    · have : f_c_isSeeds a = nI 0 := (if_neg c1).trans (if_pos c2)
      exact Or.inl ⟨this, this⟩
    · have h1 : f_c_isSeeds a = nI 1 := (if_neg c1).trans (if_neg c2)
      obtain ⟨s, rfl, hs⟩ := tq_nn (x := a) (fun q => c1 (by
        rw [Int32.lt_iff_toInt_lt] at q ⊢
        have : (nI 0).toInt = 0 := rfl
        have : (1 : Int32).toInt = 1 := rfl
        omega))
      rw [show (1 : Int32) = nI 1 from rfl, tw_lt hs (by omega)] at c1
      rw [show (3 : Int32) = nI 3 from rfl, tw_lt (by omega) hs] at c2
      exact Or.inr ⟨s, by omega, by omega, rfl, h1, h1⟩
section TK
variable {w : Nat} {W : tw_Wo} {lv : Nat} {N : tw_N} {pl : Nat → Nat} {bg : Nat → Int32} {dl : Bool} {st : Nat → Int32} {sp : List tw_Sp} {se : List tw_Se}
/-- as far as SEEDS were tried, if nothing has changed since -/
def tq_try (w : Nat) (W : tw_Wo) (N : tw_N) (dl : Bool) (st : Nat → Int32) (pl : Nat → Nat) (bg : Nat → Int32) (sp : List tw_Sp) (se : List tw_Se) (x : Nat) (σ : rx_St) : Prop := ∃ y n, σ.1 76 16 = nI y ∧ σ.1 38 8 = nI x ∧ y ≤ x ∧ x < 1000 ∧ (y = x → tc_V w W N dl st pl bg sp se n σ)
def tq_SG (q j : Nat) : Prop := q = 87 ∧ (j = 0 ∨ j = 90 ∨ j = 96) ∨ q = 76 ∧ (j = 2 ∨ j = 8 ∨ j = 13 ∨ j = 15) ∨ 77 ≤ q ∧ q ≤ 86 ∨ 152 ≤ q ∧ q ≤ 160
def tq_G (W : tw_Wo) (sp : List tw_Sp) (se : List tw_Se) (σ : rx_St) : Prop := tw_gok W sp se ∧ tc_G sp se σ ∧ tm_G sp se σ
theorem tq_try.thr {x : Nat} {σ : rx_St} (h : tq_try w W N dl st pl bg sp se x σ) (v : Int32) : tq_try w W N dl st pl bg sp se x (rx_si σ 87 0 v) := by
  obtain ⟨y, n, h1, h2, h3, h4, h5⟩ := h
  refine ⟨y, n, by rw [tw_r1n _ _ (by omega)]; exact h1, by rw [tw_r1n _ _ (by omega)]; exact h2, h3, h4, fun e => ?_⟩
  obtain ⟨g1, g2, g3⟩ := h5 e
  exact ⟨g1, by rw [tw_r1n _ _ (by omega)]; exact g2, fun p hp => by rw [tw_r1n _ _ (by omega)]; exact g3 p hp⟩
theorem tq_G.thr {σ : rx_St} (h : tq_G W sp se σ) (v : Int32) : tq_G W sp se (rx_si σ 87 0 v) := ⟨h.1, h.2.1.fr (fun q j a => tw_r1n _ _ (by omega)), h.2.2.fr (fun q j a => tw_r1n _ _ (by omega))⟩
theorem tq_seen {σ : rx_St} {x : Nat} (h : tq_T w W lv N pl bg dl st σ) (hG : tq_G W sp se σ) (hV : tq_try w W N dl st pl bg sp se x σ) (a0 a1 a2 a3 a4 : Int32) : ∃ o1 o2 se', f_c_seen w a0 a1 a2 a3 a4 σ = some o1 ∧ f_m_seen a0 a1 a2 a3 a4 o1.2 = some o2 ∧ o1.1 = o2.1 ∧ tw_fr tq_SG σ o2.2 ∧ tq_G W sp se' o2.2 ∧ tq_try w W N dl st pl bg sp se' x o2.2 := by
  obtain ⟨⟨h1, h2, h3⟩, ⟨h4, h5, h6⟩, hw⟩ := id h
  have hWN : tc_WN w W σ := by obtain ⟨_, _, g, _⟩ := h2; exact g
  have hW := h4.2.2.2
  have thr := tq_thr h (nI 0)
  obtain ⟨⟨⟨s3, p1, p2, s4⟩, e8, e9⟩, hc, hm⟩ := id hG
  have bad : f_c_seen w a0 a1 a2 a3 a4 σ = some ((-1 : Int32), σ) → f_m_seen a0 a1 a2 a3 a4 σ = some ((-1 : Int32), rx_si σ 87 0 (nI 0)) → ∃ o1 o2 se', f_c_seen w a0 a1 a2 a3 a4 σ = some o1 ∧ f_m_seen a0 a1 a2 a3 a4 o1.2 = some o2 ∧ o1.1 = o2.1 ∧ tw_fr tq_SG σ o2.2 ∧ tq_G W sp se' o2.2 ∧ tq_try w W N dl st pl bg sp se' x o2.2 := fun q1 q2 =>
    ⟨_, _, se, q1, q2, rfl, tw_fr.rf.si (by unfold tq_SG; omega), hG.thr _, hV.thr _⟩
  have m90 : (rx_si σ 87 0 (0 : Int32)).1 87 90 = nI se.length := (tw_r1n _ _ (by omega)).trans hm.2.1
  have cut : (∀ z, f_m_isFigure a0 a1 a2 (rx_si σ 87 0 (0 : Int32)) = some z → z = (0 : Int32) ∨ ¬ a3 ≤ a4) → (f_m_isFigure a0 a1 a2 (rx_si σ 87 0 (0 : Int32)) ≠ none) → f_m_seen a0 a1 a2 a3 a4 σ = some ((-1 : Int32), rx_si σ 87 0 (nI 0)) := by
    intro hz hn
    unfold f_m_seen
    by_cases c : (rx_si σ 87 0 (0 : Int32)).1 87 90 = (8 : Int32)
    · exact if_pos c
    · refine (if_neg c).trans ?_
      cases e : f_m_isFigure a0 a1 a2 (rx_si σ 87 0 (0 : Int32)) with
      | none => exact absurd e hn
      | some z =>
        rw [Option.bind_some]
        rcases hz z e with q | q
        · exact if_pos q
        · by_cases zz : z = (0 : Int32)
          · exact if_pos zz
          · exact (if_neg zz).trans (if_neg q)
  rcases tq_time a0 with ⟨c1, c2⟩ | ⟨t, ht, rfl, c1, c2⟩
  · have fig : f_m_isFigure a0 a1 a2 (rx_si σ 87 0 (0 : Int32)) = some (0 : Int32) := by
      unfold f_m_isFigure
      rw [c2]
      rfl
    refine bad ?_ (cut (fun z hz => Or.inl (by rw [fig] at hz; exact (Option.some.inj hz).symm)) (by rw [fig]; exact Option.some_ne_none _))
    unfold f_c_seen
    rw [c1]
    exact if_pos rfl
  · rcases tq_var a1 a2 (σ := σ) (σ' := rx_si σ 87 0 (nI 0)) hw hW hWN thr.1.2.1.2.1 with ⟨d1, d2⟩ | ⟨k, v, hk, hv, rfl, rfl, d1, d2⟩
    · have fig : f_m_isFigure (nI t) a1 a2 (rx_si σ 87 0 (0 : Int32)) = some (0 : Int32) := d2 _
      refine bad ?_ (cut (fun z hz => Or.inl (by rw [fig] at hz; exact (Option.some.inj hz).symm)) (by rw [fig]; exact Option.some_ne_none _))
      unfold f_c_seen
      rw [c1, d1]
      rfl
    · have fig : f_m_isFigure (nI t) (nI k) (nI v) (rx_si σ 87 0 (0 : Int32)) = some (1 : Int32) := d2 t ht
      by_cases le : a3 ≤ a4
      · by_cases c8 : se.length = 8
        · refine bad ?_ ?_
          · unfold f_c_seen f_gri_tellSeen
            rw [c1, d1, if_neg (by decide), Option.bind_some, if_neg (by decide), if_pos le, hc.2.1, if_neg (by rw [show (8 : Int32) = nI 8 from rfl, tw_lt (by omega) (by omega)]; omega)]
            rfl
          · unfold f_m_seen
            refine if_pos ?_
            rw [m90, c8]
            rfl
        · have cc := hc.2.1
          have cm := hm.2.1
          obtain ⟨σf, ef, ff, f15, f86⟩ := tc_forget (rx_si (rx_si (rx_si (rx_si (rx_si (rx_si σ 77 se.length (nI t)) 78 se.length (nI k)) 79 se.length (nI v)) 80 se.length a3) 81 se.length a4) 76 2 (nI (se.length + 1)))
          refine ⟨(nI se.length, σf), (nI se.length, rx_si (rx_si (rx_si (rx_si (rx_si (rx_si (rx_si σf 87 0 (nI 0)) 152 se.length (nI t)) 153 se.length (nI k)) 154 se.length (nI v)) 155 se.length a3) 156 se.length a4) 87 90 (nI (se.length + 1))), se ++ [(t, k, v, a3, a4)], ?_, ?_, rfl, ?_, ⟨⟨⟨s3, p1, p2, s4⟩, ?_, fun i y hy => ?_⟩, ⟨⟨?_, ?_, fun i y hy => ?_⟩, ?_, fun i y hy => ?_⟩, ⟨?_, fun i y hy => ?_⟩, ?_, fun i y hy => ?_⟩, ?_⟩
          · unfold f_c_seen f_gri_tellSeen
            rw [c1, d1, if_neg (by decide), Option.bind_some, if_neg (by decide), if_pos le, cc, if_pos (by rw [show (8 : Int32) = nI 8 from rfl, tw_lt (by omega) (by omega)]; omega)]
            simp (disch := omega) only [tw_L, tw_gN, tw_cl, tw_le, tw_lt, tw_eq, nI_add, pk_mul, tw_sub, tw_B0, tw_B1, tw_nb0, tw_nb1, tw_r1s, tw_r1n, if_true, if_false, Nat.le_refl, Nat.reduceEqDiff, Nat.reduceLeDiff, Nat.reduceLT, reduceIte, cc]
            rw [ef]
            have r : σf.1 76 2 = nI (se.length + 1) := (ff.i (by omega)).trans (tw_r1s _ _ _ _)
            simp (disch := omega) only [tw_L, tw_gN, tw_cl, tw_le, tw_lt, tw_eq, nI_add, pk_mul, tw_sub, tw_B0, tw_B1, tw_nb0, tw_nb1, tw_r1s, tw_r1n, if_true, if_false, Nat.le_refl, Nat.reduceEqDiff, Nat.reduceLeDiff, Nat.reduceLT, reduceIte, Option.bind_some, r, Nat.add_sub_cancel]
          · unfold f_m_seen
            have r90 : σf.1 87 90 = nI se.length := by
              rw [ff.i (by omega)]
              simp (disch := omega) only [tw_L, tw_gN, tw_cl, tw_le, tw_lt, tw_eq, nI_add, pk_mul, tw_sub, tw_B0, tw_B1, tw_nb0, tw_nb1, tw_r1s, tw_r1n, if_true, if_false, Nat.le_refl, Nat.reduceEqDiff, Nat.reduceLeDiff, Nat.reduceLT, reduceIte, cm]
            refine (if_neg ?_).trans ?_
            · rw [show (rx_si σf 87 0 (0 : Int32)).1 87 90 = nI se.length from (tw_r1n _ _ (by omega)).trans r90, show (8 : Int32) = nI 8 from rfl, tw_eq (by omega) (by omega)]
              exact c8
            have fig' : f_m_isFigure (nI t) (nI k) (nI v) (rx_si σf 87 0 (0 : Int32)) = some (1 : Int32) := by
              have hMf : tm_MW W lv (rx_si σf 87 0 (nI 0)) := h5.fr (fun q j a b => by
                rw [tw_r1n _ _ (by omega), ff.i (by omega)]
                simp (disch := omega) only [tw_L, tw_gN, tw_cl, tw_le, tw_lt, tw_eq, nI_add, pk_mul, tw_sub, tw_B0, tw_B1, tw_nb0, tw_nb1, tw_r1s, tw_r1n, if_true, if_false, Nat.le_refl, Nat.reduceEqDiff, Nat.reduceLeDiff, Nat.reduceLT, reduceIte]) (by
                rw [tw_r1n _ _ (by omega), ff.i (by omega)]
                simp (disch := omega) only [tw_L, tw_gN, tw_cl, tw_le, tw_lt, tw_eq, nI_add, pk_mul, tw_sub, tw_B0, tw_B1, tw_nb0, tw_nb1, tw_r1s, tw_r1n, if_true, if_false, Nat.le_refl, Nat.reduceEqDiff, Nat.reduceLeDiff, Nat.reduceLT, reduceIte])
              rcases tq_var (nI k) (nI v) (σ := σ) (σ' := rx_si σf 87 0 (nI 0)) hw hW hWN hMf with ⟨z1, -⟩ | ⟨_, _, _, _, _, _, _, z2⟩
              · rw [d1] at z1
                exact absurd (Option.some.inj z1) (by decide)
              · exact z2 t ht
            rw [fig', Option.bind_some, if_neg (by decide), if_pos le]
            simp (disch := omega) only [tw_L, tw_gN, tw_cl, tw_le, tw_lt, tw_eq, nI_add, pk_mul, tw_sub, tw_B0, tw_B1, tw_nb0, tw_nb1, tw_r1s, tw_r1n, if_true, if_false, Nat.le_refl, Nat.reduceEqDiff, Nat.reduceLeDiff, Nat.reduceLT, reduceIte, r90, Nat.add_sub_cancel]
          · intro q j n
            unfold tq_SG at n
            constructor
            · rw [tw_r1n _ _ (by omega), tw_r1n _ _ (by omega), tw_r1n _ _ (by omega), tw_r1n _ _ (by omega), tw_r1n _ _ (by omega), tw_r1n _ _ (by omega), tw_r1n _ _ (by omega), ff.i (by omega), tw_r1n _ _ (by omega), tw_r1n _ _ (by omega), tw_r1n _ _ (by omega), tw_r1n _ _ (by omega), tw_r1n _ _ (by omega), tw_r1n _ _ (by omega)]
            · exact ff.l (by omega)
          · rw [List.length_append]
            show se.length + 1 ≤ 8
            omega
          · rcases tw_app hy with ⟨-, hy⟩ | ⟨-, rfl⟩
            · exact e9 i y hy
            · exact ⟨ht, hk, hv⟩
          · simp (disch := omega) only [tw_L, tw_gN, tw_cl, tw_le, tw_lt, tw_eq, nI_add, pk_mul, tw_sub, tw_B0, tw_B1, tw_nb0, tw_nb1, tw_r1s, tw_r1n, if_true, if_false, Nat.le_refl, Nat.reduceEqDiff, Nat.reduceLeDiff, Nat.reduceLT, reduceIte]
            rw [ff.i (by omega)]
            simp (disch := omega) only [tw_L, tw_gN, tw_cl, tw_le, tw_lt, tw_eq, nI_add, pk_mul, tw_sub, tw_B0, tw_B1, tw_nb0, tw_nb1, tw_r1s, tw_r1n, if_true, if_false, Nat.le_refl, Nat.reduceEqDiff, Nat.reduceLeDiff, Nat.reduceLT, reduceIte, hc.1.1]
          · simp (disch := omega) only [tw_L, tw_gN, tw_cl, tw_le, tw_lt, tw_eq, nI_add, pk_mul, tw_sub, tw_B0, tw_B1, tw_nb0, tw_nb1, tw_r1s, tw_r1n, if_true, if_false, Nat.le_refl, Nat.reduceEqDiff, Nat.reduceLeDiff, Nat.reduceLT, reduceIte]
            rw [ff.i (by omega)]
            simp (disch := omega) only [tw_L, tw_gN, tw_cl, tw_le, tw_lt, tw_eq, nI_add, pk_mul, tw_sub, tw_B0, tw_B1, tw_nb0, tw_nb1, tw_r1s, tw_r1n, if_true, if_false, Nat.le_refl, Nat.reduceEqDiff, Nat.reduceLeDiff, Nat.reduceLT, reduceIte, hc.1.2.1]
          · obtain ⟨x1, x2, x3, x4⟩ := hc.1.2.2 i y hy
            have f82 : σf.1 82 i = nI y.1 := by rw [ff.i (by omega)]; simp (disch := omega) only [tw_L, tw_gN, tw_cl, tw_le, tw_lt, tw_eq, nI_add, pk_mul, tw_sub, tw_B0, tw_B1, tw_nb0, tw_nb1, tw_r1s, tw_r1n, if_true, if_false, Nat.le_refl, Nat.reduceEqDiff, Nat.reduceLeDiff, Nat.reduceLT, reduceIte, x1]
            have f83 : σf.1 83 i = y.2.1 := by rw [ff.i (by omega)]; simp (disch := omega) only [tw_L, tw_gN, tw_cl, tw_le, tw_lt, tw_eq, nI_add, pk_mul, tw_sub, tw_B0, tw_B1, tw_nb0, tw_nb1, tw_r1s, tw_r1n, if_true, if_false, Nat.le_refl, Nat.reduceEqDiff, Nat.reduceLeDiff, Nat.reduceLT, reduceIte, x2]
            have f84 : σf.1 84 i = y.2.2.1 := by rw [ff.i (by omega)]; simp (disch := omega) only [tw_L, tw_gN, tw_cl, tw_le, tw_lt, tw_eq, nI_add, pk_mul, tw_sub, tw_B0, tw_B1, tw_nb0, tw_nb1, tw_r1s, tw_r1n, if_true, if_false, Nat.le_refl, Nat.reduceEqDiff, Nat.reduceLeDiff, Nat.reduceLT, reduceIte, x3]
            have f85 : σf.1 85 i = nI y.2.2.2 := by rw [ff.i (by omega)]; simp (disch := omega) only [tw_L, tw_gN, tw_cl, tw_le, tw_lt, tw_eq, nI_add, pk_mul, tw_sub, tw_B0, tw_B1, tw_nb0, tw_nb1, tw_r1s, tw_r1n, if_true, if_false, Nat.le_refl, Nat.reduceEqDiff, Nat.reduceLeDiff, Nat.reduceLT, reduceIte, x4]
            simp (disch := omega) only [tw_L, tw_gN, tw_cl, tw_le, tw_lt, tw_eq, nI_add, pk_mul, tw_sub, tw_B0, tw_B1, tw_nb0, tw_nb1, tw_r1s, tw_r1n, if_true, if_false, Nat.le_refl, Nat.reduceEqDiff, Nat.reduceLeDiff, Nat.reduceLT, reduceIte, f82, f83, f84, f85]
            exact ⟨trivial, trivial, trivial, trivial⟩
          · rw [List.length_append]
            simp (disch := omega) only [tw_L, tw_gN, tw_cl, tw_le, tw_lt, tw_eq, nI_add, pk_mul, tw_sub, tw_B0, tw_B1, tw_nb0, tw_nb1, tw_r1s, tw_r1n, if_true, if_false, Nat.le_refl, Nat.reduceEqDiff, Nat.reduceLeDiff, Nat.reduceLT, reduceIte]
            rw [ff.i (by omega)]
            simp (disch := omega) only [tw_L, tw_gN, tw_cl, tw_le, tw_lt, tw_eq, nI_add, pk_mul, tw_sub, tw_B0, tw_B1, tw_nb0, tw_nb1, tw_r1s, tw_r1n, if_true, if_false, Nat.le_refl, Nat.reduceEqDiff, Nat.reduceLeDiff, Nat.reduceLT, reduceIte]
            rfl
          · rcases tw_app hy with ⟨hi, hy⟩ | ⟨hi, rfl⟩
            · obtain ⟨x1, x2, x3, x4, x5⟩ := hc.2.2 i y hy
              have f77 : σf.1 77 i = nI y.1 := by rw [ff.i (by omega)]; simp (disch := omega) only [tw_L, tw_gN, tw_cl, tw_le, tw_lt, tw_eq, nI_add, pk_mul, tw_sub, tw_B0, tw_B1, tw_nb0, tw_nb1, tw_r1s, tw_r1n, if_true, if_false, Nat.le_refl, Nat.reduceEqDiff, Nat.reduceLeDiff, Nat.reduceLT, reduceIte, x1]
              have f78 : σf.1 78 i = nI y.2.1 := by rw [ff.i (by omega)]; simp (disch := omega) only [tw_L, tw_gN, tw_cl, tw_le, tw_lt, tw_eq, nI_add, pk_mul, tw_sub, tw_B0, tw_B1, tw_nb0, tw_nb1, tw_r1s, tw_r1n, if_true, if_false, Nat.le_refl, Nat.reduceEqDiff, Nat.reduceLeDiff, Nat.reduceLT, reduceIte, x2]
              have f79 : σf.1 79 i = nI y.2.2.1 := by rw [ff.i (by omega)]; simp (disch := omega) only [tw_L, tw_gN, tw_cl, tw_le, tw_lt, tw_eq, nI_add, pk_mul, tw_sub, tw_B0, tw_B1, tw_nb0, tw_nb1, tw_r1s, tw_r1n, if_true, if_false, Nat.le_refl, Nat.reduceEqDiff, Nat.reduceLeDiff, Nat.reduceLT, reduceIte, x3]
              have f80 : σf.1 80 i = y.2.2.2.1 := by rw [ff.i (by omega)]; simp (disch := omega) only [tw_L, tw_gN, tw_cl, tw_le, tw_lt, tw_eq, nI_add, pk_mul, tw_sub, tw_B0, tw_B1, tw_nb0, tw_nb1, tw_r1s, tw_r1n, if_true, if_false, Nat.le_refl, Nat.reduceEqDiff, Nat.reduceLeDiff, Nat.reduceLT, reduceIte, x4]
              have f81 : σf.1 81 i = y.2.2.2.2 := by rw [ff.i (by omega)]; simp (disch := omega) only [tw_L, tw_gN, tw_cl, tw_le, tw_lt, tw_eq, nI_add, pk_mul, tw_sub, tw_B0, tw_B1, tw_nb0, tw_nb1, tw_r1s, tw_r1n, if_true, if_false, Nat.le_refl, Nat.reduceEqDiff, Nat.reduceLeDiff, Nat.reduceLT, reduceIte, x5]
              simp (disch := omega) only [tw_L, tw_gN, tw_cl, tw_le, tw_lt, tw_eq, nI_add, pk_mul, tw_sub, tw_B0, tw_B1, tw_nb0, tw_nb1, tw_r1s, tw_r1n, if_true, if_false, Nat.le_refl, Nat.reduceEqDiff, Nat.reduceLeDiff, Nat.reduceLT, reduceIte, f77, f78, f79, f80, f81]
              exact ⟨trivial, trivial, trivial, trivial, trivial⟩
            · subst hi
              have f77 : σf.1 77 se.length = nI t := by rw [ff.i (by omega)]; simp (disch := omega) only [tw_L, tw_gN, tw_cl, tw_le, tw_lt, tw_eq, nI_add, pk_mul, tw_sub, tw_B0, tw_B1, tw_nb0, tw_nb1, tw_r1s, tw_r1n, if_true, if_false, Nat.le_refl, Nat.reduceEqDiff, Nat.reduceLeDiff, Nat.reduceLT, reduceIte]
              have f78 : σf.1 78 se.length = nI k := by rw [ff.i (by omega)]; simp (disch := omega) only [tw_L, tw_gN, tw_cl, tw_le, tw_lt, tw_eq, nI_add, pk_mul, tw_sub, tw_B0, tw_B1, tw_nb0, tw_nb1, tw_r1s, tw_r1n, if_true, if_false, Nat.le_refl, Nat.reduceEqDiff, Nat.reduceLeDiff, Nat.reduceLT, reduceIte]
              have f79 : σf.1 79 se.length = nI v := by rw [ff.i (by omega)]; simp (disch := omega) only [tw_L, tw_gN, tw_cl, tw_le, tw_lt, tw_eq, nI_add, pk_mul, tw_sub, tw_B0, tw_B1, tw_nb0, tw_nb1, tw_r1s, tw_r1n, if_true, if_false, Nat.le_refl, Nat.reduceEqDiff, Nat.reduceLeDiff, Nat.reduceLT, reduceIte]
              have f80 : σf.1 80 se.length = a3 := by rw [ff.i (by omega)]; simp (disch := omega) only [tw_L, tw_gN, tw_cl, tw_le, tw_lt, tw_eq, nI_add, pk_mul, tw_sub, tw_B0, tw_B1, tw_nb0, tw_nb1, tw_r1s, tw_r1n, if_true, if_false, Nat.le_refl, Nat.reduceEqDiff, Nat.reduceLeDiff, Nat.reduceLT, reduceIte]
              have f81 : σf.1 81 se.length = a4 := by rw [ff.i (by omega)]; simp (disch := omega) only [tw_L, tw_gN, tw_cl, tw_le, tw_lt, tw_eq, nI_add, pk_mul, tw_sub, tw_B0, tw_B1, tw_nb0, tw_nb1, tw_r1s, tw_r1n, if_true, if_false, Nat.le_refl, Nat.reduceEqDiff, Nat.reduceLeDiff, Nat.reduceLT, reduceIte]
              simp (disch := omega) only [tw_L, tw_gN, tw_cl, tw_le, tw_lt, tw_eq, nI_add, pk_mul, tw_sub, tw_B0, tw_B1, tw_nb0, tw_nb1, tw_r1s, tw_r1n, if_true, if_false, Nat.le_refl, Nat.reduceEqDiff, Nat.reduceLeDiff, Nat.reduceLT, reduceIte, f77, f78, f79, f80, f81]
              exact ⟨trivial, trivial, trivial, trivial, trivial⟩
          · simp (disch := omega) only [tw_L, tw_gN, tw_cl, tw_le, tw_lt, tw_eq, nI_add, pk_mul, tw_sub, tw_B0, tw_B1, tw_nb0, tw_nb1, tw_r1s, tw_r1n, if_true, if_false, Nat.le_refl, Nat.reduceEqDiff, Nat.reduceLeDiff, Nat.reduceLT, reduceIte]
            rw [ff.i (by omega)]
            simp (disch := omega) only [tw_L, tw_gN, tw_cl, tw_le, tw_lt, tw_eq, nI_add, pk_mul, tw_sub, tw_B0, tw_B1, tw_nb0, tw_nb1, tw_r1s, tw_r1n, if_true, if_false, Nat.le_refl, Nat.reduceEqDiff, Nat.reduceLeDiff, Nat.reduceLT, reduceIte, hm.1.1]
          · obtain ⟨x1, x2, x3, x4⟩ := hm.1.2 i y hy
            have f82 : σf.1 157 i = nI y.1 := by rw [ff.i (by omega)]; simp (disch := omega) only [tw_L, tw_gN, tw_cl, tw_le, tw_lt, tw_eq, nI_add, pk_mul, tw_sub, tw_B0, tw_B1, tw_nb0, tw_nb1, tw_r1s, tw_r1n, if_true, if_false, Nat.le_refl, Nat.reduceEqDiff, Nat.reduceLeDiff, Nat.reduceLT, reduceIte, x1]
            have f83 : σf.1 158 i = y.2.1 := by rw [ff.i (by omega)]; simp (disch := omega) only [tw_L, tw_gN, tw_cl, tw_le, tw_lt, tw_eq, nI_add, pk_mul, tw_sub, tw_B0, tw_B1, tw_nb0, tw_nb1, tw_r1s, tw_r1n, if_true, if_false, Nat.le_refl, Nat.reduceEqDiff, Nat.reduceLeDiff, Nat.reduceLT, reduceIte, x2]
            have f84 : σf.1 159 i = y.2.2.1 := by rw [ff.i (by omega)]; simp (disch := omega) only [tw_L, tw_gN, tw_cl, tw_le, tw_lt, tw_eq, nI_add, pk_mul, tw_sub, tw_B0, tw_B1, tw_nb0, tw_nb1, tw_r1s, tw_r1n, if_true, if_false, Nat.le_refl, Nat.reduceEqDiff, Nat.reduceLeDiff, Nat.reduceLT, reduceIte, x3]
            have f85 : σf.1 160 i = nI y.2.2.2 := by rw [ff.i (by omega)]; simp (disch := omega) only [tw_L, tw_gN, tw_cl, tw_le, tw_lt, tw_eq, nI_add, pk_mul, tw_sub, tw_B0, tw_B1, tw_nb0, tw_nb1, tw_r1s, tw_r1n, if_true, if_false, Nat.le_refl, Nat.reduceEqDiff, Nat.reduceLeDiff, Nat.reduceLT, reduceIte, x4]
            simp (disch := omega) only [tw_L, tw_gN, tw_cl, tw_le, tw_lt, tw_eq, nI_add, pk_mul, tw_sub, tw_B0, tw_B1, tw_nb0, tw_nb1, tw_r1s, tw_r1n, if_true, if_false, Nat.le_refl, Nat.reduceEqDiff, Nat.reduceLeDiff, Nat.reduceLT, reduceIte, f82, f83, f84, f85]
            exact ⟨trivial, trivial, trivial, trivial⟩
          · rw [List.length_append]
            simp (disch := omega) only [tw_L, tw_gN, tw_cl, tw_le, tw_lt, tw_eq, nI_add, pk_mul, tw_sub, tw_B0, tw_B1, tw_nb0, tw_nb1, tw_r1s, tw_r1n, if_true, if_false, Nat.le_refl, Nat.reduceEqDiff, Nat.reduceLeDiff, Nat.reduceLT, reduceIte]
            rfl
          · rcases tw_app hy with ⟨hi, hy⟩ | ⟨hi, rfl⟩
            · obtain ⟨x1, x2, x3, x4, x5⟩ := hm.2.2 i y hy
              have f77 : σf.1 152 i = nI y.1 := by rw [ff.i (by omega)]; simp (disch := omega) only [tw_L, tw_gN, tw_cl, tw_le, tw_lt, tw_eq, nI_add, pk_mul, tw_sub, tw_B0, tw_B1, tw_nb0, tw_nb1, tw_r1s, tw_r1n, if_true, if_false, Nat.le_refl, Nat.reduceEqDiff, Nat.reduceLeDiff, Nat.reduceLT, reduceIte, x1]
              have f78 : σf.1 153 i = nI y.2.1 := by rw [ff.i (by omega)]; simp (disch := omega) only [tw_L, tw_gN, tw_cl, tw_le, tw_lt, tw_eq, nI_add, pk_mul, tw_sub, tw_B0, tw_B1, tw_nb0, tw_nb1, tw_r1s, tw_r1n, if_true, if_false, Nat.le_refl, Nat.reduceEqDiff, Nat.reduceLeDiff, Nat.reduceLT, reduceIte, x2]
              have f79 : σf.1 154 i = nI y.2.2.1 := by rw [ff.i (by omega)]; simp (disch := omega) only [tw_L, tw_gN, tw_cl, tw_le, tw_lt, tw_eq, nI_add, pk_mul, tw_sub, tw_B0, tw_B1, tw_nb0, tw_nb1, tw_r1s, tw_r1n, if_true, if_false, Nat.le_refl, Nat.reduceEqDiff, Nat.reduceLeDiff, Nat.reduceLT, reduceIte, x3]
              have f80 : σf.1 155 i = y.2.2.2.1 := by rw [ff.i (by omega)]; simp (disch := omega) only [tw_L, tw_gN, tw_cl, tw_le, tw_lt, tw_eq, nI_add, pk_mul, tw_sub, tw_B0, tw_B1, tw_nb0, tw_nb1, tw_r1s, tw_r1n, if_true, if_false, Nat.le_refl, Nat.reduceEqDiff, Nat.reduceLeDiff, Nat.reduceLT, reduceIte, x4]
              have f81 : σf.1 156 i = y.2.2.2.2 := by rw [ff.i (by omega)]; simp (disch := omega) only [tw_L, tw_gN, tw_cl, tw_le, tw_lt, tw_eq, nI_add, pk_mul, tw_sub, tw_B0, tw_B1, tw_nb0, tw_nb1, tw_r1s, tw_r1n, if_true, if_false, Nat.le_refl, Nat.reduceEqDiff, Nat.reduceLeDiff, Nat.reduceLT, reduceIte, x5]
              simp (disch := omega) only [tw_L, tw_gN, tw_cl, tw_le, tw_lt, tw_eq, nI_add, pk_mul, tw_sub, tw_B0, tw_B1, tw_nb0, tw_nb1, tw_r1s, tw_r1n, if_true, if_false, Nat.le_refl, Nat.reduceEqDiff, Nat.reduceLeDiff, Nat.reduceLT, reduceIte, f77, f78, f79, f80, f81]
              exact ⟨trivial, trivial, trivial, trivial, trivial⟩
            · subst hi
              simp (disch := omega) only [tw_L, tw_gN, tw_cl, tw_le, tw_lt, tw_eq, nI_add, pk_mul, tw_sub, tw_B0, tw_B1, tw_nb0, tw_nb1, tw_r1s, tw_r1n, if_true, if_false, Nat.le_refl, Nat.reduceEqDiff, Nat.reduceLeDiff, Nat.reduceLT, reduceIte]
              exact ⟨trivial, trivial, trivial, trivial, trivial⟩
          · obtain ⟨y, n, v1, v2, v3, v4, -⟩ := hV
            refine ⟨y, 0, ?_, ?_, v3, v4, fun _ => ⟨Nat.zero_le _, ?_, fun p hp => ?_⟩⟩
            · simp (disch := omega) only [tw_L, tw_gN, tw_cl, tw_le, tw_lt, tw_eq, nI_add, pk_mul, tw_sub, tw_B0, tw_B1, tw_nb0, tw_nb1, tw_r1s, tw_r1n, if_true, if_false, Nat.le_refl, Nat.reduceEqDiff, Nat.reduceLeDiff, Nat.reduceLT, reduceIte]
              rw [ff.i (by omega)]
              simp (disch := omega) only [tw_L, tw_gN, tw_cl, tw_le, tw_lt, tw_eq, nI_add, pk_mul, tw_sub, tw_B0, tw_B1, tw_nb0, tw_nb1, tw_r1s, tw_r1n, if_true, if_false, Nat.le_refl, Nat.reduceEqDiff, Nat.reduceLeDiff, Nat.reduceLT, reduceIte, v1]
            · simp (disch := omega) only [tw_L, tw_gN, tw_cl, tw_le, tw_lt, tw_eq, nI_add, pk_mul, tw_sub, tw_B0, tw_B1, tw_nb0, tw_nb1, tw_r1s, tw_r1n, if_true, if_false, Nat.le_refl, Nat.reduceEqDiff, Nat.reduceLeDiff, Nat.reduceLT, reduceIte]
              rw [ff.i (by omega)]
              simp (disch := omega) only [tw_L, tw_gN, tw_cl, tw_le, tw_lt, tw_eq, nI_add, pk_mul, tw_sub, tw_B0, tw_B1, tw_nb0, tw_nb1, tw_r1s, tw_r1n, if_true, if_false, Nat.le_refl, Nat.reduceEqDiff, Nat.reduceLeDiff, Nat.reduceLT, reduceIte, v2]
            · simp (disch := omega) only [tw_L, tw_gN, tw_cl, tw_le, tw_lt, tw_eq, nI_add, pk_mul, tw_sub, tw_B0, tw_B1, tw_nb0, tw_nb1, tw_r1s, tw_r1n, if_true, if_false, Nat.le_refl, Nat.reduceEqDiff, Nat.reduceLeDiff, Nat.reduceLT, reduceIte, f15]
            · have := f86 p (by omega)
              simp (disch := omega) only [tw_L, tw_gN, tw_cl, tw_le, tw_lt, tw_eq, nI_add, pk_mul, tw_sub, tw_B0, tw_B1, tw_nb0, tw_nb1, tw_r1s, tw_r1n, if_true, if_false, Nat.le_refl, Nat.reduceEqDiff, Nat.reduceLeDiff, Nat.reduceLT, reduceIte, this]
              rfl
      · refine bad ?_ (cut (fun z hz => Or.inr le) (by rw [fig]; exact Option.some_ne_none _))
        unfold f_c_seen
        rw [c1, d1, if_neg (by decide), Option.bind_some, if_neg (by decide), if_neg le]
end TK
