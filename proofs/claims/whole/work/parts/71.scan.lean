/-! THE CLASS'S TAPE: scan -/
/-- the class's row of TOKENS -/
def tc_tok (T : List tw_Tk) (n : Nat) (σ : rx_St) : Prop := (∀ (i : Nat) (x : tw_Tk), i ≤ 500 → T[i]? = some x → σ.1 3 i = nI x.1 ∧ σ.1 4 i = nI x.2.1 ∧ (x.1 = 24 → σ.2 5 i = qL x.2.2.1) ∧ (x.1 ≤ 23 → σ.2 5 i = qL (tw_pk 32 x.2.2.2))) ∧ (T.length ≤ 500 → σ.1 3 T.length = nI 37 ∧ σ.1 4 T.length = nI n)
/-- the class's words -/
def tc_words (σ : rx_St) : Prop := ∀ k, k < 23 → σ.2 6 k = qL (tw_pk 32 (tw_word k))
/-- the bytes of the class's tape -/
def tc_bytes (b : Nat → Nat) (n : Nat) (σ : rx_St) : Prop := σ.1 1 1 = nI n ∧ n ≤ 2000 ∧ ∀ j, j < n → σ.1 2 j = nI (b j) ∧ b j < 256
def tc_Sk (q j : Nat) : Prop := q = 1 ∧ j = 5 ∨ 3 ≤ q ∧ q ≤ 5
theorem tc_bytes.fr {b : Nat → Nat} {n : Nat} {σ σ' : rx_St} (h : tc_bytes b n σ) (f : tw_fr tc_Sk σ σ') : tc_bytes b n σ' :=
  ⟨by rw [f.i (by unfold tc_Sk; omega)]; exact h.1, h.2.1, fun j hj => by rw [f.i (by unfold tc_Sk; omega)]; exact h.2.2 j hj⟩
theorem tc_words.fr {σ σ' : rx_St} (h : tc_words σ) (f : tw_fr tc_Sk σ σ') : tc_words σ' := fun k hk => by rw [f.l (by unfold tc_Sk; omega)]; exact h k hk
theorem tc_isB {c : Nat} (h : c < 256) : f_tap_isBlank (nI c) = tw_B (tw_isB c) := by
  unfold f_tap_isBlank f_tap_isBlank_24
  simp (disch := omega) only [tw_L, tw_gN, tw_cl, tw_le, tw_lt, tw_eq, nI_add, pk_mul, tw_sub, tw_B0, tw_B1, tw_nb0, tw_nb1, tw_r1s, tw_r1n, if_true, if_false, Nat.le_refl, Nat.reduceEqDiff, Nat.reduceLeDiff, Nat.reduceLT, reduceIte]
  unfold tw_isB
  by_cases a : c = 9
  · subst a; rfl
  · rw [if_neg a, beq_eq_false_iff_ne.mpr a]
    by_cases b : c = 10
    · subst b; rfl
    · rw [if_neg b, beq_eq_false_iff_ne.mpr b]
      by_cases d : c = 13
      · subst d; rfl
      · rw [if_neg d, beq_eq_false_iff_ne.mpr d]
        by_cases e : c = 32
        · subst e; rfl
        · rw [if_neg e, beq_eq_false_iff_ne.mpr e]
          rfl
theorem tc_isL {c : Nat} (h : c < 256) : f_tap_isLetter (nI c) = tw_B (tw_isL c) := by
  unfold f_tap_isLetter
  simp (disch := omega) only [tw_L, tw_gN, tw_cl, tw_le, tw_lt, tw_eq, nI_add, pk_mul, tw_sub, tw_B0, tw_B1, tw_nb0, tw_nb1, tw_r1s, tw_r1n, if_true, if_false, Nat.le_refl, Nat.reduceEqDiff, Nat.reduceLeDiff, Nat.reduceLT, reduceIte]
  unfold tw_isL
  by_cases a : c < 97
  · rw [if_pos a, decide_eq_false (by omega)]; rfl
  · rw [if_neg a, decide_eq_true (by omega)]
    by_cases b : 122 < c
    · rw [if_pos b, decide_eq_false (by omega)]; rfl
    · rw [if_neg b, decide_eq_true (by omega)]; rfl
theorem tc_isD {c : Nat} (h : c < 256) : f_tap_isDigit (nI c) = tw_B (tw_isD c) := by
  unfold f_tap_isDigit
  simp (disch := omega) only [tw_L, tw_gN, tw_cl, tw_le, tw_lt, tw_eq, nI_add, pk_mul, tw_sub, tw_B0, tw_B1, tw_nb0, tw_nb1, tw_r1s, tw_r1n, if_true, if_false, Nat.le_refl, Nat.reduceEqDiff, Nat.reduceLeDiff, Nat.reduceLT, reduceIte]
  unfold tw_isD
  by_cases a : c < 48
  · rw [if_pos a, decide_eq_false (by omega)]; rfl
  · rw [if_neg a, decide_eq_true (by omega)]
    by_cases b : 57 < c
    · rw [if_pos b, decide_eq_false (by omega)]; rfl
    · rw [if_neg b, decide_eq_true (by omega)]; rfl
theorem tc_byteAt {b : Nat → Nat} {n i : Nat} {σ : rx_St} (h : tc_bytes b n σ) (hi : i < n) : f_tap_byteAt (nI i) σ = some (nI (b i)) := by
  obtain ⟨h1, h2, h3⟩ := h
  have g := (h3 i hi).1
  unfold f_tap_byteAt
  simp (disch := omega) only [tw_L, tw_gN, tw_cl, tw_le, tw_lt, tw_eq, nI_add, pk_mul, tw_sub, tw_B0, tw_B1, tw_nb0, tw_nb1, tw_r1s, tw_r1n, if_true, if_false, Nat.le_refl, Nat.reduceEqDiff, Nat.reduceLeDiff, Nat.reduceLT, reduceIte, h1, g]
  rw [if_neg (by omega), if_neg (by omega), if_neg (by omega)]
theorem tc_byteAtN {b : Nat → Nat} {n i : Nat} {σ : rx_St} (h : tc_bytes b n σ) (hi : n ≤ i) (hi2 : i < 100000) : f_tap_byteAt (nI i) σ = some (-1 : Int32) := by
  obtain ⟨h1, h2, h3⟩ := h
  unfold f_tap_byteAt
  rw [if_neg (show ¬ nI i < (0 : Int32) by rw [show (0 : Int32) = nI 0 from rfl, tw_lt (by omega) (by omega)]; omega), h1, if_pos (tp_yl (by omega) (by omega) hi)]
theorem qL_shl (m : Nat) : qL m <<< ((5 : Int32).toInt64 &&& 63) = qL (m * 32) := by
  have e : ((5 : Int32).toInt64 &&& 63) = (5 : Int64) := by decide
  rw [e]
  refine Int64.toBitVec_inj.mp ?_
  unfold qL
  rw [Int64.ofNat_mul]
  simp only [Int64.toBitVec_shiftLeft, Int64.toBitVec_mul]
  have e2 : (Int64.ofNat 32).toBitVec = BitVec.twoPow 64 5 := by decide
  rw [e2, BitVec.mul_twoPow_eq_shiftLeft]
  rfl
theorem tc_pack {m c : Nat} (h : tw_isL c = true) : f_tap_pack (qL m) (nI c) = qL (m * 32 + (c - 96)) := by
  unfold tw_isL at h
  simp only [Bool.and_eq_true, decide_eq_true_eq] at h
  unfold f_tap_pack
  rw [qL_shl]
  simp (disch := omega) only [tw_L, tw_gN, tw_cl, tw_le, tw_lt, tw_eq, nI_add, pk_mul, tw_sub, tw_B0, tw_B1, tw_nb0, tw_nb1, tw_r1s, tw_r1n, if_true, if_false, Nat.le_refl, Nat.reduceEqDiff, Nat.reduceLeDiff, Nat.reduceLT, reduceIte]
  rw [qL_nI (by omega), show c - 97 + 1 = c - 96 by omega]
  unfold qL
  exact (Int64.ofNat_add _ _).symm
theorem tc_word {σ : rx_St} (hW : tc_words σ) {L : List Nat} (hL : tw_az L) (h8 : L.length ≤ 8) : f_tap_wordOrName (qL (tw_pk 32 L)) σ = some (nI (tw_kf L 23)) := by
  have main : ∀ m d, d ≤ 23 → d < m → f_tap_wordOrName_2 m (qL (tw_pk 32 L)) (nI (23 - d)) σ = some (nI (tw_kf L d)) := by
    intro m
    induction m with
    | zero => intro d _ h; exact absurd h (Nat.not_lt_zero _)
    | succ m ih =>
      intro d hd hm
      unfold f_tap_wordOrName_2
      cases d with
      | zero => exact if_pos (by decide)
      | succ d =>
        have e := hW (23 - (d + 1)) (by omega)
        obtain ⟨w1, w2⟩ := tw_word_ok (show 23 - (d + 1) < 23 by omega)
        rw [if_neg (show ¬ (23 : Int32) ≤ nI (23 - (d + 1)) by rw [show (23 : Int32) = nI 23 from rfl, tw_le (by omega) (by omega)]; omega), tw_gN (by omega) (by decide), nI_clamp (by omega), e, tw_ifE (lg_cmp0 _ _), tw_ifE (qL_inj (tw_pk8 (by omega) (by omega) w1 (by omega)) (tw_pk8 (by omega) (by omega) hL h8)), tw_kf]
        by_cases c : tw_word (23 - (d + 1)) = L
        · rw [if_pos (by rw [c]), if_pos c]
        · rw [if_neg (fun h => c (tw_pk_inj (by omega) w1 hL h)), if_neg c, show nI (23 - (d + 1)) + (1 : Int32) = nI (23 - (d + 1) + 1) from nI_add _ 1, show 23 - (d + 1) + 1 = 23 - d by omega]
          exact ih d (by omega) (by omega)
  exact main rx_fu 23 (Nat.le_refl _) (by show _ < 100000; omega)
/-- a TOKEN is kept -/
def tc_kept (c k p : Nat) (v : Int64) (σ σ' : rx_St) : Prop := tw_fr tc_Sk σ σ' ∧ σ'.1 1 5 = nI (c + 1) ∧ σ'.1 3 c = nI k ∧ σ'.1 4 c = nI p ∧ σ'.2 5 c = v ∧ ∀ q j, 3 ≤ q → q ≤ 5 → j ≠ c → σ'.1 q j = σ.1 q j ∧ σ'.2 q j = σ.2 q j
theorem tc_keep {σ : rx_St} {c k p : Nat} {v : Int64} (h : σ.1 1 5 = nI c) (hc : c ≤ 500) : tw_ok (f_tap_keep (nI k) (nI p) v σ) (tc_kept c k p v σ) := by
  unfold f_tap_keep
  rw [h, if_neg (show ¬ (500 : Int32) < nI c by rw [show (500 : Int32) = nI 500 from rfl, tw_lt (by omega) (by omega)]; omega)]
  have z : ∀ (τ : rx_St) q j (x : Int64), (rx_sl τ q j x).1 = τ.1 := fun τ q j x => rfl
  simp (disch := omega) only [tw_L, tw_gN, tw_cl, tw_le, tw_lt, tw_eq, nI_add, pk_mul, tw_sub, tw_B0, tw_B1, tw_nb0, tw_nb1, tw_r1s, tw_r1n, if_true, if_false, Nat.le_refl, Nat.reduceEqDiff, Nat.reduceLeDiff, Nat.reduceLT, reduceIte, h, z]
  rw [tw_some]
  refine ⟨(((tw_fr.rf.si (by unfold tc_Sk; omega)).si (by unfold tc_Sk; omega)).sl (by unfold tc_Sk; omega)).si (by unfold tc_Sk; omega), tw_r1s _ _ _ _, ?_, ?_, ?_, fun q j h1 h2 h3 => ⟨?_, ?_⟩⟩
  · simp (disch := omega) only [tw_L, tw_gN, tw_cl, tw_le, tw_lt, tw_eq, nI_add, pk_mul, tw_sub, tw_B0, tw_B1, tw_nb0, tw_nb1, tw_r1s, tw_r1n, if_true, if_false, Nat.le_refl, Nat.reduceEqDiff, Nat.reduceLeDiff, Nat.reduceLT, reduceIte, z]
  · simp (disch := omega) only [tw_L, tw_gN, tw_cl, tw_le, tw_lt, tw_eq, nI_add, pk_mul, tw_sub, tw_B0, tw_B1, tw_nb0, tw_nb1, tw_r1s, tw_r1n, if_true, if_false, Nat.le_refl, Nat.reduceEqDiff, Nat.reduceLeDiff, Nat.reduceLT, reduceIte, z]
  · show (rx_sl _ 5 c v).2 5 c = v
    rw [tw_r2, if_pos ⟨rfl, rfl⟩]
  · rw [tw_r1n _ _ (by omega), z, tw_r1n _ _ (by omega), tw_r1n _ _ (by omega)]
  · show (rx_sl _ 5 c v).2 q j = _
    rw [tw_r2, if_neg (by omega)]
    rfl
theorem tc_letters {b : Nat → Nat} {n i : Nat} {σ : rx_St} {c : Nat} (h : tc_bytes b n σ) (hW : tc_words σ) (hi : i ≤ n) (hc : σ.1 1 5 = nI c) (hc5 : c ≤ 500) :
    ∃ σ' v, f_tap_scanLetters (nI i) σ = some (nI (tw_rn tw_isL b (n - i) i), σ') ∧ tc_kept c (if tw_rn tw_isL b (n - i) i - i ≤ 8 then tw_kf (tw_ll b i (tw_rn tw_isL b (n - i) i - i)) 23 else 38) i v σ σ' ∧ (tw_rn tw_isL b (n - i) i - i ≤ 8 → v = qL (tw_pk 32 (tw_ll b i (tw_rn tw_isL b (n - i) i - i)))) := by
  have n2 := h.2.1
  have jb := tw_rn_le tw_isL b (n - i) i
  have az : tw_az (tw_ll b i (tw_rn tw_isL b (n - i) i - i)) := tw_ll_az b i _ (fun j hj => tw_rn_p tw_isL b (n - i) i (i + j) (by omega) (by omega))
  have fin : ∃ σ' v, f_tap_scanLetters_39 (nI i) (nI (tw_rn tw_isL b (n - i) i)) (qL (tw_pk 32 (tw_ll b i (tw_rn tw_isL b (n - i) i - i)))) σ = some (nI (tw_rn tw_isL b (n - i) i), σ') ∧ tc_kept c (if tw_rn tw_isL b (n - i) i - i ≤ 8 then tw_kf (tw_ll b i (tw_rn tw_isL b (n - i) i - i)) 23 else 38) i v σ σ' ∧ (tw_rn tw_isL b (n - i) i - i ≤ 8 → v = qL (tw_pk 32 (tw_ll b i (tw_rn tw_isL b (n - i) i - i)))) := by
    unfold f_tap_scanLetters_39 f_tap_scanLetters_58
    rw [tw_sub jb.1, show (8 : Int32) = nI 8 from rfl, tw_ifE (tw_le (a := tw_rn tw_isL b (n - i) i - i) (b := 8) (by omega) (by omega))]
    by_cases c8 : tw_rn tw_isL b (n - i) i - i ≤ 8
    · rw [if_pos c8, if_pos c8]
      obtain ⟨σ', e, k⟩ := tc_keep (k := tw_kf (tw_ll b i (tw_rn tw_isL b (n - i) i - i)) 23) (p := i) (v := qL (tw_pk 32 (tw_ll b i (tw_rn tw_isL b (n - i) i - i)))) hc hc5
      refine ⟨σ', _, ?_, k, fun _ => rfl⟩
      rw [tc_word hW az (by rw [tw_ll_len]; exact c8), Option.bind_some, e]
      rfl
    · rw [if_neg c8, if_neg c8]
      obtain ⟨σ', e, k⟩ := tc_keep (k := 38) (p := i) (v := qL (tw_pk 32 (tw_ll b i (tw_rn tw_isL b (n - i) i - i)))) hc hc5
      refine ⟨σ', _, ?_, k, fun z => absurd z c8⟩
      have e' : f_tap_keep (38 : Int32) (nI i) (qL (tw_pk 32 (tw_ll b i (tw_rn tw_isL b (n - i) i - i)))) σ = some σ' := e
      rw [e']
      rfl
  have main : ∀ m f k, f < m → i + k + f = n → tw_rn tw_isL b f (i + k) = tw_rn tw_isL b (n - i) i → f_tap_scanLetters_4 m (nI i) (nI (i + k)) (qL (tw_pk 32 (tw_ll b i k))) σ = f_tap_scanLetters_39 (nI i) (nI (tw_rn tw_isL b (n - i) i)) (qL (tw_pk 32 (tw_ll b i (tw_rn tw_isL b (n - i) i - i)))) σ := by
    intro m
    induction m with
    | zero => intro f k h; exact absurd h (Nat.not_lt_zero _)
    | succ m ih =>
      intro f k hm hf e
      unfold f_tap_scanLetters_4
      rw [h.1]
      cases f with
      | zero =>
        rw [if_pos (tp_yl (by omega) (by omega) (by omega))]
        have e' : i + k = tw_rn tw_isL b (n - i) i := e
        rw [← e', show i + k - i = k by omega]
      | succ f =>
        have hb := h.2.2 (i + k) (by omega)
        rw [if_neg (tp_nl (by omega) (by omega) (by omega)), tc_byteAt h (by omega), Option.bind_some, tc_isL hb.2]
        rw [tw_rn] at e
        cases L : tw_isL (b (i + k)) with
        | false =>
          rw [if_pos (by rfl)]
          rw [L, if_neg (by decide)] at e
          rw [← e, show i + k - i = k by omega]
        | true =>
          rw [if_neg (by decide), Option.bind_some]
          rw [L, if_pos rfl] at e
          have p := tc_pack (m := tw_pk 32 (tw_ll b i k)) L
          show f_tap_scanLetters_4 m (nI i) (nI (i + k) + (1 : Int32)) (f_tap_pack (qL (tw_pk 32 (tw_ll b i k))) (nI (b (i + k)))) σ = _
          rw [p, show nI (i + k) + (1 : Int32) = nI (i + (k + 1)) from nI_add _ 1]
          exact ih f (k + 1) (by omega) (by omega) e
  have e0 := main rx_fu (n - i) 0 (by show _ < 100000; omega) (by omega) (by rw [Nat.add_zero])
  obtain ⟨σ', v, g1, g2⟩ := fin
  refine ⟨σ', v, ?_, g2⟩
  unfold f_tap_scanLetters
  exact e0.trans g1
theorem tc_dig {m c : Nat} (h : tw_isD c = true) (hc : c < 256) : (qL m * (10 : Int64)) + ((nI c - (48 : Int32)).toInt64) = qL (m * 10 + (c - 48)) := by
  unfold tw_isD at h
  simp only [Bool.and_eq_true, decide_eq_true_eq] at h
  simp (disch := omega) only [tw_L, tw_gN, tw_cl, tw_le, tw_lt, tw_eq, nI_add, pk_mul, tw_sub, tw_B0, tw_B1, tw_nb0, tw_nb1, tw_r1s, tw_r1n, if_true, if_false, Nat.le_refl, Nat.reduceEqDiff, Nat.reduceLeDiff, Nat.reduceLT, reduceIte]
  rw [qL_nI (by omega)]
  unfold qL
  rw [Int64.ofNat_add, Int64.ofNat_mul]
  rfl
theorem tc_digits {b : Nat → Nat} {n i : Nat} {σ : rx_St} {c : Nat} (h : tc_bytes b n σ) (hi : i ≤ n) (hc : σ.1 1 5 = nI c) (hc5 : c ≤ 500) :
    ∃ σ', f_tap_scanDigits (nI i) σ = some (nI (tw_rn tw_isD b (n - i) i), σ') ∧ tc_kept c (if tw_rn tw_isD b (n - i) i - i ≤ 4 then 24 else 38) i (qL (tw_dv b i (tw_rn tw_isD b (n - i) i - i))) σ σ' := by
  have n2 := h.2.1
  have jb := tw_rn_le tw_isD b (n - i) i
  have fin : ∃ σ', f_tap_scanDigits_45 (nI i) (nI (tw_rn tw_isD b (n - i) i)) (qL (tw_dv b i (tw_rn tw_isD b (n - i) i - i))) σ = some (nI (tw_rn tw_isD b (n - i) i), σ') ∧ tc_kept c (if tw_rn tw_isD b (n - i) i - i ≤ 4 then 24 else 38) i (qL (tw_dv b i (tw_rn tw_isD b (n - i) i - i))) σ σ' := by
    unfold f_tap_scanDigits_45 f_tap_scanDigits_60
    rw [tw_sub jb.1, show (4 : Int32) = nI 4 from rfl, tw_ifE (tw_le (a := tw_rn tw_isD b (n - i) i - i) (b := 4) (by omega) (by omega))]
    by_cases c8 : tw_rn tw_isD b (n - i) i - i ≤ 4
    · rw [if_pos c8, if_pos c8]
      obtain ⟨σ', e, k⟩ := tc_keep (k := 24) (p := i) (v := qL (tw_dv b i (tw_rn tw_isD b (n - i) i - i))) hc hc5
      refine ⟨σ', ?_, k⟩
      have e' : f_tap_keep (24 : Int32) (nI i) (qL (tw_dv b i (tw_rn tw_isD b (n - i) i - i))) σ = some σ' := e
      rw [e']
      rfl
    · rw [if_neg c8, if_neg c8]
      obtain ⟨σ', e, k⟩ := tc_keep (k := 38) (p := i) (v := qL (tw_dv b i (tw_rn tw_isD b (n - i) i - i))) hc hc5
      refine ⟨σ', ?_, k⟩
      have e' : f_tap_keep (38 : Int32) (nI i) (qL (tw_dv b i (tw_rn tw_isD b (n - i) i - i))) σ = some σ' := e
      rw [e']
      rfl
  have main : ∀ m f k, f < m → i + k + f = n → tw_rn tw_isD b f (i + k) = tw_rn tw_isD b (n - i) i → f_tap_scanDigits_4 m (nI i) (nI (i + k)) (qL (tw_dv b i k)) σ = f_tap_scanDigits_45 (nI i) (nI (tw_rn tw_isD b (n - i) i)) (qL (tw_dv b i (tw_rn tw_isD b (n - i) i - i))) σ := by
    intro m
    induction m with
    | zero => intro f k h; exact absurd h (Nat.not_lt_zero _)
    | succ m ih =>
      intro f k hm hf e
      unfold f_tap_scanDigits_4
      rw [h.1]
      cases f with
      | zero =>
        rw [if_pos (tp_yl (by omega) (by omega) (by omega))]
        have e' : i + k = tw_rn tw_isD b (n - i) i := e
        rw [← e', show i + k - i = k by omega]
      | succ f =>
        have hb := h.2.2 (i + k) (by omega)
        rw [if_neg (tp_nl (by omega) (by omega) (by omega)), tc_byteAt h (by omega), Option.bind_some, tc_isD hb.2]
        rw [tw_rn] at e
        cases L : tw_isD (b (i + k)) with
        | false =>
          rw [if_pos (by rfl)]
          rw [L, if_neg (by decide)] at e
          rw [← e, show i + k - i = k by omega]
        | true =>
          rw [if_neg (by decide), Option.bind_some]
          rw [L, if_pos rfl] at e
          have p := tc_dig (m := tw_dv b i k) L hb.2
          show f_tap_scanDigits_4 m (nI i) (nI (i + k) + (1 : Int32)) ((qL (tw_dv b i k) * (10 : Int64)) + ((nI (b (i + k)) - (48 : Int32)).toInt64)) σ = _
          rw [p, show nI (i + k) + (1 : Int32) = nI (i + (k + 1)) from nI_add _ 1]
          exact ih f (k + 1) (by omega) (by omega) e
  have e0 := main rx_fu (n - i) 0 (by show _ < 100000; omega) (by omega) (by rw [Nat.add_zero])
  obtain ⟨σ', g1, g2⟩ := fin
  refine ⟨σ', ?_, g2⟩
  unfold f_tap_scanDigits
  exact e0.trans g1
set_option maxRecDepth 100000 in
theorem tc_single : ∀ c, c < 256 → f_tap_singleSign (nI c) = nI (tw_sg c) := by decide +kernel
set_option maxRecDepth 100000 in
theorem tc_double : ∀ c, c < 256 → f_tap_doubleSign (nI c) = nI (tw_dg c) := by decide +kernel
theorem tw_dg_le (c : Nat) : tw_dg c ≤ 38 := by
  unfold tw_dg
  by_cases a : c = 33
  · rw [if_pos a]; omega
  · rw [if_neg a]
    by_cases a : c = 60
    · rw [if_pos a]; omega
    · rw [if_neg a]
      by_cases a : c = 61
      · rw [if_pos a]; omega
      · rw [if_neg a]; omega
/-- a TOKEN scanned: its row -/
def tc_row (c : Nat) (x : tw_Tk) (σ σ' : rx_St) : Prop := ∃ v, tc_kept c x.1 x.2.1 v σ σ' ∧ (x.1 = 24 → v = qL x.2.2.1) ∧ (x.1 ≤ 23 → v = qL (tw_pk 32 x.2.2.2))
theorem tw_sg_ge (c : Nat) : 25 ≤ tw_sg c := by
  unfold tw_sg
  repeat (split; omega)
  omega
theorem tw_sg_le (c : Nat) : tw_sg c ≤ 38 := by
  unfold tw_sg
  repeat (split; omega)
  omega
theorem tw_dg_ge (c : Nat) : 31 ≤ tw_dg c := by
  unfold tw_dg
  repeat (split; omega)
  omega
theorem tc_token {b : Nat → Nat} {n i : Nat} {σ : rx_St} {c : Nat} (h : tc_bytes b n σ) (hW : tc_words σ) (hi : i < n) (hc : σ.1 1 5 = nI c) (hc5 : c ≤ 500) :
    ∃ σ', f_tap_scanToken (nI i) σ = some (nI (tw_tk b n i).2, σ') ∧ tc_row c (tw_tk b n i).1 σ σ' := by
  have n2 := h.2.1
  have hb := (h.2.2 i hi).2
  unfold f_tap_scanToken tw_tk
  rw [tc_byteAt h hi, Option.bind_some, tc_isL hb]
  cases L : tw_isL (b i) with
  | true =>
    rw [if_neg (show ¬ tw_B true = (0 : Int32) by decide), if_pos (show (true : Bool) = true from rfl)]
    obtain ⟨σ', v, e, k1, k2⟩ := tc_letters (i := i) h hW (by omega) hc hc5
    refine ⟨σ', ?_, v, k1, fun z => ?_, fun z => ?_⟩
    · rw [e]; rfl
    · have z' : (if tw_rn tw_isL b (n - i) i - i ≤ 8 then tw_kf (tw_ll b i (tw_rn tw_isL b (n - i) i - i)) 23 else 38) = 24 := z
      by_cases c8 : tw_rn tw_isL b (n - i) i - i ≤ 8
      · rw [if_pos c8] at z'
        have := tw_kf_le (tw_ll b i (tw_rn tw_isL b (n - i) i - i))
        omega
      · rw [if_neg c8] at z'; omega
    · have z' : (if tw_rn tw_isL b (n - i) i - i ≤ 8 then tw_kf (tw_ll b i (tw_rn tw_isL b (n - i) i - i)) 23 else 38) ≤ 23 := z
      by_cases c8 : tw_rn tw_isL b (n - i) i - i ≤ 8
      · exact k2 c8
      · rw [if_neg c8] at z'; omega
  | false =>
    rw [if_pos (show tw_B false = (0 : Int32) from rfl), if_neg (show ¬ (false : Bool) = true by decide), tc_isD hb]
    cases D : tw_isD (b i) with
    | true =>
      rw [if_neg (show ¬ tw_B true = (0 : Int32) by decide), if_pos (show (true : Bool) = true from rfl)]
      obtain ⟨σ', e, k1⟩ := tc_digits (i := i) h (by omega) hc hc5
      refine ⟨σ', ?_, _, k1, fun z => rfl, fun z => ?_⟩
      · rw [e]; rfl
      · have z' : (if tw_rn tw_isD b (n - i) i - i ≤ 4 then 24 else 38) ≤ 23 := z
        by_cases c8 : tw_rn tw_isD b (n - i) i - i ≤ 4
        · rw [if_pos c8] at z'; omega
        · rw [if_neg c8] at z'; omega
    | false =>
      rw [if_pos (show tw_B false = (0 : Int32) from rfl), if_neg (show ¬ (false : Bool) = true by decide)]
      have single : ∀ k t, k = nI t → 25 ≤ t → t ≤ 38 → ∀ (d : Nat), d = 1 ∨ d = 2 → ∃ σ', f_tap_scanToken_96 (nI i) (nI d) k σ = some (nI (i + d), σ') ∧ tc_row c (t, i, 0, []) σ σ' := by
        intro k t hk h1 h2 d hd
        subst hk
        obtain ⟨σ', e, kk⟩ := tc_keep (k := t) (p := i) (v := qL 0) hc hc5
        refine ⟨σ', ?_, _, kk, fun z => ?_, fun z => ?_⟩
        · unfold f_tap_scanToken_96
          have e' : f_tap_keep (nI t) (nI i) (0 : Int64) σ = some σ' := e
          rw [e', Option.bind_some, nI_add]
        · rfl
        · have z' : t ≤ 23 := z
          omega
      have sg38 : tw_sg (b i) ≤ 38 := tw_sg_le _
      have nx : ∀ y, f_tap_byteAt (nI i + (1 : Int32)) σ = some y → (y = (61 : Int32)) = (i + 1 < n ∧ b (i + 1) = 61) := by
        intro y hy
        rw [show nI i + (1 : Int32) = nI (i + 1) from nI_add i 1] at hy
        by_cases l : i + 1 < n
        · rw [tc_byteAt h l] at hy
          rw [← Option.some.inj hy, show (61 : Int32) = nI 61 from rfl, tw_eq (by have := (h.2.2 _ l).2; omega) (by omega)]
          exact propext ⟨fun z => ⟨l, z⟩, fun z => z.2⟩
        · rw [tc_byteAtN h (by omega) (by omega)] at hy
          rw [← Option.some.inj hy]
          exact propext ⟨fun z => absurd z (by decide), fun z => absurd z.1 l⟩
      obtain ⟨y, hy⟩ : ∃ y, f_tap_byteAt (nI i + (1 : Int32)) σ = some y := by
        rw [show nI i + (1 : Int32) = nI (i + 1) from nI_add i 1]
        by_cases l : i + 1 < n
        · exact ⟨_, tc_byteAt h l⟩
        · exact ⟨_, tc_byteAtN h (by omega) (by omega)⟩
      rw [hy, Option.bind_some]
      have nxy := nx y hy
      by_cases c1 : i + 1 < n ∧ b (i + 1) = 61
      · rw [if_pos (by rw [nxy]; exact c1)]
        unfold f_tap_scanToken_49 f_tap_scanToken_63 f_tap_scanToken_77
        rw [if_neg (by decide), tc_double _ hb]
        by_cases c2 : tw_dg (b i) = 38
        · have e38 : nI (tw_dg (b i)) = (38 : Int32) := by rw [c2]; rfl
          rw [if_pos e38, if_pos e38, if_neg (fun z => z.2.2 c2), tc_single _ hb]
          exact single _ _ rfl (tw_sg_ge _) sg38 1 (Or.inl rfl)
        · have e38 : ¬ nI (tw_dg (b i)) = (38 : Int32) := by
            have := tw_dg_le (b i)
            rw [show (38 : Int32) = nI 38 from rfl, tw_eq (by omega) (by omega)]; exact c2
          rw [if_neg e38, if_neg e38, if_pos ⟨c1.1, c1.2, c2⟩]
          exact single _ _ rfl (by have := tw_dg_ge (b i); omega) (tw_dg_le _) 2 (Or.inr rfl)
      · rw [if_neg (by rw [nxy]; exact c1)]
        unfold f_tap_scanToken_49 f_tap_scanToken_63 f_tap_scanToken_77
        rw [if_pos (by rfl), if_pos (by rfl), if_pos (by rfl), if_neg (fun z => c1 ⟨z.1, z.2.1⟩), tc_single _ hb]
        exact single _ _ rfl (tw_sg_ge _) sg38 1 (Or.inl rfl)
theorem tc_scan {b : Nat → Nat} {n : Nat} {σ : rx_St} (h : tc_bytes b n σ) (hW : tc_words σ) : tw_ok (f_tap_scan σ) (fun σ' => tw_fr tc_Sk σ σ' ∧ tc_tok (tw_sc b n n 0) n σ') := by
  have n2 := h.2.1
  have main : ∀ m f i c σ1, f < m → n - i ≤ f → tw_fr tc_Sk σ σ1 → σ1.1 1 5 = nI c → c ≤ 501 → (tw_sc b n n 0).drop c = tw_sc b n f i → c ≤ (tw_sc b n n 0).length → i < 100000 → (∀ (j : Nat) (x : tw_Tk), j < c → (tw_sc b n n 0)[j]? = some x → σ1.1 3 j = nI x.1 ∧ σ1.1 4 j = nI x.2.1 ∧ (x.1 = 24 → σ1.2 5 j = qL x.2.2.1) ∧ (x.1 ≤ 23 → σ1.2 5 j = qL (tw_pk 32 x.2.2.2))) →
      tw_ok (f_tap_scan_7 m (nI i) σ1) (fun σ' => tw_fr tc_Sk σ σ' ∧ tc_tok (tw_sc b n n 0) n σ') := by
    intro m
    induction m with
    | zero => intro f i c σ1 h; exact absurd h (Nat.not_lt_zero _)
    | succ m ih =>
      intro f i c σ1 hm hf fr hc hc5 hd hcl hi9 hrow
      have hB : tc_bytes b n σ1 := h.fr fr
      have hW1 : tc_words σ1 := hW.fr fr
      have fin : (tw_sc b n n 0).length = c ∨ c = 501 → tw_ok (f_tap_scan_57 σ1) (fun σ' => tw_fr tc_Sk σ σ' ∧ tc_tok (tw_sc b n n 0) n σ') := by
        intro hl
        have l1 := hB.1
        unfold f_tap_scan_57
        simp (disch := omega) only [tw_L, tw_gN, tw_cl, tw_le, tw_lt, tw_eq, nI_add, pk_mul, tw_sub, tw_B0, tw_B1, tw_nb0, tw_nb1, tw_r1s, tw_r1n, if_true, if_false, Nat.le_refl, Nat.reduceEqDiff, Nat.reduceLeDiff, Nat.reduceLT, reduceIte, hc, l1]
        rw [tw_some]
        refine ⟨(fr.si (by unfold tc_Sk; omega)).si (by unfold tc_Sk; omega), fun j x hj hx => ?_, fun hl5 => ?_⟩
        · have jl := (List.getElem?_eq_some_iff.mp hx).1
          have jc : j < c := by omega
          obtain ⟨r1, r2, r3, r4⟩ := hrow j x jc hx
          simp (disch := omega) only [tw_L, tw_gN, tw_cl, tw_le, tw_lt, tw_eq, nI_add, pk_mul, tw_sub, tw_B0, tw_B1, tw_nb0, tw_nb1, tw_r1s, tw_r1n, if_true, if_false, Nat.le_refl, Nat.reduceEqDiff, Nat.reduceLeDiff, Nat.reduceLT, reduceIte, r1, r2]
          exact ⟨trivial, trivial, r3, r4⟩
        · have e : (tw_sc b n n 0).length = c := by omega
          rw [e]
          simp (disch := omega) only [tw_L, tw_gN, tw_cl, tw_le, tw_lt, tw_eq, nI_add, pk_mul, tw_sub, tw_B0, tw_B1, tw_nb0, tw_nb1, tw_r1s, tw_r1n, if_true, if_false, Nat.le_refl, Nat.reduceEqDiff, Nat.reduceLeDiff, Nat.reduceLT, reduceIte]
          exact ⟨trivial, trivial⟩
      unfold f_tap_scan_7
      rw [hB.1, hc]
      by_cases c1 : n ≤ i
      · rw [if_pos (tp_yl (by omega) (by omega) c1)]
        refine fin (Or.inl ?_)
        have e : tw_sc b n f i = [] := by
          cases f with
          | zero => rfl
          | succ f => rw [tw_sc, if_pos c1]
        rw [e] at hd
        have := congrArg List.length hd
        rw [List.length_drop] at this
        have : (tw_sc b n n 0).length - c = 0 := this
        omega
      · rw [if_neg (tp_nl (by omega) (by omega) c1)]
        by_cases c2 : 500 < c
        · rw [if_pos (by rw [show (500 : Int32) = nI 500 from rfl, tw_lt (by omega) (by omega)]; exact c2)]
          exact fin (Or.inr (by omega))
        · rw [if_neg (by rw [show (500 : Int32) = nI 500 from rfl, tw_lt (by omega) (by omega)]; exact c2)]
          obtain ⟨f', rfl⟩ : ∃ f', f = f' + 1 := ⟨f - 1, by omega⟩
          have hb := (hB.2.2 i (by omega)).2
          rw [tc_byteAt hB (by omega), Option.bind_some, tc_isB hb]
          rw [tw_sc, if_neg c1] at hd
          have mx : ∀ a d, a < 100000 → d < 100000 → d ≤ a + 1 → f_j_max (nI a + (1 : Int32)) (nI d) = nI (a + 1) := by
            intro a d h1 h2 h3
            rw [show nI a + (1 : Int32) = nI (a + 1) from nI_add a 1]
            unfold f_j_max
            rw [if_neg (by rw [tw_lt (by omega) (by omega)]; omega)]
          have mx2 : ∀ a d, a < 100000 → d < 100000 → a + 1 ≤ d → f_j_max (nI a + (1 : Int32)) (nI d) = nI d := by
            intro a d h1 h2 h3
            rw [show nI a + (1 : Int32) = nI (a + 1) from nI_add a 1]
            unfold f_j_max
            by_cases e : a + 1 < d
            · rw [if_pos (by rw [tw_lt (by omega) (by omega)]; exact e)]
            · rw [if_neg (by rw [tw_lt (by omega) (by omega)]; exact e), show d = a + 1 by omega]
          cases B : tw_isB (b i) with
          | true =>
            rw [if_neg (by decide)]
            rw [B, if_pos rfl] at hd
            unfold f_tap_scan_45
            show tw_ok (f_tap_scan_7 m (f_j_max (nI i + (1 : Int32)) (nI i)) σ1) _
            rw [mx i i hi9 hi9 (by omega)]
            exact ih f' (i + 1) c σ1 (by omega) (by omega) fr hc hc5 hd hcl (by omega) hrow
          | false =>
            rw [if_pos (by rfl)]
            rw [B, if_neg (by decide)] at hd
            obtain ⟨σ2, e2, v, k1, k2, k3⟩ := tc_token hB hW1 (show i < n by omega) hc (by omega)
            obtain ⟨g1, g2, g3, g4, g5, g6⟩ := k1
            have gt := tw_tk_gt b (show i < n by omega)
            have up : (tw_tk b n i).2 ≤ n + 2 := by
              unfold tw_tk
              have a1 := tw_rn_le tw_isL b (n - i) i
              have a2 := tw_rn_le tw_isD b (n - i) i
              split
              · show tw_rn tw_isL b (n - i) i ≤ n + 2; omega
              · split
                · show tw_rn tw_isD b (n - i) i ≤ n + 2; omega
                · split
                  · show i + 2 ≤ n + 2; omega
                  · show i + 1 ≤ n + 2; omega
            rw [e2, Option.bind_some]
            unfold f_tap_scan_45
            show tw_ok (f_tap_scan_7 m (f_j_max (nI i + (1 : Int32)) (nI (tw_tk b n i).2)) σ2) _
            rw [mx2 i _ hi9 (by omega) (by omega)]
            have hx : (tw_sc b n n 0)[c]? = some (tw_tk b n i).1 := by
              have := congrArg (fun l => l[0]?) hd
              simpa using this
            have cl : c < (tw_sc b n n 0).length := (List.getElem?_eq_some_iff.mp hx).1
            refine ih f' _ (c + 1) σ2 (by omega) (by omega) (fr.tr g1) g2 (by omega) ?_ (by omega) (by omega) (fun j x hj hjx => ?_)
            · rw [← List.drop_drop, hd]
              rfl
            · by_cases jc : j = c
              · subst jc
                rw [hx] at hjx
                cases hjx
                exact ⟨g3, g4, fun z => by rw [g5]; exact k2 z, fun z => by rw [g5]; exact k3 z⟩
              · obtain ⟨r1, r2, r3, r4⟩ := hrow j x (by omega) hjx
                exact ⟨by rw [(g6 3 j (by omega) (by omega) jc).1]; exact r1, by rw [(g6 4 j (by omega) (by omega) jc).1]; exact r2, fun z => by rw [(g6 5 j (by omega) (by omega) jc).2]; exact r3 z, fun z => by rw [(g6 5 j (by omega) (by omega) jc).2]; exact r4 z⟩
  unfold f_tap_scan
  exact main rx_fu n 0 0 _ (by show _ < 100000; omega) (by omega) (tw_fr.rf.si (by unfold tc_Sk; omega)) (tw_r1s _ _ _ _) (by omega) (by rw [List.drop_zero]) (Nat.zero_le _) (by omega) (fun j x hj => absurd hj (Nat.not_lt_zero _))
