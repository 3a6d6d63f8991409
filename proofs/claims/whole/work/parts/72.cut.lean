/-! THE MODEL: cut -/
def tw_km (k : Nat) : Nat := if k ≤ 22 then 20 + k else if k = 23 then 1 else if k = 24 then 2 else if k = 25 then 4 else if k = 26 then 5 else if k = 27 then 8 else if k = 28 then 9 else if k = 29 then 10 else if k = 30 then 15 else if k = 31 then 11 else if k = 32 then 12 else if k = 33 then 13 else if k = 34 then 14 else if k = 35 then 6 else if k = 36 then 7 else if k = 37 then 0 else 3
def tm_tok (T : List tw_Tk) (n : Nat) (σ : rx_St) : Prop := (∀ (i : Nat) (x : tw_Tk), i ≤ 500 → T[i]? = some x → σ.1 90 i = nI (tw_km x.1) ∧ σ.1 91 i = nI x.2.1 ∧ (x.1 = 24 → σ.1 92 i = nI x.2.2.1) ∧ (x.1 ≤ 23 → σ.2 93 i = qL (tw_pk 27 x.2.2.2))) ∧ (T.length ≤ 500 → σ.1 90 T.length = nI 0 ∧ σ.1 91 T.length = nI n)
def tm_keys (σ : rx_St) : Prop := ∀ k, k < 23 → σ.2 94 k = qL (tw_pk 27 (tw_word k))
def tm_bytes (b : Nat → Nat) (n : Nat) (σ : rx_St) : Prop := σ.1 87 4 = nI n ∧ n ≤ 2000 ∧ ∀ j, j < n → (σ.1 89 j &&& (255 : Int32)) = nI (b j) ∧ b j < 256
def tm_Sk (q j : Nat) : Prop := q = 87 ∧ j = 10 ∨ 90 ≤ q ∧ q ≤ 93
theorem tm_bytes.fr {b : Nat → Nat} {n : Nat} {σ σ' : rx_St} (h : tm_bytes b n σ) (f : tw_fr tm_Sk σ σ') : tm_bytes b n σ' :=
  ⟨by rw [f.i (by unfold tm_Sk; omega)]; exact h.1, h.2.1, fun j hj => by rw [f.i (by unfold tm_Sk; omega)]; exact h.2.2 j hj⟩
theorem tm_keys.fr {σ σ' : rx_St} (h : tm_keys σ) (f : tw_fr tm_Sk σ σ') : tm_keys σ' := fun k hk => by rw [f.l (by unfold tm_Sk; omega)]; exact h k hk
theorem tm_at {b : Nat → Nat} {n i : Nat} {σ : rx_St} (h : tm_bytes b n σ) (hi : i < n) : f_m_at (nI i) σ = some (nI (b i)) := by
  obtain ⟨h1, h2, h3⟩ := h
  unfold f_m_at
  rw [h1, if_neg (tp_nl (by omega) (by omega) (by omega)), tw_gN (by omega) (by decide), nI_clamp (by omega), (h3 i hi).1]
theorem tm_atN {b : Nat → Nat} {n i : Nat} {σ : rx_St} (h : tm_bytes b n σ) (hi : n ≤ i) (h9 : i < 100000) : f_m_at (nI i) σ = some (nI 0) := by
  obtain ⟨h1, h2, h3⟩ := h
  unfold f_m_at
  rw [h1, if_pos (tp_yl (by omega) (by omega) hi)]
  rfl
theorem tm_isL (x : Int32) : f_m_isLetter x = f_tap_isLetter x := rfl
theorem tm_isD (x : Int32) : f_m_isDigit x = f_tap_isDigit x := rfl
/-- a TOKEN is kept -/
def tm_kept (c k p : Nat) (v : Int32) (l : Int64) (σ σ' : rx_St) : Prop := tw_fr tm_Sk σ σ' ∧ σ'.1 87 10 = nI (c + 1) ∧ σ'.1 90 c = nI k ∧ σ'.1 91 c = nI p ∧ σ'.1 92 c = v ∧ σ'.2 93 c = l ∧ ∀ q j, 90 ≤ q → q ≤ 93 → j ≠ c → σ'.1 q j = σ.1 q j ∧ σ'.2 q j = σ.2 q j
theorem tm_token {σ : rx_St} {c k p : Nat} {v : Int32} {l : Int64} (h : σ.1 87 10 = nI c) (hc : c ≤ 501) : tw_ok (f_m_token (nI k) (nI p) v l σ) (tm_kept c k p v l σ) := by
  unfold f_m_token
  have z : ∀ (τ : rx_St) q j (x : Int64), (rx_sl τ q j x).1 = τ.1 := fun τ q j x => rfl
  simp (disch := omega) only [tw_L, tw_gN, tw_cl, tw_le, tw_lt, tw_eq, nI_add, pk_mul, tw_sub, tw_B0, tw_B1, tw_nb0, tw_nb1, tw_r1s, tw_r1n, if_true, if_false, Nat.le_refl, Nat.reduceEqDiff, Nat.reduceLeDiff, Nat.reduceLT, reduceIte, h, z]
  rw [tw_some]
  refine ⟨((((tw_fr.rf.si (by unfold tm_Sk; omega)).si (by unfold tm_Sk; omega)).si (by unfold tm_Sk; omega)).sl (by unfold tm_Sk; omega)).si (by unfold tm_Sk; omega), tw_r1s _ _ _ _, ?_, ?_, ?_, ?_, fun q j h1 h2 h3 => ⟨?_, ?_⟩⟩
  · simp (disch := omega) only [tw_L, tw_gN, tw_cl, tw_le, tw_lt, tw_eq, nI_add, pk_mul, tw_sub, tw_B0, tw_B1, tw_nb0, tw_nb1, tw_r1s, tw_r1n, if_true, if_false, Nat.le_refl, Nat.reduceEqDiff, Nat.reduceLeDiff, Nat.reduceLT, reduceIte, z]
  · simp (disch := omega) only [tw_L, tw_gN, tw_cl, tw_le, tw_lt, tw_eq, nI_add, pk_mul, tw_sub, tw_B0, tw_B1, tw_nb0, tw_nb1, tw_r1s, tw_r1n, if_true, if_false, Nat.le_refl, Nat.reduceEqDiff, Nat.reduceLeDiff, Nat.reduceLT, reduceIte, z]
  · simp (disch := omega) only [tw_L, tw_gN, tw_cl, tw_le, tw_lt, tw_eq, nI_add, pk_mul, tw_sub, tw_B0, tw_B1, tw_nb0, tw_nb1, tw_r1s, tw_r1n, if_true, if_false, Nat.le_refl, Nat.reduceEqDiff, Nat.reduceLeDiff, Nat.reduceLT, reduceIte, z]
  · show (rx_sl _ 93 c l).2 93 c = l
    rw [tw_r2, if_pos ⟨rfl, rfl⟩]
  · rw [tw_r1n _ _ (by omega), z, tw_r1n _ _ (by omega), tw_r1n _ _ (by omega), tw_r1n _ _ (by omega)]
  · show (rx_sl _ 93 c l).2 q j = _
    rw [tw_r2, if_neg (by omega)]
    rfl
theorem tm_more {m c : Nat} (h : tw_isL c = true) : f_m_more (qL m) (nI c) = qL (m * 27 + (c - 96)) := by
  unfold tw_isL at h
  simp only [Bool.and_eq_true, decide_eq_true_eq] at h
  unfold f_m_more
  rw [if_neg (by rw [show (0 : Int32) = nI 0 from rfl, tw_eq (by omega) (by omega)]; omega)]
  simp (disch := omega) only [tw_L, tw_gN, tw_cl, tw_le, tw_lt, tw_eq, nI_add, pk_mul, tw_sub, tw_B0, tw_B1, tw_nb0, tw_nb1, tw_r1s, tw_r1n, if_true, if_false, Nat.le_refl, Nat.reduceEqDiff, Nat.reduceLeDiff, Nat.reduceLT, reduceIte]
  rw [qL_nI (by omega), show c - 97 + 1 = c - 96 by omega]
  unfold qL
  rw [Int64.ofNat_add, Int64.ofNat_mul, Int64.mul_comm]
  rfl
def tm_sg (c : Int32) : Int32 := if c = (59 : Int32) then (4 : Int32) else if c = (40 : Int32) then (6 : Int32) else if c = (41 : Int32) then (7 : Int32) else if c = (43 : Int32) then (8 : Int32) else if c = (45 : Int32) then (9 : Int32) else if c = (42 : Int32) then (10 : Int32) else if c = (60 : Int32) then (13 : Int32) else if c = (47 : Int32) then (15 : Int32) else if c = (61 : Int32) then (5 : Int32) else (3 : Int32)
set_option maxRecDepth 100000 in
theorem tm_sg_km : ∀ c, c < 256 → tm_sg (nI c) = nI (tw_km (tw_sg c)) := by decide +kernel
theorem tm_sign44 (i c : Int32) (σ : rx_St) : f_m_sign_44 i c (0 : Int32) σ = f_m_sign_173 i (0 : Int32) (tm_sg c) σ := by
  unfold f_m_sign_44 tm_sg
  rw [if_pos (by decide)]
  by_cases h : c = (59 : Int32)
  · rw [if_pos h, if_pos h]
  rw [if_neg h, if_neg h]
  by_cases h : c = (40 : Int32)
  · rw [if_pos h, if_pos h]
  rw [if_neg h, if_neg h]
  by_cases h : c = (41 : Int32)
  · rw [if_pos h, if_pos h]
  rw [if_neg h, if_neg h]
  by_cases h : c = (43 : Int32)
  · rw [if_pos h, if_pos h]
  rw [if_neg h, if_neg h]
  by_cases h : c = (45 : Int32)
  · rw [if_pos h, if_pos h]
  rw [if_neg h, if_neg h]
  by_cases h : c = (42 : Int32)
  · rw [if_pos h, if_pos h]
  rw [if_neg h, if_neg h]
  by_cases h : c = (60 : Int32)
  · rw [if_pos h, if_pos h]
  rw [if_neg h, if_neg h]
  by_cases h : c = (47 : Int32)
  · rw [if_pos h, if_pos h]
  rw [if_neg h, if_neg h]
  by_cases h : c = (61 : Int32)
  · rw [if_pos h, if_pos h]
  rw [if_neg h, if_neg h]
/-- a TOKEN cut: its row -/
def tm_row (c : Nat) (x : tw_Tk) (σ σ' : rx_St) : Prop := ∃ v l, tm_kept c (tw_km x.1) x.2.1 v l σ σ' ∧ (x.1 = 24 → v = nI x.2.2.1) ∧ (x.1 ≤ 23 → l = qL (tw_pk 27 x.2.2.2))
theorem tm_sign {b : Nat → Nat} {n i : Nat} {σ : rx_St} {c : Nat} {y : Int32} (hb : b i < 256) (hL : tw_isL (b i) = false) (hD : tw_isD (b i) = false) (hy : (y = (61 : Int32)) = (i + 1 < n ∧ b (i + 1) = 61)) (hc : σ.1 87 10 = nI c) (hc5 : c ≤ 501) (hi : i < 100000) :
    ∃ σ' d, f_m_sign (nI i) (nI (b i)) y σ = some (nI d, σ') ∧ i + d = (tw_tk b n i).2 ∧ d ≤ 2 ∧ tm_row c (tw_tk b n i).1 σ σ' := by
  have kk : ∀ (s0 : Int32) (t : Nat) (d : Nat), 25 ≤ t → (s0 ≤ (0 : Int32) ∧ d = 1 ∨ ¬ s0 ≤ (0 : Int32) ∧ d = 2) → ∃ σ', f_m_sign_173 (nI i) s0 (nI (tw_km t)) σ = some (nI d, σ') ∧ tm_row c (t, i, 0, []) σ σ' := by
    intro s0 t d h1 h2
    obtain ⟨σ', e, k⟩ := tm_token (k := tw_km t) (p := i) (v := nI 0) (l := qL 0) hc hc5
    refine ⟨σ', ?_, _, _, k, fun z => rfl, fun z => ?_⟩
    · unfold f_m_sign_173
      have e' : f_m_token (nI (tw_km t)) (nI i) (0 : Int32) (0 : Int64) σ = some σ' := e
      rw [e', Option.bind_some]
      rcases h2 with ⟨h3, rfl⟩ | ⟨h3, rfl⟩
      · rw [if_pos h3]; rfl
      · rw [if_neg h3]; rfl
    · have z' : t ≤ 23 := z
      omega
  have single : ∃ σ' d, f_m_sign_44 (nI i) (nI (b i)) (0 : Int32) σ = some (nI d, σ') ∧ i + d = i + 1 ∧ d ≤ 2 ∧ tm_row c (tw_sg (b i), i, 0, []) σ σ' := by
    obtain ⟨σ', e, k⟩ := kk (0 : Int32) (tw_sg (b i)) 1 (tw_sg_ge _) (Or.inl ⟨by decide, rfl⟩)
    refine ⟨σ', 1, ?_, rfl, by omega, k⟩
    rw [tm_sign44, tm_sg_km _ hb]
    exact e
  unfold f_m_sign tw_tk
  rw [hL, hD, if_neg (show ¬ (false : Bool) = true by decide), if_neg (show ¬ (false : Bool) = true by decide)]
  by_cases c1 : i + 1 < n ∧ b (i + 1) = 61
  · rw [if_pos (by rw [hy]; exact c1)]
    have dbl : ∀ (m t : Nat), tw_km t = m → t = tw_dg (b i) → 31 ≤ t → t ≠ 38 → 0 < m → m < 100 → ∃ σ' d, f_m_sign_44 (nI i) (nI (b i)) (nI m) σ = some (nI d, σ') ∧ i + d = (if i + 1 < n ∧ b (i + 1) = 61 ∧ tw_dg (b i) ≠ 38 then ((tw_dg (b i), i, 0, []), i + 2) else ((tw_sg (b i), i, 0, []), i + 1) : tw_Tk × Nat).2 ∧ d ≤ 2 ∧ tm_row c (if i + 1 < n ∧ b (i + 1) = 61 ∧ tw_dg (b i) ≠ 38 then ((tw_dg (b i), i, 0, []), i + 2) else ((tw_sg (b i), i, 0, []), i + 1) : tw_Tk × Nat).1 σ σ' := by
      intro m t h1 h2 h3 h4 h5 h6
      have np : ¬ nI m ≤ (0 : Int32) := by rw [show (0 : Int32) = nI 0 from rfl, tw_le (by omega) (by omega)]; omega
      obtain ⟨σ', e, k⟩ := kk (nI m) t 2 (by omega) (Or.inr ⟨np, rfl⟩)
      refine ⟨σ', 2, ?_, ?_, by omega, ?_⟩
      · unfold f_m_sign_44
        rw [if_neg np]
        rw [h1] at e
        exact e
      · rw [if_pos ⟨c1.1, c1.2, by rw [← h2]; exact h4⟩]
      · rw [if_pos ⟨c1.1, c1.2, by rw [← h2]; exact h4⟩, ← h2]
        exact k
    by_cases e1 : b i = 61
    · rw [e1, if_pos (show nI 61 = (61 : Int32) from rfl)]
      have := dbl 11 31 (by decide) (by rw [e1]; rfl) (by omega) (by omega) (by omega) (by omega)
      rw [e1] at this
      exact this
    · rw [if_neg (show ¬ nI (b i) = (61 : Int32) by rw [show (61 : Int32) = nI 61 from rfl, tw_eq (by omega) (by omega)]; exact e1)]
      by_cases e2 : b i = 33
      · rw [e2, if_pos (show nI 33 = (33 : Int32) from rfl)]
        have := dbl 12 32 (by decide) (by rw [e2]; rfl) (by omega) (by omega) (by omega) (by omega)
        rw [e2] at this
        exact this
      · rw [if_neg (show ¬ nI (b i) = (33 : Int32) by rw [show (33 : Int32) = nI 33 from rfl, tw_eq (by omega) (by omega)]; exact e2)]
        by_cases e3 : b i = 60
        · rw [e3, if_pos (show nI 60 = (60 : Int32) from rfl)]
          have := dbl 14 34 (by decide) (by rw [e3]; rfl) (by omega) (by omega) (by omega) (by omega)
          rw [e3] at this
          exact this
        · rw [if_neg (show ¬ nI (b i) = (60 : Int32) by rw [show (60 : Int32) = nI 60 from rfl, tw_eq (by omega) (by omega)]; exact e3)]
          have d38 : tw_dg (b i) = 38 := by unfold tw_dg; rw [if_neg e2, if_neg e3, if_neg e1]
          rw [if_neg (fun z => z.2.2 d38)]
          exact single
  · rw [if_neg (by rw [hy]; exact c1), if_neg (fun z => c1 ⟨z.1, z.2.1⟩)]
    exact single
theorem tm_keyL {σ : rx_St} (hW : tm_keys σ) {L : List Nat} (hL : tw_az L) (h8 : L.length ≤ 8) {k7 : Int32 → rx_St → Option rx_St} {i cnt : Int32} :
    f_m_cut_146 k7 rx_fu i cnt (qL (tw_pk 27 L)) (nI 1) (nI 0) σ = f_m_cut_179 k7 i cnt (qL (tw_pk 27 L)) (nI (tw_km (tw_kf L 23))) σ := by
  have main : ∀ m k v6, k ≤ 23 → 23 - k < m → (v6 = nI 1 ∧ (∀ j, j < k → tw_word j ≠ L) ∨ ∃ j, j < k ∧ tw_word j = L ∧ v6 = nI (20 + j)) → f_m_cut_146 k7 m i cnt (qL (tw_pk 27 L)) v6 (nI k) σ = f_m_cut_179 k7 i cnt (qL (tw_pk 27 L)) (nI (tw_km (tw_kf L 23))) σ := by
    intro m
    induction m with
    | zero => intro k v6 _ h; exact absurd h (Nat.not_lt_zero _)
    | succ m ih =>
      intro k v6 hk hm hv
      unfold f_m_cut_146
      by_cases c : k = 23
      · subst c
        rw [if_pos (by decide)]
        have e : v6 = nI (tw_km (tw_kf L 23)) := by
          rcases tw_kf_ok L 23 (Nat.le_refl _) with ⟨g1, g2⟩ | ⟨g1, g2⟩
          · rcases hv with ⟨-, h2⟩ | ⟨j, h1, h2, h3⟩
            · exact absurd g2 (h2 _ g1)
            · have : tw_kf L 23 = j := (tw_word_az j h1).2.2 _ g1 (g2.trans h2.symm)
              rw [h3, this]
              unfold tw_km
              rw [if_pos (by omega)]
          · rcases hv with ⟨h1, -⟩ | ⟨j, h1, h2, -⟩
            · rw [h1, g1]; rfl
            · exact absurd h2 (g2 j (by omega) h1)
        rw [e]
      · obtain ⟨w1, w2⟩ := tw_word_ok (show k < 23 by omega)
        rw [if_neg (show ¬ (23 : Int32) ≤ nI k by rw [show (23 : Int32) = nI 23 from rfl, tw_le (by omega) (by omega)]; omega), tw_gN (by omega) (by decide), nI_clamp (by omega), hW k (by omega), tw_ifE (lg_cmp0 _ _), tw_ifE (qL_inj (tw_pk8 (by omega) (by omega) w1 (by omega)) (tw_pk8 (by omega) (by omega) hL h8))]
        unfold f_m_cut_173
        rw [show nI k + (1 : Int32) = nI (k + 1) from nI_add k 1, show (20 : Int32) + nI k = nI (20 + k) from nI_add 20 k]
        by_cases d : tw_word k = L
        · rw [if_pos (by rw [d])]
          exact ih (k + 1) _ (by omega) (by omega) (Or.inr ⟨k, by omega, d, rfl⟩)
        · rw [if_neg (fun h => d (tw_pk_inj (by omega) w1 hL h))]
          refine ih (k + 1) _ (by omega) (by omega) ?_
          rcases hv with ⟨h1, h2⟩ | ⟨j, h1, h2, h3⟩
          · refine Or.inl ⟨h1, fun j hj => ?_⟩
            by_cases e : j = k
            · rw [e]; exact d
            · exact h2 j (by omega)
          · exact Or.inr ⟨j, by omega, h2, h3⟩
  exact main rx_fu 0 _ (by omega) (by show _ < 100000; omega) (Or.inl ⟨rfl, fun j hj => absurd hj (Nat.not_lt_zero _)⟩)
theorem tm_letters {b : Nat → Nat} {n i : Nat} {σ : rx_St} {c : Nat} (h : tm_bytes b n σ) (hW : tm_keys σ) (hi : i ≤ n) (hc : σ.1 87 10 = nI c) (hc5 : c ≤ 501) (hL0 : tw_isL (b i) = true) (hin : i < n) {k7 : Int32 → rx_St → Option rx_St} :
    ∃ σ', f_m_cut_85 k7 rx_fu (nI i) (nI 0) (qL 0) σ = k7 (nI (tw_tk b n i).2) σ' ∧ tm_row c (tw_tk b n i).1 σ σ' := by
  have n2 := h.2.1
  have jb := tw_rn_le tw_isL b (n - i) i
  have az : tw_az (tw_ll b i (tw_rn tw_isL b (n - i) i - i)) := tw_ll_az b i _ (fun j hj => tw_rn_p tw_isL b (n - i) i (i + j) (by omega) (by omega))
  unfold tw_tk
  rw [if_pos hL0]
  -- at the end of the run
  have fin : ∀ l, (tw_rn tw_isL b (n - i) i - i ≤ 8 → l = qL (tw_pk 27 (tw_ll b i (tw_rn tw_isL b (n - i) i - i)))) → ∃ σ', (if nI (tw_rn tw_isL b (n - i) i - i) ≤ (8 : Int32) then f_m_cut_135 k7 (nI i) (nI (tw_rn tw_isL b (n - i) i - i)) l (1 : Int32) σ else f_m_cut_135 k7 (nI i) (nI (tw_rn tw_isL b (n - i) i - i)) l (3 : Int32) σ) = k7 (nI (tw_rn tw_isL b (n - i) i)) σ' ∧ tm_row c ((if tw_rn tw_isL b (n - i) i - i ≤ 8 then tw_kf (tw_ll b i (tw_rn tw_isL b (n - i) i - i)) 23 else 38, i, 0, tw_ll b i (tw_rn tw_isL b (n - i) i - i))) σ σ' := by
    intro l hl
    have tok : ∀ t, (tw_rn tw_isL b (n - i) i - i ≤ 8 ∧ t = tw_kf (tw_ll b i (tw_rn tw_isL b (n - i) i - i)) 23 ∨ ¬ tw_rn tw_isL b (n - i) i - i ≤ 8 ∧ t = 38) → ∃ σ', f_m_cut_179 k7 (nI i) (nI (tw_rn tw_isL b (n - i) i - i)) l (nI (tw_km t)) σ = k7 (nI (tw_rn tw_isL b (n - i) i)) σ' ∧ tm_row c (t, i, 0, tw_ll b i (tw_rn tw_isL b (n - i) i - i)) σ σ' := by
      intro t ht
      obtain ⟨σ', e, k⟩ := tm_token (k := tw_km t) (p := i) (v := nI 0) (l := l) hc hc5
      refine ⟨σ', ?_, _, _, k, fun z => rfl, fun z => ?_⟩
      · unfold f_m_cut_179 f_m_cut_291
        have e' : f_m_token (nI (tw_km t)) (nI i) (0 : Int32) l σ = some σ' := e
        rw [e', Option.bind_some, nI_add, show i + (tw_rn tw_isL b (n - i) i - i) = tw_rn tw_isL b (n - i) i by omega]
      · have z' : t ≤ 23 := z
        rcases ht with ⟨h1, -⟩ | ⟨-, h2⟩
        · exact hl h1
        · omega
    unfold f_m_cut_135
    by_cases c8 : tw_rn tw_isL b (n - i) i - i ≤ 8
    · rw [if_pos (show nI (tw_rn tw_isL b (n - i) i - i) ≤ (8 : Int32) by rw [show (8 : Int32) = nI 8 from rfl, tw_le (by omega) (by omega)]; exact c8), if_pos c8]
      by_cases c7 : 7 < tw_rn tw_isL b (n - i) i - i
      · rw [if_pos (show (7 : Int32) < nI (tw_rn tw_isL b (n - i) i - i) by rw [show (7 : Int32) = nI 7 from rfl, tw_lt (by omega) (by omega)]; exact c7)]
        have k23 : tw_kf (tw_ll b i (tw_rn tw_isL b (n - i) i - i)) 23 = 23 := by
          rcases tw_kf_ok (tw_ll b i (tw_rn tw_isL b (n - i) i - i)) 23 (Nat.le_refl _) with ⟨g1, g2⟩ | ⟨g1, -⟩
          · have := (tw_word_ok g1).2
            rw [g2, tw_ll_len] at this
            omega
          · exact g1
        have := tok _ (Or.inl ⟨c8, rfl⟩)
        rw [k23] at this ⊢
        exact this
      · rw [if_neg (show ¬ (7 : Int32) < nI (tw_rn tw_isL b (n - i) i - i) by rw [show (7 : Int32) = nI 7 from rfl, tw_lt (by omega) (by omega)]; exact c7)]
        have e := tm_keyL hW az (by rw [tw_ll_len]; exact c8) (k7 := k7) (i := nI i) (cnt := nI (tw_rn tw_isL b (n - i) i - i))
        rw [← hl c8] at e
        have e' : f_m_cut_146 k7 rx_fu (nI i) (nI (tw_rn tw_isL b (n - i) i - i)) l (1 : Int32) (0 : Int32) σ = _ := e
        rw [e']
        exact tok _ (Or.inl ⟨c8, rfl⟩)
    · rw [if_neg (show ¬ nI (tw_rn tw_isL b (n - i) i - i) ≤ (8 : Int32) by rw [show (8 : Int32) = nI 8 from rfl, tw_le (by omega) (by omega)]; exact c8), if_neg c8, if_pos (show (7 : Int32) < nI (tw_rn tw_isL b (n - i) i - i) by rw [show (7 : Int32) = nI 7 from rfl, tw_lt (by omega) (by omega)]; omega)]
      exact tok 38 (Or.inr ⟨c8, rfl⟩)
  have main : ∀ m f k l, f < m → i + k + f = n → tw_rn tw_isL b f (i + k) = tw_rn tw_isL b (n - i) i → (k ≤ 8 → l = qL (tw_pk 27 (tw_ll b i k))) → ∃ l', (tw_rn tw_isL b (n - i) i - i ≤ 8 → l' = qL (tw_pk 27 (tw_ll b i (tw_rn tw_isL b (n - i) i - i)))) ∧ f_m_cut_85 k7 m (nI i) (nI k) l σ = (if nI (tw_rn tw_isL b (n - i) i - i) ≤ (8 : Int32) then f_m_cut_135 k7 (nI i) (nI (tw_rn tw_isL b (n - i) i - i)) l' (1 : Int32) σ else f_m_cut_135 k7 (nI i) (nI (tw_rn tw_isL b (n - i) i - i)) l' (3 : Int32) σ) := by
    intro m
    induction m with
    | zero => intro f k l h; exact absurd h (Nat.not_lt_zero _)
    | succ m ih =>
      intro f k l hm hf e hl
      unfold f_m_cut_85
      rw [nI_add i k]
      cases f with
      | zero =>
        have e' : i + k = tw_rn tw_isL b (n - i) i := e
        rw [tm_atN h (by omega) (by omega), Option.bind_some, tm_isL, show f_tap_isLetter (nI 0) = (0 : Int32) from rfl, if_pos rfl, ← e', show i + k - i = k by omega]
        exact ⟨l, hl, rfl⟩
      | succ f =>
        have hb := (h.2.2 (i + k) (by omega)).2
        rw [tm_at h (by omega), Option.bind_some, tm_isL, tc_isL hb]
        rw [tw_rn] at e
        cases L : tw_isL (b (i + k)) with
        | false =>
          rw [if_pos (by rfl)]
          rw [L, if_neg (by decide)] at e
          rw [← e, show i + k - i = k by omega]
          exact ⟨l, hl, rfl⟩
        | true =>
          rw [if_neg (by decide)]
          rw [L, if_pos rfl] at e
          unfold f_m_cut_118
          rw [show nI k + (1 : Int32) = nI (k + 1) from nI_add k 1, Option.bind_some]
          by_cases k8 : 8 ≤ k
          · rw [if_pos (show (8 : Int32) ≤ nI k by rw [show (8 : Int32) = nI 8 from rfl, tw_le (by omega) (by omega)]; exact k8)]
            exact ih f (k + 1) l (by omega) (by omega) e (fun z => absurd z (by omega))
          · rw [if_neg (show ¬ (8 : Int32) ≤ nI k by rw [show (8 : Int32) = nI 8 from rfl, tw_le (by omega) (by omega)]; exact k8)]
            refine ih f (k + 1) _ (by omega) (by omega) e (fun z => ?_)
            rw [hl (by omega), tm_more L]
            rfl
  obtain ⟨l', h1, h2⟩ := main rx_fu (n - i) 0 (qL 0) (by show _ < 100000; omega) (by omega) (by rw [Nat.add_zero]) (fun _ => rfl)
  obtain ⟨σ', g1, g2⟩ := fin l' h1
  exact ⟨σ', h2.trans g1, g2⟩
theorem tm_digits {b : Nat → Nat} {n i : Nat} {σ : rx_St} {c : Nat} (h : tm_bytes b n σ) (hi : i ≤ n) (hc : σ.1 87 10 = nI c) (hc5 : c ≤ 501) (hL0 : tw_isL (b i) = false) (hD0 : tw_isD (b i) = true) {k7 : Int32 → rx_St → Option rx_St} :
    ∃ σ', f_m_cut_208 k7 rx_fu (nI i) (nI 0) (nI 0) σ = k7 (nI (tw_tk b n i).2) σ' ∧ tm_row c (tw_tk b n i).1 σ σ' := by
  have n2 := h.2.1
  have jb := tw_rn_le tw_isD b (n - i) i
  unfold tw_tk
  rw [hL0, if_neg (show ¬ (false : Bool) = true by decide), if_pos hD0]
  have fin : ∀ l, (tw_rn tw_isD b (n - i) i - i ≤ 4 → l = nI (tw_dv b i (tw_rn tw_isD b (n - i) i - i))) → ∃ σ', (if nI (tw_rn tw_isD b (n - i) i - i) ≤ (4 : Int32) then f_m_cut_261 k7 (nI i) (nI (tw_rn tw_isD b (n - i) i - i)) l (2 : Int32) σ else f_m_cut_261 k7 (nI i) (nI (tw_rn tw_isD b (n - i) i - i)) l (3 : Int32) σ) = k7 (nI (tw_rn tw_isD b (n - i) i)) σ' ∧ tm_row c ((if tw_rn tw_isD b (n - i) i - i ≤ 4 then 24 else 38, i, tw_dv b i (tw_rn tw_isD b (n - i) i - i), [])) σ σ' := by
    intro l hl
    have tok : ∀ t, (tw_rn tw_isD b (n - i) i - i ≤ 4 ∧ t = 24 ∨ ¬ tw_rn tw_isD b (n - i) i - i ≤ 4 ∧ t = 38) → ∃ σ', f_m_cut_261 k7 (nI i) (nI (tw_rn tw_isD b (n - i) i - i)) l (nI (tw_km t)) σ = k7 (nI (tw_rn tw_isD b (n - i) i)) σ' ∧ tm_row c (t, i, tw_dv b i (tw_rn tw_isD b (n - i) i - i), []) σ σ' := by
      intro t ht
      obtain ⟨σ', e, k⟩ := tm_token (k := tw_km t) (p := i) (v := l) (l := qL 0) hc hc5
      refine ⟨σ', ?_, _, _, k, fun z => ?_, fun z => ?_⟩
      · unfold f_m_cut_261 f_m_cut_291
        have e' : f_m_token (nI (tw_km t)) (nI i) l (0 : Int64) σ = some σ' := e
        rw [e', Option.bind_some, nI_add, show i + (tw_rn tw_isD b (n - i) i - i) = tw_rn tw_isD b (n - i) i by omega]
      · have z' : t = 24 := z
        rcases ht with ⟨h1, -⟩ | ⟨-, h2⟩
        · exact hl h1
        · omega
      · have z' : t ≤ 23 := z
        rcases ht with ⟨-, h2⟩ | ⟨-, h2⟩ <;> omega
    by_cases c8 : tw_rn tw_isD b (n - i) i - i ≤ 4
    · rw [if_pos (show nI (tw_rn tw_isD b (n - i) i - i) ≤ (4 : Int32) by rw [show (4 : Int32) = nI 4 from rfl, tw_le (by omega) (by omega)]; exact c8), if_pos c8]
      exact tok 24 (Or.inl ⟨c8, rfl⟩)
    · rw [if_neg (show ¬ nI (tw_rn tw_isD b (n - i) i - i) ≤ (4 : Int32) by rw [show (4 : Int32) = nI 4 from rfl, tw_le (by omega) (by omega)]; exact c8), if_neg c8]
      exact tok 38 (Or.inr ⟨c8, rfl⟩)
  have main : ∀ m f k l, f < m → i + k + f = n → tw_rn tw_isD b f (i + k) = tw_rn tw_isD b (n - i) i → (∀ j, j < k → tw_isD (b (i + j)) = true) → (k ≤ 4 → l = nI (tw_dv b i k)) → ∃ l', (tw_rn tw_isD b (n - i) i - i ≤ 4 → l' = nI (tw_dv b i (tw_rn tw_isD b (n - i) i - i))) ∧ f_m_cut_208 k7 m (nI i) (nI k) l σ = (if nI (tw_rn tw_isD b (n - i) i - i) ≤ (4 : Int32) then f_m_cut_261 k7 (nI i) (nI (tw_rn tw_isD b (n - i) i - i)) l' (2 : Int32) σ else f_m_cut_261 k7 (nI i) (nI (tw_rn tw_isD b (n - i) i - i)) l' (3 : Int32) σ) := by
    intro m
    induction m with
    | zero => intro f k l h; exact absurd h (Nat.not_lt_zero _)
    | succ m ih =>
      intro f k l hm hf e hk hl
      unfold f_m_cut_208
      rw [nI_add i k]
      cases f with
      | zero =>
        have e' : i + k = tw_rn tw_isD b (n - i) i := e
        rw [tm_atN h (by omega) (by omega), Option.bind_some, tm_isD, show f_tap_isDigit (nI 0) = (0 : Int32) from rfl, if_pos rfl, ← e', show i + k - i = k by omega]
        exact ⟨l, hl, rfl⟩
      | succ f =>
        have hb := (h.2.2 (i + k) (by omega)).2
        rw [tm_at h (by omega), Option.bind_some, tm_isD, tc_isD hb]
        rw [tw_rn] at e
        cases L : tw_isD (b (i + k)) with
        | false =>
          rw [if_pos (by rfl)]
          rw [L, if_neg (by decide)] at e
          rw [← e, show i + k - i = k by omega]
          exact ⟨l, hl, rfl⟩
        | true =>
          rw [if_neg (by decide)]
          rw [L, if_pos rfl] at e
          unfold f_m_cut_244
          have hk' : ∀ j, j < k + 1 → tw_isD (b (i + j)) = true := fun j hj => by
            by_cases x : j = k
            · rw [x]; exact L
            · exact hk j (by omega)
          rw [show nI k + (1 : Int32) = nI (k + 1) from nI_add k 1, Option.bind_some]
          by_cases k8 : 4 ≤ k
          · rw [if_pos (show (4 : Int32) ≤ nI k by rw [show (4 : Int32) = nI 4 from rfl, tw_le (by omega) (by omega)]; exact k8)]
            exact ih f (k + 1) l (by omega) (by omega) e hk' (fun z => absurd z (by omega))
          · rw [if_neg (show ¬ (4 : Int32) ≤ nI k by rw [show (4 : Int32) = nI 4 from rfl, tw_le (by omega) (by omega)]; exact k8)]
            refine ih f (k + 1) _ (by omega) (by omega) e hk' (fun z => ?_)
            rw [hl (by omega)]
            have d := tw_dv_lt b i k hk
            have d2 : 10 ^ k ≤ 10 ^ 4 := Nat.pow_le_pow_right (by omega) (by omega)
            have d3 : 10 ^ 4 = 10000 := by decide
            unfold tw_isD at L
            simp only [Bool.and_eq_true, decide_eq_true_eq] at L
            show ((10 : Int32) * nI (tw_dv b i k) + nI (b (i + k))) - (48 : Int32) = nI (tw_dv b i k * 10 + (b (i + k) - 48))
            simp (disch := omega) only [tw_L, tw_gN, tw_cl, tw_le, tw_lt, tw_eq, nI_add, pk_mul, tw_sub, tw_B0, tw_B1, tw_nb0, tw_nb1, tw_r1s, tw_r1n, if_true, if_false, Nat.le_refl, Nat.reduceEqDiff, Nat.reduceLeDiff, Nat.reduceLT, reduceIte]
            congr 1
            omega
  obtain ⟨l', h1, h2⟩ := main rx_fu (n - i) 0 (nI 0) (by show _ < 100000; omega) (by omega) (by rw [Nat.add_zero]) (fun j hj => absurd hj (Nat.not_lt_zero _)) (fun _ => rfl)
  obtain ⟨σ', g1, g2⟩ := fin l' h1
  exact ⟨σ', h2.trans g1, g2⟩
theorem tm_cut {b : Nat → Nat} {n : Nat} {σ : rx_St} (h : tm_bytes b n σ) (hW : tm_keys σ) : tw_ok (f_m_cut σ) (fun σ' => tw_fr tm_Sk σ σ' ∧ tm_tok (tw_sc b n n 0) n σ') := by
  have n2 := h.2.1
  have main : ∀ m f i c σ1, f < m → n - i ≤ f → tw_fr tm_Sk σ σ1 → σ1.1 87 10 = nI c → c ≤ 501 → (tw_sc b n n 0).drop c = tw_sc b n f i → c ≤ (tw_sc b n n 0).length → i < 100000 → (∀ (j : Nat) (x : tw_Tk), j < c → (tw_sc b n n 0)[j]? = some x → σ1.1 90 j = nI (tw_km x.1) ∧ σ1.1 91 j = nI x.2.1 ∧ (x.1 = 24 → σ1.1 92 j = nI x.2.2.1) ∧ (x.1 ≤ 23 → σ1.2 93 j = qL (tw_pk 27 x.2.2.2))) →
      tw_ok (f_m_cut_7 m (nI i) σ1) (fun σ' => tw_fr tm_Sk σ σ' ∧ tm_tok (tw_sc b n n 0) n σ') := by
    intro m
    induction m with
    | zero => intro f i c σ1 h; exact absurd h (Nat.not_lt_zero _)
    | succ m ih =>
      intro f i c σ1 hm hf fr hc hc5 hd hcl hi9 hrow
      have hB : tm_bytes b n σ1 := h.fr fr
      have hW1 : tm_keys σ1 := hW.fr fr
      unfold f_m_cut_7
      rw [hc]
      by_cases c2 : 500 < c
      · rw [if_pos (by rw [show (500 : Int32) = nI 500 from rfl, tw_lt (by omega) (by omega)]; exact c2), tw_some]
        exact ⟨fr, fun j x hj hx => hrow j x (by omega) hx, fun hl => absurd hl (by omega)⟩
      · rw [if_neg (by rw [show (500 : Int32) = nI 500 from rfl, tw_lt (by omega) (by omega)]; exact c2)]
        by_cases c1 : n ≤ i
        · rw [tm_atN hB c1 hi9, Option.bind_some, hB.1, if_neg (by rw [tw_lt (by omega) (by omega)]; omega)]
          have e : tw_sc b n f i = [] := by
            cases f with
            | zero => rfl
            | succ f => rw [tw_sc, if_pos c1]
          have hl : (tw_sc b n n 0).length = c := by
            rw [e] at hd
            have := congrArg List.length hd
            rw [List.length_drop] at this
            have : (tw_sc b n n 0).length - c = 0 := this
            omega
          obtain ⟨σ', e', g1, g2, g3, g4, g5, g6, g7⟩ := tm_token (k := 0) (p := n) (v := nI 0) (l := qL 0) hc hc5
          have e'' : f_m_token (0 : Int32) (nI n) (0 : Int32) (0 : Int64) σ1 = some σ' := e'
          rw [e'', Option.bind_some, tw_some]
          refine ⟨fr.tr g1, fun j x hj hx => ?_, fun _ => ?_⟩
          · have jl := (List.getElem?_eq_some_iff.mp hx).1
            obtain ⟨r1, r2, r3, r4⟩ := hrow j x (by omega) hx
            exact ⟨by rw [(g7 90 j (by omega) (by omega) (by omega)).1]; exact r1, by rw [(g7 91 j (by omega) (by omega) (by omega)).1]; exact r2, fun z => by rw [(g7 92 j (by omega) (by omega) (by omega)).1]; exact r3 z, fun z => by rw [(g7 93 j (by omega) (by omega) (by omega)).2]; exact r4 z⟩
          · rw [hl]; exact ⟨g3, g4⟩
        · obtain ⟨f', rfl⟩ : ∃ f', f = f' + 1 := ⟨f - 1, by omega⟩
          have hb := (hB.2.2 i (by omega)).2
          rw [tm_at hB (by omega), Option.bind_some, hB.1, if_pos (by rw [tw_lt (by omega) (by omega)]; omega)]
          rw [tw_sc, if_neg c1] at hd
          cases B : tw_isB (b i) with
          | true =>
            rw [B, if_pos rfl] at hd
            have nx := ih f' (i + 1) c σ1 (by omega) (by omega) fr hc hc5 hd hcl (by omega) hrow
            unfold f_m_cut_67 f_m_cut_291
            rw [show nI i + (1 : Int32) = nI (i + 1) from nI_add i 1]
            unfold tw_isB at B
            simp only [Bool.or_eq_true, beq_iff_eq] at B
            rcases B with B | B | B | B
            · rw [B]; exact (if_pos (show nI 9 = (9 : Int32) from rfl)).symm ▸ nx
            · rw [B, if_neg (by decide)]; exact (if_pos (show nI 10 = (10 : Int32) from rfl)).symm ▸ nx
            · rw [B, if_neg (by decide), if_neg (by decide)]; exact (if_pos (show nI 13 = (13 : Int32) from rfl)).symm ▸ nx
            · rw [B, if_neg (by decide), if_neg (by decide), if_neg (by decide)]; exact (if_pos (show nI 32 = (32 : Int32) from rfl)).symm ▸ nx
          | false =>
            rw [B, if_neg (by decide)] at hd
            unfold tw_isB at B
            simp only [Bool.or_eq_false_iff, beq_eq_false_iff_ne] at B
            obtain ⟨B1, B2, B3, B4⟩ := B
            rw [if_neg (show ¬ nI (b i) = (9 : Int32) by rw [show (9 : Int32) = nI 9 from rfl, tw_eq (by omega) (by omega)]; exact B1), if_neg (show ¬ nI (b i) = (10 : Int32) by rw [show (10 : Int32) = nI 10 from rfl, tw_eq (by omega) (by omega)]; exact B2), if_neg (show ¬ nI (b i) = (13 : Int32) by rw [show (13 : Int32) = nI 13 from rfl, tw_eq (by omega) (by omega)]; exact B3), if_neg (show ¬ nI (b i) = (32 : Int32) by rw [show (32 : Int32) = nI 32 from rfl, tw_eq (by omega) (by omega)]; exact B4)]
            have gt := tw_tk_gt b (show i < n by omega)
            have up : (tw_tk b n i).2 ≤ n + 2 := by
              unfold tw_tk
              have a1 := tw_rn_le tw_isL b (n - i) i
              have a2 := tw_rn_le tw_isD b (n - i) i
              split
              · show tw_rn tw_isL b (n - i) i ≤ n + 2; omega
              · split
                · show tw_rn tw_isD b (n - i) i ≤ n + 2; omega
                · split
                  · show i + 2 ≤ n + 2; omega
                  · show i + 1 ≤ n + 2; omega
            have hx : (tw_sc b n n 0)[c]? = some (tw_tk b n i).1 := by
              have := congrArg (fun l => l[0]?) hd
              simpa using this
            have cl : c < (tw_sc b n n 0).length := (List.getElem?_eq_some_iff.mp hx).1
            have nx : ∀ σ2, tm_row c (tw_tk b n i).1 σ1 σ2 → tw_ok (f_m_cut_7 m (nI (tw_tk b n i).2) σ2) (fun σ' => tw_fr tm_Sk σ σ' ∧ tm_tok (tw_sc b n n 0) n σ') := by
              intro σ2 k0
              obtain ⟨v, l, ⟨g1, g2, g3, g4, g5, g6, g7⟩, k2, k3⟩ := k0
              refine ih f' _ (c + 1) σ2 (by omega) (by omega) (fr.tr g1) g2 (by omega) ?_ (by omega) (by omega) (fun j x hj hjx => ?_)
              · rw [← List.drop_drop, hd]
                rfl
              · by_cases jc : j = c
                · subst jc
                  rw [hx] at hjx
                  cases hjx
                  exact ⟨g3, g4, fun z => by rw [g5]; exact k2 z, fun z => by rw [g6]; exact k3 z⟩
                · obtain ⟨r1, r2, r3, r4⟩ := hrow j x (by omega) hjx
                  exact ⟨by rw [(g7 90 j (by omega) (by omega) jc).1]; exact r1, by rw [(g7 91 j (by omega) (by omega) jc).1]; exact r2, fun z => by rw [(g7 92 j (by omega) (by omega) jc).1]; exact r3 z, fun z => by rw [(g7 93 j (by omega) (by omega) jc).2]; exact r4 z⟩
            rw [tm_isL, tc_isL hb]
            cases L : tw_isL (b i) with
            | true =>
              rw [if_neg (show ¬ tw_B true = (0 : Int32) by decide)]
              obtain ⟨σ2, e2, k0⟩ := tm_letters (k7 := f_m_cut_7 m) hB hW1 (show i ≤ n by omega) hc hc5 L (by omega)
              have e3 : f_m_cut_85 (f_m_cut_7 m) rx_fu (nI i) (0 : Int32) (0 : Int64) σ1 = _ := e2
              rw [e3]
              exact nx σ2 k0
            | false =>
              rw [if_pos (show tw_B false = (0 : Int32) from rfl), tm_isD, tc_isD hb]
              cases D : tw_isD (b i) with
              | true =>
                rw [if_neg (show ¬ tw_B true = (0 : Int32) by decide)]
                obtain ⟨σ2, e2, k0⟩ := tm_digits (k7 := f_m_cut_7 m) hB (show i ≤ n by omega) hc hc5 L D
                have e3 : f_m_cut_208 (f_m_cut_7 m) rx_fu (nI i) (0 : Int32) (0 : Int32) σ1 = _ := e2
                rw [e3]
                exact nx σ2 k0
              | false =>
                rw [if_pos (show tw_B false = (0 : Int32) from rfl)]
                obtain ⟨y, hy, hyy⟩ : ∃ y, f_m_at (nI i + (1 : Int32)) σ1 = some y ∧ (y = (61 : Int32)) = (i + 1 < n ∧ b (i + 1) = 61) := by
                  rw [show nI i + (1 : Int32) = nI (i + 1) from nI_add i 1]
                  by_cases l : i + 1 < n
                  · refine ⟨_, tm_at hB l, ?_⟩
                    rw [show (61 : Int32) = nI 61 from rfl, tw_eq (by have := (hB.2.2 _ l).2; omega) (by omega)]
                    exact propext ⟨fun z => ⟨l, z⟩, fun z => z.2⟩
                  · exact ⟨_, tm_atN hB (by omega) (by omega), propext ⟨fun z => absurd z (by decide), fun z => absurd z.1 l⟩⟩
                obtain ⟨σ2, d, e2, e3, e4, k0⟩ := tm_sign (n := n) hb L D hyy hc hc5 hi9
                rw [hy, Option.bind_some, e2, Option.bind_some]
                unfold f_m_cut_291
                show tw_ok (f_m_cut_7 m (nI i + nI d) σ2) _
                rw [nI_add, e3]
                exact nx σ2 k0
  unfold f_m_cut
  exact main rx_fu n 0 0 _ (by show _ < 100000; omega) (by omega) (tw_fr.rf.si (by unfold tm_Sk; omega)) (tw_r1s _ _ _ _) (by omega) (by rw [List.drop_zero]) (Nat.zero_le _) (by omega) (fun j x hj => absurd hj (Nat.not_lt_zero _))
