/-! THE CLASS: what is counted ahead of a TICK; a TICK; RUNS -/
section TC8
variable {r w : Nat} {W : tw_Wo} {N : tw_N} {E : tw_E} {R : tw_R}
def tc_tabn (W : tw_Wo) (N : tw_N) (R : tw_R) (n : Nat) (σ : rx_St) : Prop :=
  (∀ p, p < 10 → σ.1 52 p = tw_sum (fun q => !R.2.2 q && R.2.1 q == p) (fun q => nI (N.2.2 q)) n) ∧ (∀ k, k < W.2.length → σ.1 53 k = tw_sum (fun q => !R.2.2 q && N.2.1 q == k) (fun q => nI (N.2.2 q)) n) ∧
  ∀ k v p, k < W.2.length → v < tw_vc W k → p < 10 → σ.1 54 ((6 * k + v) * 10 + p) = tw_sum (fun q => !R.2.2 q && (N.2.1 q == k && R.2.1 q == p)) (fun q => R.1 (6 * q + v) * nI (N.2.2 q)) n
/-- a WORLD's numbers of KINDS and VARS -/
def tc_WN (w : Nat) (W : tw_Wo) (σ : rx_St) : Prop := σ.1 (7 + 14 * w) 3 = nI W.2.length ∧ ∀ k, k < W.2.length → σ.1 (11 + 14 * w) k = nI (tw_vc W k)
theorem tc_WN.fr {σ σ' : rx_St} (h : ∀ q j, 7 + 14 * w ≤ q → q ≤ 20 + 14 * w → σ'.1 q j = σ.1 q j) (g : tc_WN w W σ) : tc_WN w W σ' :=
  ⟨by rw [h _ _ (by omega) (by omega)]; exact g.1, fun k hk => by rw [h _ _ (by omega) (by omega)]; exact g.2 k hk⟩
theorem tc_at55 {σ2 : rx_St} {o k pl : Nat} {c : Int32} (ho : o < 20) (hk : k < W.2.length) (hpl : pl < 10) (hr : r ≤ 1) (hw : w ≤ 1) (hW : tw_wok W) (hvc : σ2.1 (11 + 14 * w) k = nI (tw_vc W k)) (X : Nat → Int32) (hX : ∀ v, v < 6 → σ2.1 (59 + 7 * r) (6 * o + v) = X v) (S : Nat → Nat → Nat → Int32) (hS : ∀ k' v' p', k' < W.2.length → v' < tw_vc W k' → p' < 10 → σ2.1 54 ((6 * k' + v') * 10 + p') = S k' v' p') :
    tw_ok (f_cho_lookAt_55 r w rx_fu (nI o) (nI k) c (nI pl) (nI 0) σ2) (fun σ' => tw_fr (fun q _ => q = 54) σ2 σ' ∧ ∀ k' v' p', k' < W.2.length → v' < tw_vc W k' → p' < 10 → σ'.1 54 ((6 * k' + v') * 10 + p') = if k' = k ∧ p' = pl then S k' v' p' + X v' * c else S k' v' p') := by
  have h6 := (hW.2.2 k hk).1
  have hk5 := hW.2.1
  refine tw_lp (fun fu v σ => f_cho_lookAt_55 r w fu (nI o) (nI k) c (nI pl) (nI v) σ) (fun v σ' => tw_fr (fun q _ => q = 54) σ2 σ' ∧ ∀ k' v' p', k' < W.2.length → v' < tw_vc W k' → p' < 10 → σ'.1 54 ((6 * k' + v') * 10 + p') = if k' = k ∧ p' = pl ∧ v' < v then S k' v' p' + X v' * c else S k' v' p') (tw_vc W k) _ ?_ ?_ rx_fu 0 σ2 (by show _ < 100000; omega) (Nat.zero_le _) ⟨tw_fr.rf, fun k' v' p' a b d => by rw [if_neg (by omega)]; exact hS k' v' p' a b d⟩
  · intro n v σ1 hv h0 next
    obtain ⟨f1, h54⟩ := h0
    have e1 : σ1.1 (11 + 14 * w) k = nI (tw_vc W k) := (f1.i (by omega)).trans hvc
    have e2 : σ1.1 (59 + 7 * r) (6 * o + v) = X v := (f1.i (by omega)).trans (hX v (by omega))
    have i54 := h54 k v pl hk hv hpl
    rw [if_neg (by omega)] at i54
    rw [f_cho_lookAt_55]
    simp (disch := omega) only [tw_L, tw_gN, tw_cl, tw_le, tw_lt, tw_eq, nI_add, pk_mul, tw_sub, tw_B0, tw_B1, tw_nb0, tw_nb1, tw_r1s, tw_r1n, if_true, if_false, Nat.le_refl, Nat.reduceEqDiff, Nat.reduceLeDiff, Nat.reduceLT, reduceIte, e1]
    rw [if_neg (by omega), show (k * 6 + v) * 10 + pl = (6 * k + v) * 10 + pl by omega, show o * 6 + v = 6 * o + v by omega, e2, i54]
    refine next _ ⟨f1.si rfl, fun k' v' p' a b d => ?_⟩
    have b6 := (hW.2.2 k' a).1
    rw [tw_r1]
    by_cases e : (6 * k' + v') * 10 + p' = (6 * k + v) * 10 + pl
    · have h3 : k' = k ∧ v' = v ∧ p' = pl := by omega
      obtain ⟨z1, z2, z3⟩ := h3
      rw [if_pos ⟨rfl, e⟩, if_pos ⟨z1, z3, by omega⟩, z1, z2, z3]
    · rw [if_neg (fun h => e h.2), h54 k' v' p' a b d]
      by_cases d2 : k' = k ∧ p' = pl ∧ v' < v
      · rw [if_pos d2, if_pos ⟨d2.1, d2.2.1, by omega⟩]
      · rw [if_neg d2, if_neg (fun h => d2 ⟨h.1, h.2.1, by omega⟩)]
  · intro n σ1 h0
    obtain ⟨f1, h54⟩ := h0
    have e1 : σ1.1 (11 + 14 * w) k = nI (tw_vc W k) := (f1.i (by omega)).trans hvc
    rw [f_cho_lookAt_55]
    simp (disch := omega) only [tw_L, tw_gN, tw_cl, tw_le, tw_lt, tw_eq, nI_add, pk_mul, tw_sub, tw_B0, tw_B1, tw_nb0, tw_nb1, tw_r1s, tw_r1n, if_true, if_false, Nat.le_refl, Nat.reduceEqDiff, Nat.reduceLeDiff, Nat.reduceLT, reduceIte, e1]
    rw [tw_some]
    refine ⟨f1, fun k' v' p' a b d => ?_⟩
    rw [h54 k' v' p' a b d]
    by_cases d2 : k' = k ∧ p' = pl
    · rw [if_pos d2, if_pos ⟨d2.1, d2.2, by rw [← d2.1]; exact b⟩]
    · rw [if_neg d2, if_neg (fun h => d2 ⟨h.1, h.2.1⟩)]
def tc_S4 (q _j : Nat) : Prop := 52 ≤ q ∧ q ≤ 54
theorem tc_lookAt {σ : rx_St} {i : Nat} (hw : w ≤ 1) (he : tc_env r W N E R σ) (hi : i < N.1) (hq : R.2.2 i = false) (ht : tc_tabn W N R i σ) (hn : tc_WN w W σ) :
    tw_ok (f_cho_lookAt r w (nI i) σ) (fun σ' => tw_fr tc_S4 σ σ' ∧ tc_tabn W N R (i + 1) σ') := by
  obtain ⟨⟨h1, h2⟩, h3, h4, h5, h6, h7, h8⟩ := id he
  obtain ⟨⟨g1, g2⟩, g3, ⟨g4, g5⟩, g6, g7⟩ := h3 i hi
  obtain ⟨t1, t2, t3⟩ := ht
  have hk5 := h7.2.1
  unfold f_cho_lookAt
  simp (disch := omega) only [tw_L, tw_gN, tw_cl, tw_le, tw_lt, tw_eq, nI_add, pk_mul, tw_sub, tw_B0, tw_B1, tw_nb0, tw_nb1, tw_r1s, tw_r1n, if_true, if_false, Nat.le_refl, Nat.reduceEqDiff, Nat.reduceLeDiff, Nat.reduceLT, reduceIte, g1, g3, g4]
  refine tw_mono (tc_at55 (c := nI (N.2.2 i)) (by omega) g2 g5 h8 hw h7 (by rw [tw_r1n _ _ (by omega), tw_r1n _ _ (by omega)]; exact hn.2 _ g2) (fun v => R.1 (6 * i + v)) (fun v hv => by rw [tw_r1n _ _ (by omega), tw_r1n _ _ (by omega)]; exact g7 v hv) (fun k v p => tw_sum (fun q => !R.2.2 q && (N.2.1 q == k && R.2.1 q == p)) (fun q => R.1 (6 * q + v) * nI (N.2.2 q)) i) (fun k' v' p' a b c => by rw [tw_r1n _ _ (by omega), tw_r1n _ _ (by omega)]; exact t3 k' v' p' a b c)) (fun σ' h => ?_)
  obtain ⟨f1, k1⟩ := h
  refine ⟨tw_fr.tr (S := tc_S4) ((tw_fr.rf.si (by unfold tc_S4; omega)).si (by unfold tc_S4; omega)) (f1.mn (fun q j h => by unfold tc_S4; omega)), fun p hp => ?_, fun k hk => ?_, fun k v p a b c => ?_⟩
  · rw [f1.i (by omega), tw_r1n _ _ (by omega), tw_r1, tw_sum, hq]
    by_cases e : p = R.2.1 i
    · rw [if_pos ⟨rfl, e⟩, if_pos (by simp [e]), t1 _ g5, e]
    · rw [if_neg (fun h => e h.2), if_neg (by simp; exact fun h => e h.symm), t1 p hp]
  · rw [f1.i (by omega), tw_r1, tw_sum, hq]
    by_cases e : k = N.2.1 i
    · rw [if_pos ⟨rfl, e⟩, if_pos (by simp [e]), t2 _ g2, e]
    · rw [if_neg (fun h => e h.2), if_neg (by simp; exact fun h => e h.symm), tw_r1n _ _ (by omega), t2 k hk]
  · rw [k1 k v p a b c, tw_sum, hq]
    by_cases e : k = N.2.1 i ∧ p = R.2.1 i
    · rw [if_pos e, if_pos (by simp [e.1, e.2])]
    · rw [if_neg e, if_neg (by simp; exact fun h h2 => e ⟨h.symm, h2.symm⟩)]
theorem tc_look84 {σ0 : rx_St} (hw : w ≤ 1) (he : tc_env r W N E R σ0) (hn : tc_WN w W σ0) : ∀ (fuel i : Nat) (σ : rx_St), i ≤ N.1 → N.1 - i < fuel → tw_fr tc_S4 σ0 σ → tc_tabn W N R i σ →
    tw_ok (f_cho_look_84 r w fuel (nI i) σ) (fun σ' => tw_fr tc_S4 σ0 σ' ∧ tc_tab W N R σ') := by
  intro fuel
  induction fuel with
  | zero => intro i σ _ h; exact absurd h (Nat.not_lt_zero _)
  | succ n ih =>
    intro i σ hi hf f0 ht
    have he1 : tc_env r W N E R σ := he.fr (fun q j a => f0.i (by unfold tc_S4; omega))
    have hn1 : tc_WN w W σ := hn.fr (fun q j a b => f0.i (by unfold tc_S4; omega))
    have h1 := he1.1.1
    have h20 := he1.1.2
    rw [f_cho_look_84]
    by_cases hin : i = N.1
    · rw [hin] at ht ⊢
      simp (disch := omega) only [tw_L, tw_gN, tw_cl, tw_le, tw_lt, tw_eq, nI_add, pk_mul, tw_sub, tw_B0, tw_B1, tw_nb0, tw_nb1, tw_r1s, tw_r1n, if_true, if_false, Nat.le_refl, Nat.reduceEqDiff, Nat.reduceLeDiff, Nat.reduceLT, reduceIte, h1]
      rw [tw_some]
      exact ⟨f0, ht⟩
    · obtain ⟨⟨g1, g2⟩, g3, ⟨g4, g5⟩, g6, g7⟩ := he1.2.1 i (by omega)
      unfold f_cho_look_110
      simp (disch := omega) only [tw_L, tw_gN, tw_cl, tw_le, tw_lt, tw_eq, nI_add, pk_mul, tw_sub, tw_B0, tw_B1, tw_nb0, tw_nb1, tw_r1s, tw_r1n, if_true, if_false, Nat.le_refl, Nat.reduceEqDiff, Nat.reduceLeDiff, Nat.reduceLT, reduceIte, h1, g6]
      rw [if_neg (by omega)]
      cases hq : R.2.2 i with
      | true =>
        rw [if_neg (by decide)]
        refine ih (i + 1) σ (by omega) (by omega) f0 ⟨fun p hp => ?_, fun k hk => ?_, fun k v p a b c => ?_⟩
        · rw [tw_sum, hq, if_neg (by simp)]; exact ht.1 p hp
        · rw [tw_sum, hq, if_neg (by simp)]; exact ht.2.1 k hk
        · rw [tw_sum, hq, if_neg (by simp)]; exact ht.2.2 k v p a b c
      | false =>
        rw [if_pos rfl]
        refine tw_b (tc_lookAt hw he1 (by omega) hq ht hn1) (fun σ1 h => ?_)
        exact ih (i + 1) σ1 (by omega) (by omega) (f0.tr h.1) h.2
theorem tc_look {σ : rx_St} (hw : w ≤ 1) (he : tc_env r W N E R σ) (hn : tc_WN w W σ) : tw_ok (f_cho_look r w σ) (fun σ' => tw_fr tc_S4 σ σ' ∧ tc_tab W N R σ') := by
  have hW := he.2.2.2.2.2.1
  have hk5 := hW.2.1
  have h20 := he.1.2
  have h58 : ∀ (fuel i : Nat) (σ1 : rx_St), i ≤ W.2.length * 60 → W.2.length * 60 - i < fuel → tw_fr tc_S4 σ σ1 → (∀ p, p < 10 → σ1.1 52 p = nI 0) → (∀ k, k < W.2.length → σ1.1 53 k = nI 0) → (∀ j, j < i → σ1.1 54 j = nI 0) → tw_ok (f_cho_look_58 r w fuel (nI W.2.length) (nI i) σ1) (fun σ' => tw_fr tc_S4 σ σ' ∧ tc_tab W N R σ') := by
    intro fuel
    induction fuel with
    | zero => intro i σ1 _ h; exact absurd h (Nat.not_lt_zero _)
    | succ n ih =>
      intro i σ1 hi hf f1 a1 a2 a3
      rw [f_cho_look_58]
      simp (disch := omega) only [tw_L, tw_gN, tw_cl, tw_le, tw_lt, tw_eq, nI_add, pk_mul, tw_sub, tw_B0, tw_B1, tw_nb0, tw_nb1, tw_r1s, tw_r1n, if_true, if_false, Nat.le_refl, Nat.reduceEqDiff, Nat.reduceLeDiff, Nat.reduceLT, reduceIte]
      by_cases hin : i = W.2.length * 60
      · rw [if_pos (by omega)]
        refine tc_look84 hw he hn rx_fu 0 σ1 (Nat.zero_le _) (by show _ < 100000; omega) f1 ⟨fun p hp => a1 p hp, fun k hk => a2 k hk, fun k v p a b c => a3 _ ?_⟩
        have := (hW.2.2 k a).1
        omega
      · rw [if_neg (by omega)]
        refine ih (i + 1) _ (by omega) (by omega) (f1.si (by unfold tc_S4; omega)) (fun p hp => by rw [tw_r1n _ _ (by omega)]; exact a1 p hp) (fun k hk => by rw [tw_r1n _ _ (by omega)]; exact a2 k hk) (fun j hj => ?_)
        rw [tw_r1]
        by_cases e : j = i
        · rw [if_pos ⟨rfl, e⟩]
        · rw [if_neg (fun h => e h.2)]; exact a3 j (by omega)
  have h38 : ∀ (fuel i : Nat) (σ1 : rx_St), i ≤ W.2.length → W.2.length - i < fuel → tw_fr tc_S4 σ σ1 → (∀ p, p < 10 → σ1.1 52 p = nI 0) → (∀ k, k < i → σ1.1 53 k = nI 0) → tw_ok (f_cho_look_38 r w fuel (nI W.2.length) (nI i) σ1) (fun σ' => tw_fr tc_S4 σ σ' ∧ tc_tab W N R σ') := by
    intro fuel
    induction fuel with
    | zero => intro i σ1 _ h; exact absurd h (Nat.not_lt_zero _)
    | succ n ih =>
      intro i σ1 hi hf f1 a1 a2
      rw [f_cho_look_38]
      simp (disch := omega) only [tw_L, tw_gN, tw_cl, tw_le, tw_lt, tw_eq, nI_add, pk_mul, tw_sub, tw_B0, tw_B1, tw_nb0, tw_nb1, tw_r1s, tw_r1n, if_true, if_false, Nat.le_refl, Nat.reduceEqDiff, Nat.reduceLeDiff, Nat.reduceLT, reduceIte]
      by_cases hin : i = W.2.length
      · rw [if_pos (by omega)]
        exact h58 rx_fu 0 σ1 (Nat.zero_le _) (by show _ < 100000; omega) f1 a1 (fun k hk => a2 k (by omega)) (fun j hj => absurd hj (Nat.not_lt_zero _))
      · rw [if_neg (by omega)]
        refine ih (i + 1) _ (by omega) (by omega) (f1.si (by unfold tc_S4; omega)) (fun p hp => by rw [tw_r1n _ _ (by omega)]; exact a1 p hp) (fun j hj => ?_)
        rw [tw_r1]
        by_cases e : j = i
        · rw [if_pos ⟨rfl, e⟩]
        · rw [if_neg (fun h => e h.2)]; exact a2 j (by omega)
  have h17 : ∀ (fuel i : Nat) (σ1 : rx_St), i ≤ 10 → 10 - i < fuel → tw_fr tc_S4 σ σ1 → (∀ p, p < i → σ1.1 52 p = nI 0) → tw_ok (f_cho_look_17 r w fuel (nI W.2.length) (nI i) σ1) (fun σ' => tw_fr tc_S4 σ σ' ∧ tc_tab W N R σ') := by
    intro fuel
    induction fuel with
    | zero => intro i σ1 _ h; exact absurd h (Nat.not_lt_zero _)
    | succ n ih =>
      intro i σ1 hi hf f1 a1
      rw [f_cho_look_17]
      simp (disch := omega) only [tw_L, tw_gN, tw_cl, tw_le, tw_lt, tw_eq, nI_add, pk_mul, tw_sub, tw_B0, tw_B1, tw_nb0, tw_nb1, tw_r1s, tw_r1n, if_true, if_false, Nat.le_refl, Nat.reduceEqDiff, Nat.reduceLeDiff, Nat.reduceLT, reduceIte]
      by_cases hin : i = 10
      · rw [if_pos (by omega)]
        exact h38 rx_fu 0 σ1 (Nat.zero_le _) (by show _ < 100000; omega) f1 (fun p hp => a1 p (by omega)) (fun j hj => absurd hj (Nat.not_lt_zero _))
      · rw [if_neg (by omega)]
        refine ih (i + 1) _ (by omega) (by omega) (f1.si (by unfold tc_S4; omega)) (fun j hj => ?_)
        rw [tw_r1]
        by_cases e : j = i
        · rw [if_pos ⟨rfl, e⟩]
        · rw [if_neg (fun h => e h.2)]; exact a1 j (by omega)
  unfold f_cho_look
  have hmin : f_j_min (nI W.2.length) (nI 5) = nI W.2.length := by
    unfold f_j_min
    simp (disch := omega) only [tw_L, tw_gN, tw_cl, tw_le, tw_lt, tw_eq, nI_add, pk_mul, tw_sub, tw_B0, tw_B1, tw_nb0, tw_nb1, tw_r1s, tw_r1n, if_true, if_false, Nat.le_refl, Nat.reduceEqDiff, Nat.reduceLeDiff, Nat.reduceLT, reduceIte]
    rw [if_neg (by omega)]
  rw [hn.1, show (5 : Int32) = nI 5 from rfl, hmin]
  exact h17 rx_fu 0 σ (Nat.zero_le _) (by decide) tw_fr.rf (fun p hp => absurd hp (Nat.not_lt_zero _))
/-- all of a WORLD that its RUNS read -/
def tc_WR (w : Nat) (W : tw_Wo) (σ : rx_St) : Prop := ∃ cnt, σ.1 (7 + 14 * w) 13 = tw_B cnt ∧ tc_WN w W σ ∧ tc_WC w cnt W σ ∧ σ.1 (7 + 14 * w) 0 = nI W.1.length
theorem tc_WR.fr {σ σ' : rx_St} (h : ∀ q j, 7 + 14 * w ≤ q → q ≤ 20 + 14 * w → σ'.1 q j = σ.1 q j) (g : tc_WR w W σ) : tc_WR w W σ' := by
  obtain ⟨cnt, g1, g2, g3, g4⟩ := g
  exact ⟨cnt, by rw [h _ _ (by omega) (by omega)]; exact g1, g2.fr h, g3.fr h, by rw [h _ _ (by omega) (by omega)]; exact g4⟩
def tc_S11 (r q j : Nat) : Prop := tc_S10 r q j ∨ tc_S4 q j
theorem tc_step {σ : rx_St} {dl : Bool} {out : Int32} (hw : w ≤ 1) (he : tc_env r W N E R σ) (hR : tc_WR w W σ) (hdl : σ.1 38 7 = tw_B dl) :
    tw_ok (f_run_step r w out σ) (fun σ' => tw_fr (tc_S11 r) σ σ' ∧ tc_env r W N (tw_nx E) (tw_tick W N dl E out R) σ' ∧ tc_all (tw_evs W N E R) N.1 σ') := by
  obtain ⟨cnt, g1, g2, g3, -⟩ := hR
  have h20 := he.1.2
  unfold f_run_step f_run_step_21
  rw [g1]
  cases cnt with
  | false =>
    rw [if_pos (by rfl)]
    exact tw_mono (tc_t23 (dl := dl) (σ0 := σ) hw rx_fu 0 σ (Nat.zero_le _) (by show _ < 100000; omega) he (fun z => by cases z) g3 hdl tw_fr.rf (fun o ho => absurd ho (Nat.not_lt_zero _))) (fun σ' h => ⟨h.1.mn (fun q j h => Or.inl h), h.2⟩)
  | true =>
    rw [if_neg (by decide)]
    refine tw_b (tc_look hw he g2) (fun σ1 h => ?_)
    obtain ⟨f1, t1⟩ := h
    exact tw_mono (tc_t23 (dl := dl) (cnt := true) (σ0 := σ1) hw rx_fu 0 σ1 (Nat.zero_le _) (by show _ < 100000; omega) (he.fr (fun q j a => f1.i (by unfold tc_S4; omega))) (fun _ => t1) (g3.fr (fun q j a b => f1.i (by unfold tc_S4; omega))) (by rw [f1.i (by unfold tc_S4; omega)]; exact hdl) tw_fr.rf (fun o ho => absurd ho (Nat.not_lt_zero _))) (fun σ' h => ⟨tw_fr.tn f1 h.1 (fun q j h => Or.inr h) (fun q j h => Or.inl h), h.2⟩)
theorem tc_goOn {dl : Bool} {st : Nat → Int32} {seed : Int32} {R0 : tw_R} {T : Nat} {σ0 : rx_St} (hw : w ≤ 1) (hT : T < 1000) (hR : tc_WR w W σ0) (hdl : σ0.1 38 7 = tw_B dl) : ∀ (fuel t : Nat) (σ : rx_St), t ≤ T → T - t < fuel → tc_env r W N (st, seed, t) (tw_run W N dl st seed (fun _ => -nI 1) R0 t) σ → (∀ t', t = t' + 1 → tc_all (tw_evs W N (st, seed, t') (tw_run W N dl st seed (fun _ => -nI 1) R0 t')) N.1 σ) → tw_fr (tc_S11 r) σ0 σ →
    tw_ok (f_run_goOn_5 r w fuel (nI T) (nI t) σ) (fun σ' => tw_fr (tc_S11 r) σ0 σ' ∧ tc_env r W N (st, seed, T) (tw_run W N dl st seed (fun _ => -nI 1) R0 T) σ' ∧ ∀ t', T = t' + 1 → tc_all (tw_evs W N (st, seed, t') (tw_run W N dl st seed (fun _ => -nI 1) R0 t')) N.1 σ') := by
  intro fuel
  induction fuel with
  | zero => intro t σ _ h; exact absurd h (Nat.not_lt_zero _)
  | succ n ih =>
    intro t σ ht hf he hev f0
    have hr := he.2.2.2.2.2.2
    rw [f_run_goOn_5]
    by_cases hin : t = T
    · rw [hin] at he hev ⊢
      simp (disch := omega) only [tw_L, tw_gN, tw_cl, tw_le, tw_lt, tw_eq, nI_add, pk_mul, tw_sub, tw_B0, tw_B1, tw_nb0, tw_nb1, tw_r1s, tw_r1n, if_true, if_false, Nat.le_refl, Nat.reduceEqDiff, Nat.reduceLeDiff, Nat.reduceLT, reduceIte]
      rw [tw_some]
      exact ⟨f0, he, hev⟩
    · simp (disch := omega) only [tw_L, tw_gN, tw_cl, tw_le, tw_lt, tw_eq, nI_add, pk_mul, tw_sub, tw_B0, tw_B1, tw_nb0, tw_nb1, tw_r1s, tw_r1n, if_true, if_false, Nat.le_refl, Nat.reduceEqDiff, Nat.reduceLeDiff, Nat.reduceLT, reduceIte]
      rw [if_neg (by omega)]
      refine tw_b (tc_step (dl := dl) (out := -nI 1) hw he (hR.fr (fun q j a b => f0.i (by unfold tc_S11 tc_S10 tc_S4 tc_S2; omega))) (by rw [f0.i (by unfold tc_S11 tc_S10 tc_S4 tc_S2; omega)]; exact hdl)) (fun σ1 h => ?_)
      exact ih (t + 1) σ1 (by omega) (by omega) h.2.1 (fun t' e => by obtain rfl : t = t' := (by omega); exact h.2.2) (f0.tr h.1)
end TC8
