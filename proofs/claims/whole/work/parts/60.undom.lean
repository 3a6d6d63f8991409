/-! THE MODEL: the course is kept, then gone again with one undone -/
section TU2
variable {W : tw_Wo} {N : tw_N} {pl : Nat → Nat} {bg : Nat → Int32} {dl : Bool} {st : Nat → Int32} {seed : Int32} {lv : Nat}
theorem tm_env.gg {E : tw_E} {R : tw_R} {σ σ' : rx_St} (he : tm_env W N E R σ) (f : ∀ q j, 130 ≤ q ∧ q ≤ 137 ∨ q = 87 ∧ (j = 60 ∨ j = 78 ∨ j = 79) → σ'.1 q j = σ.1 q j) : tm_env W N E R σ' := by
  obtain ⟨⟨h1, h2⟩, h3, h4, h5, h6, h7⟩ := he
  refine ⟨⟨by rw [f _ _ (by omega)]; exact h1, h2⟩, fun q hq => ?_, fun i hi => by rw [f _ _ (by omega)]; exact h4 i hi, by rw [f _ _ (by omega)]; exact h5, by rw [f _ _ (by omega)]; exact h6, h7⟩
  obtain ⟨⟨g1, g2⟩, g3, ⟨g4, g5⟩, g6, g7⟩ := h3 q hq
  exact ⟨⟨by rw [f _ _ (by omega)]; exact g1, g2⟩, by rw [f _ _ (by omega)]; exact g3, ⟨by rw [f _ _ (by omega)]; exact g4, g5⟩, by rw [f _ _ (by omega)]; exact g6, fun v hv => by rw [f _ _ (by omega)]; exact g7 v hv⟩
def tw_cell (vc : Nat) (R : tw_R) (q c : Nat) : Int32 := if c = 6 then nI (R.2.1 q) else if c = 7 then tw_B (R.2.2 q) else if c < vc then R.1 (6 * q + c) else nI 0
theorem tw_cell_df {vc : Nat} {R R' : tw_R} {q : Nat} (h6 : vc ≤ 6) (hp : R.2.1 q < 10) (hp' : R'.2.1 q < 10) : (∀ c, c < 8 → tw_cell vc R q c = tw_cell vc R' q c) ↔ tw_df vc R R' q = false := by
  rw [tw_df_f]
  constructor
  · intro h
    refine ⟨?_, ?_, fun v hv => ?_⟩
    · have : tw_B (R.2.2 q) = tw_B (R'.2.2 q) := h 7 (by omega)
      revert this
      cases R.2.2 q <;> cases R'.2.2 q <;> simp [tw_B] <;> decide
    · have : nI (R.2.1 q) = nI (R'.2.1 q) := h 6 (by omega)
      rw [tw_eq (by omega) (by omega)] at this
      exact this
    · have := h v (by omega)
      unfold tw_cell at this
      rw [if_neg (by omega), if_neg (by omega), if_pos hv, if_neg (by omega), if_neg (by omega), if_pos hv] at this
      exact this
  · rintro ⟨h1, h2, h3⟩ c hc
    unfold tw_cell
    rw [h1, h2]
    by_cases c6 : c = 6
    · rw [if_pos c6, if_pos c6]
    · rw [if_neg c6, if_neg c6]
      by_cases c7 : c = 7
      · rw [if_pos c7, if_pos c7]
      · rw [if_neg c7, if_neg c7]
        by_cases cv : c < vc
        · rw [if_pos cv, if_pos cv, h3 c cv]
        · rw [if_neg cv, if_neg cv]
theorem tm_cellOf {E : tw_E} {R : tw_R} {o c : Nat} {σ : rx_St} (he : tm_env W N E R σ) (hM : tm_MW W lv σ) (ho : o < N.1) (hc : c < 8) : f_m_cellOf (nI o) (nI c) σ = some (tw_cell (tw_vc W (N.2.1 o)) R o c) := by
  obtain ⟨⟨g1, g2⟩, g3, ⟨g4, g5⟩, g6, g7⟩ := he.2.1 o ho
  obtain ⟨m1, m2, m3, m4, m5, m6⟩ := hM
  have h20 := he.1.2
  have hk5 := he.2.2.2.2.2.2.1
  have hv6 := tw_vc6 he.2.2.2.2.2 (N.2.1 o)
  have e3 : σ.1 100 (5 * lv + N.2.1 o) = nI (tw_vc W (N.2.1 o)) := (m6 _ g2).1
  unfold f_m_cellOf tw_cell
  by_cases c6 : c = 6
  · subst c6
    simp (disch := omega) only [tw_L, tw_gN, tw_cl, tw_le, tw_lt, tw_eq, nI_add, pk_mul, tw_sub, tw_B0, tw_B1, tw_nb0, tw_nb1, tw_r1s, tw_r1n, if_true, if_false, Nat.le_refl, Nat.reduceEqDiff, Nat.reduceLeDiff, Nat.reduceLT, reduceIte, g4]
  · by_cases c7 : c = 7
    · subst c7
      simp (disch := omega) only [tw_L, tw_gN, tw_cl, tw_le, tw_lt, tw_eq, nI_add, pk_mul, tw_sub, tw_B0, tw_B1, tw_nb0, tw_nb1, tw_r1s, tw_r1n, if_true, if_false, Nat.le_refl, Nat.reduceEqDiff, Nat.reduceLeDiff, Nat.reduceLT, reduceIte, g6]
      cases R.2.2 o <;> rfl
    · simp (disch := omega) only [tw_L, tw_gN, tw_cl, tw_le, tw_lt, tw_eq, nI_add, pk_mul, tw_sub, tw_B0, tw_B1, tw_nb0, tw_nb1, tw_r1s, tw_r1n, if_true, if_false, Nat.le_refl, Nat.reduceEqDiff, Nat.reduceLeDiff, Nat.reduceLT, reduceIte, g1, m2, e3]
      rw [if_neg (by omega), if_neg c6, if_neg c7]
      by_cases cv : tw_vc W (N.2.1 o) ≤ c
      · rw [if_pos cv, if_neg (by omega)]
      · rw [if_neg cv, if_pos (by omega), g7 c (by omega)]
/-- the course kept, as far as t, q, c -/
def tm_co (N : tw_N) (X : Nat → Nat → Nat → Int32) (t q c : Nat) (σ : rx_St) : Prop := ∀ t' q' c', q' < N.1 → c' < 8 → (t' < t ∨ t' = t ∧ (q' < q ∨ q' = q ∧ c' < c)) → σ.1 147 (160 * t' + 8 * q' + c') = X t' q' c'
theorem tm_co.wr {X : Nat → Nat → Nat → Int32} {t q c : Nat} {σ : rx_St} {x : Int32} (h : tm_co N X t q c σ) (h20 : N.1 ≤ 20) (hq : q < N.1) (hc : c < 8) (hx : x = X t q c) : tm_co N X t q (c + 1) (rx_si σ 147 (160 * t + 8 * q + c) x) := by
  intro t' q' c' hq' hc' hl
  rw [tw_r1]
  by_cases e : t' = t ∧ q' = q ∧ c' = c
  · obtain ⟨rfl, rfl, rfl⟩ := e
    rw [if_pos ⟨rfl, rfl⟩, hx]
  · rw [if_neg (by omega)]
    exact h t' q' c' hq' hc' (by omega)
theorem tm_c42 {R : tw_R} {X : Nat → Nat → Nat → Int32} {t q : Nat} {σ0 : rx_St} {k14 : Int32 → Int32 → Int32 → Int32 → rx_St → Option (Int32 × rx_St)} {k30 : Int32 → Int32 → Int32 → Int32 → Int32 → rx_St → Option (Int32 × rx_St)} {v1 v2 v3 v4 : Int32} (ht : t ≤ 40) (hq : q < N.1) (he : tm_env W N (st, seed, t) R σ0) (hM : tm_MW W lv σ0) (hX : ∀ c, c < 8 → X t q c = tw_cell (tw_vc W (N.2.1 q)) R q c)
    (h0 : tm_co N X t q 0 σ0) (Q : Int32 × rx_St → Prop) (hQ : ∀ σ, tw_fr (fun q _ => q = 147) σ0 σ → tm_co N X t (q + 1) 0 σ → tw_ok (k30 v1 v2 v3 v4 (nI (q + 1)) σ) Q) :
    tw_ok (f_m_changes_42 k14 k30 rx_fu v1 v2 v3 v4 (nI q) (nI 0) σ0) Q := by
  have h20 := he.1.2
  refine tw_lp (fun fu i σ => f_m_changes_42 k14 k30 fu v1 v2 v3 v4 (nI q) (nI i) σ) (fun i σ => tw_fr (fun q _ => q = 147) σ0 σ ∧ tm_co N X t q i σ) 8 Q ?_ ?_ rx_fu 0 σ0 (by show _ < 100000; omega) (Nat.zero_le _) ⟨tw_fr.rf, h0⟩
  · intro m i σ hi hI next
    obtain ⟨f, g⟩ := hI
    have he' : tm_env W N (st, seed, t) R σ := he.gg (fun q j a => f.i (by omega))
    have hM' : tm_MW W lv σ := hM.fr (fun q j a b => f.i (by omega)) (f.i (by omega))
    have e1 : σ.1 87 79 = nI t := he'.2.2.2.2.1
    unfold f_m_changes_42
    rw [if_neg (by rw [show (8 : Int32) = nI 8 from rfl, tw_le (by omega) (by omega)]; omega), tm_cellOf he' hM' hq hi, Option.bind_some]
    simp (disch := omega) only [tw_L, tw_gN, tw_cl, tw_le, tw_lt, tw_eq, nI_add, pk_mul, tw_sub, tw_B0, tw_B1, tw_nb0, tw_nb1, tw_r1s, tw_r1n, if_true, if_false, Nat.le_refl, Nat.reduceEqDiff, Nat.reduceLeDiff, Nat.reduceLT, reduceIte, e1]
    refine next _ ⟨f.si rfl, g.wr h20 hq hi (hX i hi).symm⟩
  · intro m σ hI
    obtain ⟨f, g⟩ := hI
    unfold f_m_changes_42
    simp (disch := omega) only [tw_L, tw_gN, tw_cl, tw_le, tw_lt, tw_eq, nI_add, pk_mul, tw_sub, tw_B0, tw_B1, tw_nb0, tw_nb1, tw_r1s, tw_r1n, if_true, if_false, Nat.le_refl, Nat.reduceEqDiff, Nat.reduceLeDiff, Nat.reduceLT, reduceIte]
    exact hQ σ f (fun t' q' c' a b c => g t' q' c' a b (by omega))
theorem tm_c30 {R : tw_R} {X : Nat → Nat → Nat → Int32} {t : Nat} {σ0 : rx_St} {k14 : Int32 → Int32 → Int32 → Int32 → rx_St → Option (Int32 × rx_St)} {v1 v2 v3 v4 : Int32} (ht : t ≤ 40) (he : tm_env W N (st, seed, t) R σ0) (hM : tm_MW W lv σ0) (hX : ∀ q c, q < N.1 → c < 8 → X t q c = tw_cell (tw_vc W (N.2.1 q)) R q c)
    (h0 : tm_co N X t 0 0 σ0) (Q : Int32 × rx_St → Prop) (hQ : ∀ σ, tw_fr (fun q j => q = 147 ∨ q = 87 ∧ j = 79) σ0 σ → tm_env W N (st, seed, t + 1) R σ → tm_co N X (t + 1) 0 0 σ → tw_ok (k14 v1 v2 v3 v4 σ) Q) :
    tw_ok (f_m_changes_30 k14 rx_fu v1 v2 v3 v4 (nI 0) σ0) Q := by
  have h20 := he.1.2
  refine tw_lp (fun fu i σ => f_m_changes_30 k14 fu v1 v2 v3 v4 (nI i) σ) (fun i σ => tw_fr (fun q _ => q = 147) σ0 σ ∧ tm_co N X t i 0 σ) N.1 Q ?_ ?_ rx_fu 0 σ0 (by show _ < 100000; omega) (Nat.zero_le _) ⟨tw_fr.rf, h0⟩
  · intro m i σ hi hI next
    obtain ⟨f, g⟩ := hI
    have he' : tm_env W N (st, seed, t) R σ := he.gg (fun q j a => f.i (by omega))
    have hM' : tm_MW W lv σ := hM.fr (fun q j a b => f.i (by omega)) (f.i (by omega))
    unfold f_m_changes_30
    rw [he'.1.1, if_neg (tp_nl (by omega) (by omega) (by omega))]
    exact tm_c42 ht hi he' hM' (fun c hc => hX i c hi hc) g Q (fun σ1 f1 g1 => next σ1 ⟨f.tr f1, g1⟩)
  · intro m σ hI
    obtain ⟨f, g⟩ := hI
    have he' : tm_env W N (st, seed, t) R σ := he.gg (fun q j a => f.i (by omega))
    have e1 : σ.1 87 79 = nI t := he'.2.2.2.2.1
    unfold f_m_changes_30
    rw [he'.1.1, if_pos (tp_yl (by omega) (by omega) (Nat.le_refl _)), e1, show nI t + (1 : Int32) = nI (t + 1) from nI_add t 1]
    refine hQ _ ((f.mn (fun q j h => Or.inl h)).si (Or.inr ⟨rfl, rfl⟩)) (he'.tk (t + 1)) (fun t' q' c' a b c => ?_)
    rw [tw_r1n _ _ (by omega)]
    exact g t' q' c' a b (by omega)
/-- places that the model's undoing writes -/
def tm_SU (q j : Nat) : Prop := tm_S8 q j ∨ q = 134 ∨ q = 147 ∨ q = 148
theorem tm_c14 {X : Nat → Nat → Nat → Int32} {T : Nat} {σ0 : rx_St} {v3 v4 : Int32} (hT : T ≤ 40) (hM : tm_MW W lv σ0) (hdl : σ0.1 87 65 = tw_B dl) (hX : ∀ t q c, q < N.1 → c < 8 → X t q c = tw_cell (tw_vc W (N.2.1 q)) (tw_RA W N dl st seed pl bg (t + 1)) q c) (Q : Int32 × rx_St → Prop)
    (hQ : ∀ σ, tw_fr tm_SU σ0 σ → tm_env W N (st, seed, T) (tw_RA W N dl st seed pl bg T) σ → tm_co N X T 0 0 σ → tw_ok (f_m_changes_110 rx_fu seed (nI T) v3 v4 (0 : Int32) (0 : Int32) σ) Q) : ∀ (fuel t : Nat) (σ : rx_St), t ≤ T → T - t < fuel → tw_fr tm_SU σ0 σ → tm_env W N (st, seed, t) (tw_RA W N dl st seed pl bg t) σ → tm_co N X t 0 0 σ →
    tw_ok (f_m_changes_14 fuel seed (nI T) v3 v4 σ) Q := by
  intro fuel
  induction fuel with
  | zero => intro t σ _ h; exact absurd h (Nat.not_lt_zero _)
  | succ m ih =>
    intro t σ ht hm f he g
    have e1 : σ.1 87 79 = nI t := he.2.2.2.2.1
    unfold f_m_changes_14
    rw [e1]
    by_cases c : t = T
    · subst c
      rw [if_pos (tp_yl (by omega) (by omega) (Nat.le_refl _))]
      exact hQ σ f he g
    · rw [if_neg (tp_nl (by omega) (by omega) (by omega))]
      have hM' : tm_MW W lv σ := hM.fr (fun q j a b => f.i (by unfold tm_SU tm_S8; omega)) (f.i (by unfold tm_SU tm_S8; omega))
      refine tw_b (tm_tick (dl := dl) (out := (-1 : Int32)) he hM' (by rw [f.i (by unfold tm_SU tm_S8; omega)]; exact hdl)) (fun σ1 h => ?_)
      obtain ⟨f1, e1⟩ := h
      have f1' : tw_fr tm_SU σ σ1 := f1.mn (fun q j h => by unfold tm_S7 at h; unfold tm_SU tm_S8; omega)
      have hM1 : tm_MW W lv σ1 := hM'.fr (fun q j a b => f1'.i (by unfold tm_SU tm_S8; omega)) (f1'.i (by unfold tm_SU tm_S8; omega))
      refine tm_c30 (X := X) (R := tw_RA W N dl st seed pl bg (t + 1)) (by omega) e1 hM1 (fun q c hq hc => hX t q c hq hc) (fun t' q' c' a b c => ?_) Q (fun σ2 f2 he2 g2 => ?_)
      · rw [f1.i (by unfold tm_S7; omega)]
        exact g t' q' c' a b c
      · exact ih (t + 1) σ2 (by omega) (by omega) ((f.tr f1').tr (f2.mn (fun q j h => by unfold tm_SU tm_S8; omega))) he2 g2
theorem tm_c252 {q : Nat} {o : Option Nat} {σ : rx_St} {k143 : Int32 → Int32 → Int32 → Int32 → rx_St → Option (Int32 × rx_St)} {k172 : Int32 → Int32 → Int32 → Int32 → Int32 → rx_St → Option (Int32 × rx_St)} {v2 v3 v4 v5 : Int32} (hq : q < 20) (ho : ∀ x, o = some x → x < 1000) (h : σ.1 148 q = tw_en (-nI 1) o) :
    f_m_changes_252 k143 k172 v2 v3 v4 v5 (nI q) σ = k172 v2 v3 v4 (if o.isSome = true then v5 ||| rx_ishl (1 : Int32) (nI q) else v5) (nI (q + 1)) σ := by
  have e3 := tw_en_m (m := -nI 1) (o := o) (Or.inl rfl) ho
  unfold f_m_changes_252 f_m_changes_272
  rw [tw_gN (by omega) (by decide), nI_clamp (by omega), h, show nI q + (1 : Int32) = nI (q + 1) from nI_add q 1]
  cases o with
  | none =>
    rw [if_pos (show tw_en (-nI 1) none = (-1 : Int32) from rfl), if_neg (by decide)]
  | some x =>
    rw [if_neg (by
      intro z
      have z' : tw_en (-nI 1) (some x) = -nI 1 := z
      rw [e3] at z'
      cases z'), if_pos (show (some x).isSome = true from rfl)]
theorem tm_c184 {R R' : tw_R} {X : Nat → Nat → Nat → Int32} {D : Nat → Nat → Bool} {T t q : Nat} {σ0 : rx_St} {k143 : Int32 → Int32 → Int32 → Int32 → rx_St → Option (Int32 × rx_St)} {k172 : Int32 → Int32 → Int32 → Int32 → Int32 → rx_St → Option (Int32 × rx_St)} {v2 v3 v4 v5 : Int32} (hT : T ≤ 40) (ht : t < T) (hq : q < N.1) (he : tm_env W N (st, seed, t) R' σ0) (hM : tm_MW W lv σ0) (hX : ∀ c, c < 8 → X t q c = tw_cell (tw_vc W (N.2.1 q)) R q c) (hp : R.2.1 q < 10)
    (hco : tm_co N X T 0 0 σ0) (hD : D t q = tw_df (tw_vc W (N.2.1 q)) R R' q) (h0 : σ0.1 148 q = tw_en (-nI 1) (tw_fc D q t)) (Q : Int32 × rx_St → Prop) (hQ : ∀ σ, tw_fr (fun a b => a = 148 ∧ b = q) σ0 σ → σ.1 148 q = tw_en (-nI 1) (tw_fc D q (t + 1)) → tw_ok (k172 v2 v3 v4 (if (tw_fc D q (t + 1)).isSome = true then v5 ||| rx_ishl (1 : Int32) (nI q) else v5) (nI (q + 1)) σ) Q) :
    tw_ok (f_m_changes_184 k143 k172 rx_fu v2 v3 v4 v5 (nI q) (nI 0) σ0) Q := by
  have h20 := he.1.2
  have hx : ∀ u x, u ≤ T → tw_fc D q u = some x → x < 1000 := fun u x hu h => by have := tw_fc_lt u x h; omega
  have done : ∀ m c σ, c ≤ 8 → tw_fr (fun a b => a = 148 ∧ b = q) σ0 σ → (∃ x, x < 1000 ∧ σ.1 148 q = nI x) → σ.1 148 q = tw_en (-nI 1) (tw_fc D q (t + 1)) → tw_ok (f_m_changes_184 k143 k172 (m + 1) v2 v3 v4 v5 (nI q) (nI c) σ) Q := by
    intro m c σ hc f hs h
    obtain ⟨x, hx1, hx2⟩ := hs
    have fin : tw_ok (f_m_changes_252 k143 k172 v2 v3 v4 v5 (nI q) σ) Q := by
      rw [tm_c252 (by omega) (fun x hx' => hx (t + 1) x (by omega) hx') h]
      exact hQ σ f h
    unfold f_m_changes_184
    by_cases c8 : (8 : Int32) ≤ nI c
    · rw [if_pos c8]; exact fin
    · rw [if_neg c8]
      refine tw_g (vp_in_nI (by omega) (by decide)) ?_
      rw [nI_clamp (by omega), if_neg (by
        rw [hx2]
        intro z
        have := nI_pos' (n := x) (by omega)
        rw [z] at this
        exact absurd this (by decide))]
      exact fin
  cases hF : tw_fc D q t with
  | some x =>
    have e := tw_fc_s hF
    rw [hF] at h0
    exact done 99999 0 σ0 (by omega) tw_fr.rf ⟨x, hx t x (by omega) hF, h0⟩ (by rw [e]; exact h0)
  | none =>
    rw [hF] at h0
    have hcell := tw_cell_df (vc := tw_vc W (N.2.1 q)) (R := R) (R' := R') (q := q) (tw_vc6 he.2.2.2.2.2 _) hp (he.2.1 q hq).2.2.1.2
    have main : ∀ m c, c ≤ 8 → 8 - c + 1 < m → (∀ u, u < c → tw_cell (tw_vc W (N.2.1 q)) R q u = tw_cell (tw_vc W (N.2.1 q)) R' q u) → tw_ok (f_m_changes_184 k143 k172 m v2 v3 v4 v5 (nI q) (nI c) σ0) Q := by
      intro m
      induction m with
      | zero => intro c _ h; exact absurd h (Nat.not_lt_zero _)
      | succ m ih =>
        intro c hc hm heq
        unfold f_m_changes_184
        by_cases c8 : c = 8
        · subst c8
          rw [if_pos (show (8 : Int32) ≤ nI 8 from by decide)]
          have e : tw_fc D q (t + 1) = none := by
            rw [tw_fc_n hF, hD, hcell.mp heq]
            rfl
          have h1 : σ0.1 148 q = tw_en (-nI 1) (tw_fc D q (t + 1)) := by rw [e]; exact h0
          rw [tm_c252 (by omega) (fun x hx' => hx (t + 1) x (by omega) hx') h1]
          exact hQ σ0 tw_fr.rf h1
        · rw [if_neg (by rw [show (8 : Int32) = nI 8 from rfl, tw_le (by omega) (by omega)]; omega)]
          refine tw_g (vp_in_nI (by omega) (by decide)) ?_
          rw [nI_clamp (by omega), h0, if_pos (show tw_en (-nI 1) none = (-1 : Int32) from rfl)]
          have e1 : σ0.1 87 79 = nI t := he.2.2.2.2.1
          have e2 : σ0.1 147 (160 * t + 8 * q + c) = tw_cell (tw_vc W (N.2.1 q)) R q c := by rw [hco t q c hq (by omega) (by omega)]; exact hX c (by omega)
          rw [tm_cellOf he hM hq (by omega)]
          rw [Option.bind_some]
          simp (disch := omega) only [tw_L, tw_gN, tw_cl, tw_le, tw_lt, tw_eq, nI_add, pk_mul, tw_sub, tw_B0, tw_B1, tw_nb0, tw_nb1, tw_r1s, tw_r1n, if_true, if_false, Nat.le_refl, Nat.reduceEqDiff, Nat.reduceLeDiff, Nat.reduceLT, reduceIte, e1, e2]
          unfold f_m_changes_246
          rw [show nI c + (1 : Int32) = nI (c + 1) from nI_add c 1]
          by_cases d : tw_cell (tw_vc W (N.2.1 q)) R q c = tw_cell (tw_vc W (N.2.1 q)) R' q c
          · rw [if_pos d]
            refine ih (c + 1) (by omega) (by omega) (fun u hu => ?_)
            by_cases x : u = c
            · subst x; exact d
            · exact heq u (by omega)
          · rw [if_neg d]
            obtain ⟨m', rfl⟩ : ∃ m', m = m' + 1 := ⟨m - 1, by omega⟩
            have e : tw_fc D q (t + 1) = some t := by
              rw [tw_fc_n hF, hD]
              cases y : tw_df (tw_vc W (N.2.1 q)) R R' q with
              | true => rfl
              | false => exact absurd (hcell.mpr y c (by omega)) d
            exact done m' (c + 1) _ (by omega) (tw_fr.rf.si ⟨rfl, rfl⟩) ⟨t, by omega, tw_r1s _ _ _ _⟩ (by rw [tw_r1s, e]; rfl)
    exact main rx_fu 0 (by omega) (by show _ < 100000; omega) (fun u hu => absurd hu (Nat.not_lt_zero _))
theorem tm_c172 {R R' : tw_R} {X : Nat → Nat → Nat → Int32} {D : Nat → Nat → Bool} {T t : Nat} {σ0 : rx_St} {k143 : Int32 → Int32 → Int32 → Int32 → rx_St → Option (Int32 × rx_St)} {v2 v3 v4 v5 : Int32} (hT : T ≤ 40) (ht : t < T) (he : tm_env W N (st, seed, t) R' σ0) (hM : tm_MW W lv σ0) (hX : ∀ q c, q < N.1 → c < 8 → X t q c = tw_cell (tw_vc W (N.2.1 q)) R q c) (hp : ∀ q, q < N.1 → R.2.1 q < 10)
    (hco : tm_co N X T 0 0 σ0) (hD : ∀ q, D t q = tw_df (tw_vc W (N.2.1 q)) R R' q) (h0 : ∀ q, q < N.1 → σ0.1 148 q = tw_en (-nI 1) (tw_fc D q t)) (Q : Int32 × rx_St → Prop) (hQ : ∀ σ, tw_fr (fun a b => a = 148 ∨ a = 87 ∧ b = 79) σ0 σ → tm_env W N (st, seed, t + 1) R' σ → (∀ q, q < N.1 → σ.1 148 q = tw_en (-nI 1) (tw_fc D q (t + 1))) → tw_ok (k143 v2 v3 v4 (v5 ||| tw_bs (fun q => (tw_fc D q (t + 1)).isSome) N.1) σ) Q) :
    tw_ok (f_m_changes_172 k143 rx_fu v2 v3 v4 v5 (nI 0) σ0) Q := by
  have h20 := he.1.2
  have main : ∀ m i σ, i ≤ N.1 → N.1 - i < m → tw_fr (fun a _ => a = 148) σ0 σ → (∀ q, q < N.1 → σ.1 148 q = tw_en (-nI 1) (tw_fc D q (if q < i then t + 1 else t))) → tw_ok (f_m_changes_172 k143 m v2 v3 v4 (v5 ||| tw_bs (fun q => (tw_fc D q (t + 1)).isSome) i) (nI i) σ) Q := by
    intro m
    induction m with
    | zero => intro i σ _ h; exact absurd h (Nat.not_lt_zero _)
    | succ m ih =>
      intro i σ hi hm f g
      have he' : tm_env W N (st, seed, t) R' σ := he.gg (fun q j a => f.i (by omega))
      have hM' : tm_MW W lv σ := hM.fr (fun q j a b => f.i (by omega)) (f.i (by omega))
      have e1 : σ.1 87 79 = nI t := he'.2.2.2.2.1
      unfold f_m_changes_172
      rw [he'.1.1]
      by_cases c : i = N.1
      · subst c
        rw [if_pos (tp_yl (by omega) (by omega) (Nat.le_refl _)), e1, show nI t + (1 : Int32) = nI (t + 1) from nI_add t 1]
        refine hQ _ ((f.mn (fun q j h => Or.inl h)).si (Or.inr ⟨rfl, rfl⟩)) (he'.tk (t + 1)) (fun q hq => ?_)
        rw [tw_r1n _ _ (by omega), g q hq, if_pos hq]
      · rw [if_neg (tp_nl (by omega) (by omega) (by omega))]
        have gi := g i (by omega)
        rw [if_neg (by omega)] at gi
        refine tm_c184 (X := X) (D := D) hT ht (by omega) he' hM' (fun c hc => hX i c (by omega) hc) (hp i (by omega)) (fun t' q' c' a b c => by rw [f.i (by omega)]; exact hco t' q' c' a b c) (hD i) gi Q (fun σ1 f1 g1 => ?_)
        have nx := ih (i + 1) σ1 (by omega) (by omega) (f.tr (f1.mn (fun q j h => h.1))) (fun q hq => by
          by_cases x : q = i
          · subst x; rw [if_pos (by omega)]; exact g1
          · rw [f1.i (by omega), g q hq]
            by_cases y : q < i
            · rw [if_pos y, if_pos (by omega)]
            · rw [if_neg y, if_neg (by omega)])
        rw [tw_bs] at nx
        by_cases z : (tw_fc D i (t + 1)).isSome = true
        · rw [if_pos z] at nx ⊢
          rw [Int32.or_assoc]
          exact nx
        · rw [if_neg z] at nx ⊢
          exact nx
  have := main rx_fu 0 σ0 (Nat.zero_le _) (by show _ < 100000; omega) tw_fr.rf (fun q hq => by rw [if_neg (Nat.not_lt_zero _)]; exact h0 q hq)
  rw [tw_bs, show nI 0 = (0 : Int32) from rfl, Int32.or_zero] at this
  exact this
theorem tm_c143 {X : Nat → Nat → Nat → Int32} {T one tick : Nat} {σ0 : rx_St} (hT : T ≤ 40) (htick : tick < 1000) (hM : tm_MW W lv σ0) (hdl : σ0.1 87 65 = tw_B dl) (hX : ∀ t q c, q < N.1 → c < 8 → X t q c = tw_cell (tw_vc W (N.2.1 q)) (tw_RA W N dl st seed pl bg (t + 1)) q c) (hp : ∀ t q, t ≤ T → q < N.1 → (tw_RA W N dl st seed pl bg t).2.1 q < 10) :
    ∀ (fuel t : Nat) (σ : rx_St), t ≤ T → T - t < fuel → tw_fr tm_SU σ0 σ → tm_co N X T 0 0 σ → tm_env W N (st, seed, t) (tw_RB W N dl st seed pl bg one tick t) σ → (∀ q, q < N.1 → σ.1 148 q = tw_en (-nI 1) (tw_fc (tw_D W N dl st seed pl bg one tick) q t)) →
    tw_ok (f_m_changes_143 fuel (nI T) (nI one) (nI tick) (tw_bs (fun q => (tw_fc (tw_D W N dl st seed pl bg one tick) q t).isSome) N.1) σ) (fun y => y.1 = tw_bs (fun q => (tw_fc (tw_D W N dl st seed pl bg one tick) q T).isSome) N.1 ∧ tw_fr tm_SU σ0 y.2 ∧ ∀ q, q < N.1 → y.2.1 148 q = tw_en (-nI 1) (tw_fc (tw_D W N dl st seed pl bg one tick) q T)) := by
  intro fuel
  induction fuel with
  | zero => intro t σ _ h; exact absurd h (Nat.not_lt_zero _)
  | succ m ih =>
    intro t σ ht hm f hco he g
    have e1 : σ.1 87 79 = nI t := he.2.2.2.2.1
    unfold f_m_changes_143
    rw [e1]
    by_cases c : t = T
    · subst c
      rw [if_pos (tp_yl (by omega) (by omega) (Nat.le_refl _)), tw_some]
      exact ⟨rfl, f, g⟩
    · rw [if_neg (tp_nl (by omega) (by omega) (by omega))]
      have hM' : tm_MW W lv σ := hM.fr (fun q j a b => f.i (by unfold tm_SU tm_S8; omega)) (f.i (by unfold tm_SU tm_S8; omega))
      have go : ∀ x, x = tw_outs tick (nI one) t → tw_ok (f_m_changes_166 (f_m_changes_143 m) (nI T) (nI one) (nI tick) (tw_bs (fun q => (tw_fc (tw_D W N dl st seed pl bg one tick) q t).isSome) N.1) x σ) (fun y => y.1 = tw_bs (fun q => (tw_fc (tw_D W N dl st seed pl bg one tick) q T).isSome) N.1 ∧ tw_fr tm_SU σ0 y.2 ∧ ∀ q, q < N.1 → y.2.1 148 q = tw_en (-nI 1) (tw_fc (tw_D W N dl st seed pl bg one tick) q T)) := by
        intro x hx
        subst hx
        unfold f_m_changes_166
        refine tw_b (tm_tick (dl := dl) (out := tw_outs tick (nI one) t) he hM' (by rw [f.i (by unfold tm_SU tm_S8; omega)]; exact hdl)) (fun σ1 h => ?_)
        obtain ⟨f1, he1⟩ := h
        have f1' : tw_fr tm_SU σ σ1 := f1.mn (fun q j h => by unfold tm_S7 at h; unfold tm_SU tm_S8; omega)
        have hM1 : tm_MW W lv σ1 := hM'.fr (fun q j a b => f1'.i (by unfold tm_SU tm_S8; omega)) (f1'.i (by unfold tm_SU tm_S8; omega))
        refine tm_c172 (X := X) (D := tw_D W N dl st seed pl bg one tick) (R := tw_RA W N dl st seed pl bg (t + 1)) (R' := tw_RB W N dl st seed pl bg one tick (t + 1)) hT (by omega) he1 hM1 (fun q c hq hc => hX t q c hq hc) (fun q hq => hp (t + 1) q (by omega) hq) (fun t' q' c' a b c => by rw [f1.i (by unfold tm_S7; omega)]; exact hco t' q' c' a b c) (fun q => rfl) (fun q hq => by rw [f1.i (by unfold tm_S7; omega)]; exact g q hq) _ (fun σ2 f2 he2 g2 => ?_)
        rw [tw_bs_or (fun q h => by
          cases y : tw_fc (tw_D W N dl st seed pl bg one tick) q t with
          | none => rw [y] at h; cases h
          | some x => rw [tw_fc_s y]; rfl)]
        exact ih (t + 1) σ2 (by omega) (by omega) ((f.tr f1').tr (f2.mn (fun q j h => by unfold tm_SU tm_S8; omega))) (fun t' q' c' a b c => by rw [f2.i (by omega), f1.i (by unfold tm_S7; omega)]; exact hco t' q' c' a b c) he2 g2
      by_cases d : t = tick
      · rw [if_pos (by rw [d])]
        exact go _ (if_pos d).symm
      · rw [if_neg (by rw [tw_eq (by omega) (by omega)]; exact d)]
        exact go _ (if_neg d).symm
theorem tw_RA_p {σ : rx_St} (hT : tm_T W N pl bg dl σ) (hM : tm_MW W lv σ) (hst : ∀ i, i < W.1.length → σ.1 134 i = st i) (t q : Nat) (ht : t ≤ 40) (hq : q < N.1) : (tw_RA W N dl st seed pl bg t).2.1 q < 10 := by
  obtain ⟨σ1, -, -, e⟩ := tm_goes (seed := seed) ht hM hT hst
  exact (e.2.1 q hq).2.2.1.2
theorem tm_changes {σ : rx_St} {T one tick : Nat} (hT : T ≤ 40) (htick : tick < 1000) (h1 : tm_T W N pl bg dl σ) (hM : tm_MW W lv σ) (hst : ∀ i, i < W.1.length → σ.1 129 i = st i) :
    tw_ok (f_m_changes seed (nI T) (nI one) (nI tick) σ) (fun y => y.1 = tw_bs (fun q => (tw_fc (tw_D W N dl st seed pl bg one tick) q T).isSome) N.1 ∧ tw_fr tm_SU σ y.2 ∧ ∀ q, q < N.1 → y.2.1 148 q = tw_en (-nI 1) (tw_fc (tw_D W N dl st seed pl bg one tick) q T)) := by
  have h20 := h1.1.2
  have hs6 := h1.2.2.2.1
  unfold f_m_changes
  refine tw_b (tm_takes σ) (fun σ1 k => ?_)
  obtain ⟨f1, g1⟩ := k
  have hst1 : ∀ i, i < W.1.length → σ1.1 134 i = st i := fun i hi => by rw [g1 i (by omega)]; exact hst i hi
  have t1 : tm_T W N pl bg dl σ1 := h1.fr (fun q j a b => f1.i (by omega)) (f1.i (by omega)) (f1.i (by omega))
  have m1 : tm_MW W lv σ1 := hM.fr (fun q j a b => f1.i (by omega)) (f1.i (by omega))
  refine tw_b (tm_begins (lv := lv) (seed := seed) t1 hst1) (fun σ2 h => ?_)
  obtain ⟨f2, e2⟩ := h
  have f12 : tw_fr tm_SU σ σ2 := tw_fr.tn f1 f2 (fun q j h => Or.inr (Or.inl h)) (fun q j h => Or.inl h)
  have f3 : tw_fr tm_SU σ (rx_si σ2 87 79 (0 : Int32)) := f12.si (Or.inl (by unfold tm_S8; omega))
  let X : Nat → Nat → Nat → Int32 := fun t q c => tw_cell (tw_vc W (N.2.1 q)) (tw_RA W N dl st seed pl bg (t + 1)) q c
  refine tm_c14 (X := X) (σ0 := σ) (dl := dl) hT hM h1.2.2.1 (fun t q c _ _ => rfl) _ (fun σ4 f4 e4 g4 => ?_) rx_fu 0 _ (Nat.zero_le _) (by show _ < 100000; omega) f3 (e2 0) (fun t' q' c' a b c => absurd c (by omega))
  have loop : ∀ m i σ', i ≤ N.1 → N.1 - i < m → tw_fr (fun q _ => q = 148) σ4 σ' → (∀ q, q < i → σ'.1 148 q = -nI 1) → tw_ok (f_m_changes_110 m seed (nI T) (nI one) (nI tick) (0 : Int32) (nI i) σ') (fun y => y.1 = tw_bs (fun q => (tw_fc (tw_D W N dl st seed pl bg one tick) q T).isSome) N.1 ∧ tw_fr tm_SU σ y.2 ∧ ∀ q, q < N.1 → y.2.1 148 q = tw_en (-nI 1) (tw_fc (tw_D W N dl st seed pl bg one tick) q T)) := by
    intro m
    induction m with
    | zero => intro i σ' _ h; exact absurd h (Nat.not_lt_zero _)
    | succ m ih =>
      intro i σ' hi hm f g
      have r1 : σ'.1 87 60 = nI N.1 := (f.i (by omega)).trans e4.1.1
      unfold f_m_changes_110
      rw [r1]
      by_cases c : i = N.1
      · subst c
        rw [if_pos (tp_yl (by omega) (by omega) (Nat.le_refl _))]
        have fT : tw_fr tm_SU σ σ' := f4.tr (f.mn (fun q j h => Or.inr (Or.inr (Or.inr h))))
        have t5 : tm_T W N pl bg dl σ' := h1.fr (fun q j a b => fT.i (by unfold tm_SU tm_S8; omega)) (fT.i (by unfold tm_SU tm_S8; omega)) (fT.i (by unfold tm_SU tm_S8; omega))
        have st5 : ∀ i, i < W.1.length → σ'.1 134 i = st i := fun i hi => by rw [f.i (by omega)]; exact e4.2.2.1 i hi
        refine tw_b (tm_begins (lv := lv) (seed := seed) t5 st5) (fun σ6 h => ?_)
        obtain ⟨f6, e6⟩ := h
        have f6' : tw_fr tm_SU σ (rx_si σ6 87 79 (0 : Int32)) := (fT.tr (f6.mn (fun q j h => Or.inl h))).si (Or.inl (by unfold tm_S8; omega))
        have bs0 : tw_bs (fun q => (tw_fc (tw_D W N dl st seed pl bg one tick) q 0).isSome) N.1 = (0 : Int32) := by
          have : ∀ n, tw_bs (fun q => (tw_fc (tw_D W N dl st seed pl bg one tick) q 0).isSome) n = (0 : Int32) := by
            intro n
            induction n with
            | zero => rfl
            | succ n ih => rw [tw_bs, ih]; rfl
          exact this _
        have := tm_c143 (X := X) (T := T) (one := one) (tick := tick) (σ0 := σ) (dl := dl) hT htick hM h1.2.2.1 (fun t q c _ _ => rfl) (fun t q a b => tw_RA_p t1 m1 hst1 t q (by omega) b) rx_fu 0 (rx_si σ6 87 79 (0 : Int32)) (Nat.zero_le _) (by show _ < 100000; omega) f6' (fun t' q' c' a b c => by rw [tw_r1n _ _ (by omega), f6.i (by unfold tm_S8; omega), f.i (by omega)]; exact g4 t' q' c' a b c) (e6 0) (fun q hq => by rw [tw_r1n _ _ (by omega), f6.i (by unfold tm_S8; omega)]; exact g q hq)
        rw [bs0] at this
        exact this
      · rw [if_neg (tp_nl (by omega) (by omega) (by omega))]
        refine tw_g (vp_in_nI (by omega) (by decide)) ?_
        rw [nI_clamp (by omega), show nI i + (1 : Int32) = nI (i + 1) from nI_add i 1]
        refine ih (i + 1) _ (by omega) (by omega) (f.si rfl) (fun q hq => ?_)
        by_cases x : q = i
        · subst x; exact tw_r1s _ _ _ _
        · rw [tw_r1n _ _ (by omega)]; exact g q (by omega)
  exact loop rx_fu 0 σ4 (Nat.zero_le _) (by show _ < 100000; omega) tw_fr.rf (fun q hq => absurd hq (Nat.not_lt_zero _))
end TU2
