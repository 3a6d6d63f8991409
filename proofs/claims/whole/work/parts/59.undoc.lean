/-! THE CLASS: two runs side by side -/
section TU1
variable {w : Nat} {W : tw_Wo} {N : tw_N} {pl : Nat → Nat} {bg : Nat → Int32} {dl : Bool} {st : Nat → Int32} {seed : Int32}
/-- it is false that P, or it is true -/
def tw_yn (P : Prop) (r : Option Int32) : Prop := (P → r = some (nI 0)) ∧ (¬ P → r = some (nI 1))
theorem tw_yn.of {P Q : Prop} {r : Option Int32} (h : tw_yn P r) (f : P ↔ Q) : tw_yn Q r := ⟨fun q => h.1 (f.mpr q), fun q => h.2 (fun p => q (f.mp p))⟩
theorem tc_differs {Ea Eb : tw_E} {Ra Rb : tw_R} {o : Nat} {σ : rx_St} (ea : tc_env 0 W N Ea Ra σ) (eb : tc_env 1 W N Eb Rb σ) (ho : o < N.1) (hx : ∀ v, tw_vc W (N.2.1 o) ≤ v → v < 6 → Ra.1 (6 * o + v) = Rb.1 (6 * o + v)) :
    f_run_differs 1 0 (nI o) σ = some (tw_B (tw_df (tw_vc W (N.2.1 o)) Ra Rb o)) := by
  have h20 := ea.1.2
  obtain ⟨-, -, ⟨a4, a5⟩, a6, a7⟩ := ea.2.1 o ho
  obtain ⟨-, -, ⟨b4, b5⟩, b6, b7⟩ := eb.2.1 o ho
  have hv6 := tw_vc6 ea.2.2.2.2.2.1 (N.2.1 o)
  have loop : ∀ m v, v ≤ 6 → 6 - v < m → tw_yn (∀ u, v ≤ u → u < 6 → Ra.1 (6 * o + u) = Rb.1 (6 * o + u)) (f_run_differs_37 1 0 m (nI o) (nI (6 * o + v)) σ) := by
    intro m
    induction m with
    | zero => intro v _ h; exact absurd h (Nat.not_lt_zero _)
    | succ m ih =>
      intro v hv hm
      unfold f_run_differs_37
      by_cases c : v = 6
      · subst c
        simp (disch := omega) only [tw_L, tw_gN, tw_cl, tw_le, tw_lt, tw_eq, nI_add, pk_mul, tw_sub, tw_B0, tw_B1, tw_nb0, tw_nb1, tw_r1s, tw_r1n, if_true, if_false, Nat.le_refl, Nat.reduceEqDiff, Nat.reduceLeDiff, Nat.reduceLT, reduceIte]
        rw [if_pos (by omega)]
        exact ⟨fun _ => rfl, fun q => absurd (fun u h1 h2 => absurd h1 (by omega)) q⟩
      · have g1 : σ.1 59 (6 * o + v) = Ra.1 (6 * o + v) := a7 v (by omega)
        have g2 : σ.1 66 (6 * o + v) = Rb.1 (6 * o + v) := b7 v (by omega)
        simp (disch := omega) only [tw_L, tw_gN, tw_cl, tw_le, tw_lt, tw_eq, nI_add, pk_mul, tw_sub, tw_B0, tw_B1, tw_nb0, tw_nb1, tw_r1s, tw_r1n, if_true, if_false, Nat.le_refl, Nat.reduceEqDiff, Nat.reduceLeDiff, Nat.reduceLT, reduceIte, g1, g2]
        rw [if_neg (by omega)]
        by_cases e : Ra.1 (6 * o + v) = Rb.1 (6 * o + v)
        · rw [if_pos e]
          refine (ih (v + 1) (by omega) (by omega)).of ⟨fun q u h1 h2 => ?_, fun q u h1 h2 => q u (by omega) h2⟩
          by_cases x : u = v
          · subst x; exact e
          · exact q u (by omega) h2
        · rw [if_neg e]
          exact ⟨fun q => absurd (q v (Nat.le_refl _) (by omega)) e, fun _ => rfl⟩
  have key : tw_yn (Ra.2.2 o = Rb.2.2 o ∧ Ra.2.1 o = Rb.2.1 o ∧ ∀ u, 0 ≤ u → u < 6 → Ra.1 (6 * o + u) = Rb.1 (6 * o + u)) (f_run_differs 1 0 (nI o) σ) := by
    unfold f_run_differs
    have x6 : σ.1 61 o = tw_B (Ra.2.2 o) := a6
    have y6 : σ.1 68 o = tw_B (Rb.2.2 o) := b6
    have x4 : σ.1 60 o = nI (Ra.2.1 o) := a4
    have y4 : σ.1 67 o = nI (Rb.2.1 o) := b4
    simp (disch := omega) only [tw_L, tw_gN, tw_cl, tw_le, tw_lt, tw_eq, nI_add, pk_mul, tw_sub, tw_B0, tw_B1, tw_nb0, tw_nb1, tw_r1s, tw_r1n, if_true, if_false, Nat.le_refl, Nat.reduceEqDiff, Nat.reduceLeDiff, Nat.reduceLT, reduceIte, x6, y6, x4, y4]
    have e1 : (tw_B (Ra.2.2 o) = tw_B (Rb.2.2 o)) = (Ra.2.2 o = Rb.2.2 o) := by
      cases Ra.2.2 o <;> cases Rb.2.2 o <;> simp [tw_B] <;> decide
    by_cases c1 : Ra.2.2 o = Rb.2.2 o
    · rw [if_pos (by rw [e1]; exact c1)]
      by_cases c2 : Ra.2.1 o = Rb.2.1 o
      · rw [if_pos c2]
        rw [show o * 6 = 6 * o + 0 by omega]
        exact tw_yn.of (loop rx_fu 0 (by omega) (by show _ < 100000; omega)) (Iff.intro (fun q => And.intro c1 (And.intro c2 q)) (fun q => q.2.2))
      · rw [if_neg c2]
        exact ⟨fun q => absurd q.2.1 c2, fun _ => rfl⟩
    · rw [if_neg (by rw [e1]; exact c1)]
      exact ⟨fun q => absurd q.1 c1, fun _ => rfl⟩
  cases c : tw_df (tw_vc W (N.2.1 o)) Ra Rb o with
  | false =>
    have := tw_df_f.mp c
    refine key.1 ⟨this.1, this.2.1, fun u _ h2 => ?_⟩
    by_cases x : u < tw_vc W (N.2.1 o)
    · exact this.2.2 u x
    · exact hx u (by omega) h2
  | true =>
    refine key.2 (fun q => ?_)
    have := (tw_df_f (vc := tw_vc W (N.2.1 o)) (R := Ra) (R' := Rb) (q := o)).mpr ⟨q.1, q.2.1, fun u h2 => q.2.2 u (Nat.zero_le _) (by omega)⟩
    rw [c] at this
    cases this
/-- the course undone against the plain one -/
def tw_RA (W : tw_Wo) (N : tw_N) (dl : Bool) (st : Nat → Int32) (seed : Int32) (pl : Nat → Nat) (bg : Nat → Int32) (t : Nat) : tw_R := tw_run W N dl st seed tw_plain (tw_R0 pl bg) t
def tw_RB (W : tw_Wo) (N : tw_N) (dl : Bool) (st : Nat → Int32) (seed : Int32) (pl : Nat → Nat) (bg : Nat → Int32) (one tick : Nat) (t : Nat) : tw_R := tw_run W N dl st seed (tw_outs tick (nI one)) (tw_R0 pl bg) t
def tw_D (W : tw_Wo) (N : tw_N) (dl : Bool) (st : Nat → Int32) (seed : Int32) (pl : Nat → Nat) (bg : Nat → Int32) (one tick : Nat) (t q : Nat) : Bool := tw_df (tw_vc W (N.2.1 q)) (tw_RA W N dl st seed pl bg (t + 1)) (tw_RB W N dl st seed pl bg one tick (t + 1)) q
theorem tc_u85 {σ0 : rx_St} {D : Nat → Nat → Bool} {t : Nat} {k49 : Int32 → Int32 → Int32 → Int32 → rx_St → Option (rx_St)} {v2 v3 v4 : Int32} (ht : t < 1000) (hn : σ0.1 38 2 = nI N.1) (h20 : N.1 ≤ 20) (hD : ∀ σ, tw_fr (fun q _ => q = 71) σ0 σ → ∀ q, q < N.1 → f_run_differs 1 0 (nI q) σ = some (tw_B (D t q)))
    (h0 : ∀ q, q < N.1 → σ0.1 71 q = tw_en (-nI 2) (tw_fc D q t)) (Q : rx_St → Prop)
    (hQ : ∀ σ, tw_fr (fun q _ => q = 71) σ0 σ → (∀ q, q < N.1 → σ.1 71 q = tw_en (-nI 2) (tw_fc D q (t + 1))) → tw_ok (k49 v2 v3 v4 (nI (t + 1)) σ) Q) :
    tw_ok (f_c_undo_85 w k49 rx_fu v2 v3 v4 (nI t) (nI 0) σ0) Q := by
  refine tw_lp (fun fu i σ => f_c_undo_85 w k49 fu v2 v3 v4 (nI t) (nI i) σ) (fun i σ => tw_fr (fun q _ => q = 71) σ0 σ ∧ ∀ q, q < N.1 → σ.1 71 q = tw_en (-nI 2) (tw_fc D q (if q < i then t + 1 else t))) N.1 Q ?_ ?_ rx_fu 0 σ0 (by show _ < 100000; omega) (Nat.zero_le _) ⟨tw_fr.rf, fun q hq => by rw [if_neg (Nat.not_lt_zero _)]; exact h0 q hq⟩
  · intro m i σ hi hI next
    obtain ⟨f, g⟩ := hI
    have e1 : σ.1 38 2 = nI N.1 := (f.i (by omega)).trans hn
    have e2 : σ.1 71 i = tw_en (-nI 2) (tw_fc D i t) := by
      have := g i hi
      rw [if_neg (by omega)] at this
      exact this
    have e3 := tw_en_m (m := -nI 2) (o := tw_fc D i t) (Or.inr rfl) (fun x hx => by have := tw_fc_lt t x hx; omega)
    unfold f_c_undo_85
    rw [e1, if_neg (tp_nl (by omega) (by omega) (by omega))]
    refine tw_g (vp_in_nI (by omega) (by decide)) ?_
    rw [nI_clamp (by omega), e2]
    have e4 : nI i + (1 : Int32) = nI (i + 1) := nI_add i 1
    have keep : tw_fc D i (t + 1) = tw_fc D i t → tw_ok (f_c_undo_134 w k49 (f_c_undo_85 w k49 m) v2 v3 v4 (nI t) (nI i) σ) Q := fun z => by
      unfold f_c_undo_134
      rw [e4]
      refine next σ ⟨f, fun q hq => ?_⟩
      rw [g q hq]
      by_cases x : q = i
      · subst x; rw [if_neg (by omega), if_pos (by omega), z]
      · by_cases y : q < i
        · rw [if_pos y, if_pos (by omega)]
        · rw [if_neg y, if_neg (by omega)]
    cases c : tw_fc D i t with
    | some x =>
      rw [if_neg (by
        intro q
        have q' : tw_en (-nI 2) (some x) = -nI 2 := q
        rw [c] at e3
        rw [e3] at q'
        cases q')]
      exact keep (by rw [tw_fc_s c, c])
    | none =>
      rw [if_pos (show tw_en (-nI 2) none = (-2 : Int32) from rfl), hD σ f i hi, Option.bind_some]
      cases d : D t i with
      | false =>
        rw [if_pos (show tw_B false = (0 : Int32) from rfl)]
        exact keep (by rw [tw_fc_n c, d, c]; rfl)
      | true =>
        rw [if_neg (show ¬ tw_B true = (0 : Int32) by decide)]
        refine tw_g (vp_in_nI (by omega) (by decide)) ?_
        unfold f_c_undo_134
        rw [e4]
        refine next _ ⟨f.si rfl, fun q hq => ?_⟩
        by_cases x : q = i
        · subst x
          rw [tw_r1s, if_pos (by omega), tw_fc_n c, d]
          rfl
        · rw [tw_r1n _ _ (by omega), g q hq]
          by_cases y : q < i
          · rw [if_pos y, if_pos (by omega)]
          · rw [if_neg y, if_neg (by omega)]
  · intro m σ hI
    obtain ⟨f, g⟩ := hI
    have e1 : σ.1 38 2 = nI N.1 := (f.i (by omega)).trans hn
    unfold f_c_undo_85
    rw [e1, if_pos (tp_yl (by omega) (by omega) (Nat.le_refl _)), show nI t + (1 : Int32) = nI (t + 1) from nI_add t 1]
    exact hQ σ f (fun q hq => by rw [g q hq, if_pos hq])
/-- places that the class's undoing writes -/
def tc_SU (q j : Nat) : Prop := tc_SR 0 q j ∨ tc_SR 1 q j ∨ q = 71
theorem tc_u49 {σ0 : rx_St} {T one tick : Nat} (hw : w ≤ 1) (hT : T < 1000) (hR : tc_WR w W σ0) (hdl : σ0.1 38 7 = tw_B dl) : ∀ (fuel t : Nat) (σ : rx_St), t ≤ T → T - t < fuel → tw_fr tc_SU σ0 σ →
    tc_env 0 W N (st, seed, t) (tw_RA W N dl st seed pl bg t) σ → tc_env 1 W N (st, seed, t) (tw_RB W N dl st seed pl bg one tick t) σ → (∀ q, q < N.1 → σ.1 71 q = tw_en (-nI 2) (tw_fc (tw_D W N dl st seed pl bg one tick) q t)) → tick < 1000 →
    tw_ok (f_c_undo_49 w fuel (nI T) (nI one) (nI tick) (nI t) σ) (fun σ' => tw_fr tc_SU σ0 σ' ∧ ∀ q, q < N.1 → σ'.1 71 q = tw_en (-nI 2) (tw_fc (tw_D W N dl st seed pl bg one tick) q T)) := by
  intro fuel
  induction fuel with
  | zero => intro t σ _ h; exact absurd h (Nat.not_lt_zero _)
  | succ m ih =>
    intro t σ ht hm f ea eb hF htick
    unfold f_c_undo_49
    by_cases c : t = T
    · subst c
      rw [if_pos (tp_yl (by omega) (by omega) (Nat.le_refl _)), tw_some]
      exact ⟨f, hF⟩
    · rw [if_neg (tp_nl (by omega) (by omega) (by omega))]
      have s10 : ∀ q j, tc_S11 0 q j → tc_SR 0 q j := tc_S11R
      have s11 : ∀ q j, tc_S11 1 q j → tc_SR 1 q j := tc_S11R
      have hR0 : tc_WR w W σ := hR.fr (fun q j a b => f.i (by unfold tc_SU tc_SR; omega))
      have hdl0 : σ.1 38 7 = tw_B dl := by rw [f.i (by unfold tc_SU tc_SR; omega)]; exact hdl
      refine tw_b (tc_step (dl := dl) (out := (-1 : Int32)) hw ea hR0 hdl0) (fun σ1 h => ?_)
      obtain ⟨f1, ea1, -⟩ := h
      have fr1 := f1.mn s10
      have eb1 : tc_env 1 W N (st, seed, t) (tw_RB W N dl st seed pl bg one tick t) σ1 := eb.fg (fun q j a => fr1.i (by unfold tc_SR; omega))
      have hR1 : tc_WR w W σ1 := hR0.fr (fun q j a b => fr1.i (by unfold tc_SR; omega))
      have hdl1 : σ1.1 38 7 = tw_B dl := by rw [fr1.i (by unfold tc_SR; omega)]; exact hdl0
      have go : ∀ x, x = tw_outs tick (nI one) t → tw_ok (f_c_undo_79 w (f_c_undo_49 w m) (nI T) (nI one) (nI tick) (nI t) x σ1) (fun σ' => tw_fr tc_SU σ0 σ' ∧ ∀ q, q < N.1 → σ'.1 71 q = tw_en (-nI 2) (tw_fc (tw_D W N dl st seed pl bg one tick) q T)) := by
        intro x hx
        subst hx
        unfold f_c_undo_79
        refine tw_b (tc_step (dl := dl) (out := tw_outs tick (nI one) t) hw eb1 hR1 hdl1) (fun σ2 h => ?_)
        obtain ⟨f2, eb2, -⟩ := h
        have fr2 := f2.mn s11
        have ea2 : tc_env 0 W N (st, seed, t + 1) (tw_RA W N dl st seed pl bg (t + 1)) σ2 := tc_env.fg (r := 0) ea1 (fun q j a => fr2.i (by unfold tc_SR; omega))
        have eb2' : tc_env 1 W N (st, seed, t + 1) (tw_RB W N dl st seed pl bg one tick (t + 1)) σ2 := eb2
        have fT : tw_fr tc_SU σ0 σ2 := (f.tr (fr1.mn (fun q j h => Or.inl h))).tr (fr2.mn (fun q j h => Or.inr (Or.inl h)))
        refine tc_u85 (D := tw_D W N dl st seed pl bg one tick) (by omega) ea2.1.1 ea2.1.2 (fun σ3 f3 q hq => ?_) (fun q hq => ?_) _ (fun σ3 f3 g3 => ?_)
        · exact tc_differs (tc_env.fg (r := 0) ea2 (fun q j a => f3.i (by omega))) (tc_env.fg (r := 1) eb2' (fun q j a => f3.i (by omega))) hq (fun v h1 h2 => tw_run_ext ea2.2.2.2.2.2.1 (fun o ho => (ea2.2.1 o ho).1.2) h1 h2 (t + 1))
        · rw [fr2.i (by unfold tc_SR; omega), fr1.i (by unfold tc_SR; omega)]
          exact hF q hq
        · exact ih (t + 1) σ3 (by omega) (by omega) (fT.tr (f3.mn (fun q j h => Or.inr (Or.inr h)))) (tc_env.fg (r := 0) ea2 (fun q j a => f3.i (by omega))) (tc_env.fg (r := 1) eb2' (fun q j a => f3.i (by omega))) g3 htick
      by_cases d : t = tick
      · rw [if_pos (by rw [d])]
        exact go _ (if_pos d).symm
      · rw [if_neg (by rw [tw_eq (by omega) (by omega)]; exact d)]
        exact go _ (if_neg d).symm
theorem tc_undo {σ : rx_St} {T one tick : Nat} (hw : w ≤ 1) (hT : T < 1000) (htick : tick < 1000) (h1 : tc_T W N pl bg dl σ) (hR : tc_WR w W σ) (hst : ∀ i, i < W.1.length → σ.1 39 i = st i) :
    tw_ok (f_c_undo w seed (nI T) (nI one) (nI tick) σ) (fun σ' => tw_fr tc_SU σ σ' ∧ ∀ q, q < N.1 → σ'.1 71 q = tw_en (-nI 2) (tw_fc (tw_D W N dl st seed pl bg one tick) q T)) := by
  have hs : σ.1 (7 + 14 * w) 0 = nI W.1.length := by obtain ⟨_, _, _, _, h⟩ := hR; exact h
  have h20 := h1.1.2
  unfold f_c_undo
  refine tw_b (tc_restart (r := 0) (w := w) (st := st) (seed := seed) (by omega) hw h1 hs hst) (fun σ1 h => ?_)
  obtain ⟨f1, ea⟩ := h
  have h1' : tc_T W N pl bg dl σ1 := h1.fr (fun q j a b c => f1.i (by omega))
  refine tw_b (tc_restart (r := 1) (w := w) (st := st) (seed := seed) (by omega) hw h1' (by rw [f1.i (by omega)]; exact hs) (fun i hi => by rw [f1.i (by omega)]; exact hst i hi)) (fun σ2 h => ?_)
  obtain ⟨f2, eb⟩ := h
  have ea2 : tc_env 0 W N (st, seed, 0) (tw_R0 pl bg) σ2 := tc_env.fg (r := 0) ea (fun q j a => f2.i (by omega))
  have fT : tw_fr tc_SU σ σ2 := tw_fr.tn f1 f2 (fun q j h => Or.inl (by unfold tc_SR; omega)) (fun q j h => Or.inr (Or.inl (by unfold tc_SR; omega)))
  refine tw_lp (fun fu i σ => f_c_undo_19 w fu (nI T) (nI one) (nI tick) (nI i) σ) (fun i σ' => tw_fr (fun q _ => q = 71) σ2 σ' ∧ ∀ q, q < i → σ'.1 71 q = -nI 2) N.1 _ ?_ ?_ rx_fu 0 σ2 (by show _ < 100000; omega) (Nat.zero_le _) ⟨tw_fr.rf, fun q hq => absurd hq (Nat.not_lt_zero _)⟩
  · intro m i σ3 hi hI next
    obtain ⟨f, g⟩ := hI
    have e1 : σ3.1 38 2 = nI N.1 := (f.i (by omega)).trans ea2.1.1
    unfold f_c_undo_19
    rw [e1, if_neg (tp_nl (by omega) (by omega) (by omega))]
    refine tw_g (vp_in_nI (by omega) (by decide)) ?_
    rw [nI_clamp (by omega), show nI i + (1 : Int32) = nI (i + 1) from nI_add i 1]
    refine next _ ⟨f.si rfl, fun q hq => ?_⟩
    by_cases x : q = i
    · subst x; exact tw_r1s _ _ _ _
    · rw [tw_r1n _ _ (by omega)]; exact g q (by omega)
  · intro m σ3 hI
    obtain ⟨f, g⟩ := hI
    have e1 : σ3.1 38 2 = nI N.1 := (f.i (by omega)).trans ea2.1.1
    unfold f_c_undo_19
    rw [e1, if_pos (tp_yl (by omega) (by omega) (Nat.le_refl _))]
    have fT3 : tw_fr tc_SU σ σ3 := fT.tr (f.mn (fun q j h => Or.inr (Or.inr h)))
    exact tc_u49 (σ0 := σ) hw hT hR h1.2.2.1 rx_fu 0 σ3 (Nat.zero_le _) (by show _ < 100000; omega) fT3 (tc_env.fg (r := 0) ea2 (fun q j a => f.i (by omega))) (tc_env.fg (r := 1) eb (fun q j a => f.i (by omega))) (fun q hq => g q hq) htick
theorem tc_ch28 {σ : rx_St} {F : Nat → Option Nat} (hn : σ.1 38 2 = nI N.1) (h20 : N.1 ≤ 20) (hF : ∀ q, q < N.1 → σ.1 71 q = tw_en (-nI 2) (F q)) (hx : ∀ q x, F q = some x → x < 1000) : ∀ fuel i, i ≤ N.1 → N.1 - i < fuel → f_c_changed_28 w fuel (tw_bs (fun q => (F q).isSome) i) (nI i) σ = some (tw_bs (fun q => (F q).isSome) N.1, σ) := by
  intro fuel
  induction fuel with
  | zero => intro i _ h; exact absurd h (Nat.not_lt_zero _)
  | succ m ih =>
    intro i hi hm
    unfold f_c_changed_28
    rw [hn]
    by_cases c : i = N.1
    · subst c
      exact if_pos (tp_yl (by omega) (by omega) (Nat.le_refl _))
    · rw [if_neg (tp_nl (by omega) (by omega) (by omega)), tw_gN (by omega) (by decide), nI_clamp (by omega), hF i (by omega), tw_ifE (tw_en_l (Or.inr rfl) (hx i))]
      have g := ih (i + 1) (by omega) (by omega)
      rw [tw_bs] at g
      unfold f_c_changed_59
      rw [show nI i + (1 : Int32) = nI (i + 1) from nI_add i 1]
      cases d : F i with
      | none =>
        rw [if_pos rfl]
        rw [d, if_neg (show ¬ (none : Option Nat).isSome = true by decide)] at g
        exact g
      | some x =>
        rw [if_neg (fun h => by cases h)]
        rw [d, if_pos (show (some x).isSome = true from rfl)] at g
        exact g
end TU1
