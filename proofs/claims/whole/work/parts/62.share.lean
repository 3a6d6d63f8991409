/-! share on both sides: figures with each set of CAUSES, then the sum over the orders -/
/-- SETTINGS with the set s of CAUSES, as far as i -/
def tw_stx (cs : List (Nat × Int32)) (s : Nat) (st : Nat → Int32) : Nat → Nat → Int32
  | 0 => st
  | i + 1 => if ((rx_ishr (nI s) (nI i)) &&& (1 : Int32)) = (0 : Int32) then tw_stx cs s st i else match cs[i]? with
    | some p => tw_updN (tw_stx cs s st i) p.1 p.2
    | none => tw_stx cs s st i
set_option maxRecDepth 100000 in
theorem tp_bit1 : ∀ s, s < 16 → ∀ i, i < 4 → (((rx_ishr (nI s) (nI i)) &&& (1 : Int32)) = (0 : Int32) ∧ ¬ ((rx_ishr (nI s) (nI i)) &&& (1 : Int32)) = (1 : Int32)) ∨ (¬ ((rx_ishr (nI s) (nI i)) &&& (1 : Int32)) = (0 : Int32) ∧ ((rx_ishr (nI s) (nI i)) &&& (1 : Int32)) = (1 : Int32)) := by decide +kernel
theorem tp_pow : ∀ c, c < 5 → rx_ishl (1 : Int32) (nI c) = nI (2 ^ c) ∧ 2 ^ c ≤ 16 := by decide +kernel
set_option maxRecDepth 100000 in
theorem tp_orb : ∀ c, c < 5 → ∀ s, s < 2 ^ c → ∀ a, a < c → ((rx_ishr (nI s) (nI a)) &&& (1 : Int32)) = (0 : Int32) → nI s ||| rx_ishl (1 : Int32) (nI a) = nI (s + 2 ^ a) ∧ s + 2 ^ a < 2 ^ c := by decide +kernel
theorem tp_fac : ∀ m v0 v1 v3, f_cau_factorial_4 m v0 v1 v3 = f_m_ways_4 m v0 v1 v3 := by
  intro m
  induction m with
  | zero => intro v0 v1 v3; rfl
  | succ m ih =>
    intro v0 v1 v3
    unfold f_cau_factorial_4 f_m_ways_4
    by_cases h : v0 < v3
    · rw [if_pos h, if_pos h]
    · rw [if_neg h, if_neg h]
      exact ih _ _ _
theorem tp_fac0 (x : Int32) : f_cau_factorial x = f_m_ways x := tp_fac rx_fu x _ _
/-- as far as 4 there is a product -/
theorem tp_facS : ∀ m b d y, d ≤ 5 → b ≤ 4 → 6 - d < m → ∃ r, f_m_ways_4 m (nI b) y (nI d) = some r := by
  intro m
  induction m with
  | zero => intro b d y _ _ h; exact absurd h (Nat.not_lt_zero _)
  | succ m ih =>
    intro b d y hd hb hm
    unfold f_m_ways_4
    by_cases h : b < d
    · exact ⟨y, if_pos (by rw [tw_lt (by omega) (by omega)]; exact h)⟩
    · obtain ⟨r, hr⟩ := ih b (d + 1) (y * (nI d).toInt64) (by omega) hb (by omega)
      refine ⟨r, (if_neg (by rw [tw_lt (by omega) (by omega)]; exact h)).trans ?_⟩
      show f_m_ways_4 m (nI b) (y * (nI d).toInt64) (nI d + (1 : Int32)) = some r
      rw [show nI d + (1 : Int32) = nI (d + 1) from nI_add d 1]
      exact hr
theorem tp_facT {b : Nat} (hb : b ≤ 4) : ∃ r, f_m_ways (nI b) = some r := tp_facS rx_fu b 2 _ (by omega) hb (by unfold rx_fu; omega)
set_option maxRecDepth 100000 in
theorem tp_cnt : ∀ s, s < 16 → ∃ b, b < 5 ∧ f_j_bitCount (nI s) = nI b := by decide +kernel
set_option maxRecDepth 100000 in
theorem tp_cnt2 : ∀ c, c < 5 → ∀ s, s < 2 ^ c → ∀ a, a < c → ((rx_ishr (nI s) (nI a)) &&& (1 : Int32)) = (0 : Int32) → ∃ b, b < c ∧ f_j_bitCount (nI s) = nI b := by decide +kernel
section TH
variable {w : Nat} {W : tw_Wo} {lv : Nat} {N : tw_N} {pl : Nat → Nat} {bg : Nat → Int32} {dl : Bool} {st : Nat → Int32} {seed : Int32} {cs : List (Nat × Int32)}
theorem tc_goes {st' : Nat → Int32} {seed : Int32} {u T : Nat} {σ : rx_St} (hw : w ≤ 1) (hT : T < 1000) (hu : u ≤ T) (hR : tc_WR w W σ) (hdl : σ.1 38 7 = tw_B dl) (he : tc_env 0 W N (st', seed, u) (tw_run W N dl st' seed tw_plain (tw_R0 pl bg) u) σ) (ha : ∀ t', u = t' + 1 → tc_all (tw_evs W N (st', seed, t') (tw_run W N dl st' seed tw_plain (tw_R0 pl bg) t')) N.1 σ) :
    tw_ok (f_run_goOn 0 w (nI T) σ) (fun σ' => tw_fr (tc_SR 0) σ σ' ∧ tc_env 0 W N (st', seed, T) (tw_run W N dl st' seed tw_plain (tw_R0 pl bg) T) σ' ∧ ∀ t', T = t' + 1 → tc_all (tw_evs W N (st', seed, t') (tw_run W N dl st' seed tw_plain (tw_R0 pl bg) t')) N.1 σ') := by
  unfold f_run_goOn
  have t0 : σ.1 57 10 = nI u := he.2.2.2.2.1
  rw [show σ.1 (57 + 7 * 0) 10 = nI u from t0]
  exact tw_mono (tc_goOn (r := 0) (dl := dl) (σ0 := σ) (R0 := tw_R0 pl bg) hw hT hR hdl rx_fu u σ hu (by show _ < 100000; omega) he ha tw_fr.rf) (fun y h => ⟨h.1.mn tc_S11R, h.2⟩)
def tw_Fg (W : tw_Wo) (N : tw_N) (pl : Nat → Nat) (bg : Nat → Int32) (dl : Bool) (st : Nat → Int32) (seed : Int32) (cs : List (Nat × Int32)) (t k v s : Nat) : Int32 := tw_fig N (tw_run W N dl (tw_stx cs s st cs.length) seed tw_plain (tw_R0 pl bg) t) k v
theorem tp_sum {w : Nat} {c a : Nat} {F : Nat → Int32} (hc : c < 5) (ha : a < c) :
    ∀ m s x, s ≤ 2 ^ c → 2 ^ c - s < m → ∃ r, (∀ σ, σ.1 72 2 = nI c → (∀ s, s < 2 ^ c → σ.1 75 s = F s) → f_cau_sumOverOrders_110 w m (nI a) x (nI s) σ = some (r, σ)) ∧ ∀ σ', σ'.1 87 86 = nI c → (∀ s, s < 2 ^ c → σ'.2 151 s = (F s).toInt64) → f_m_share_129 m (nI a) x (nI s) σ' = some (r, σ') := by
  have hp := tp_pow c hc
  intro m
  induction m with
  | zero => intro s x _ h; exact absurd h (Nat.not_lt_zero _)
  | succ m ih =>
    intro s x hs hm
    have e4 : nI s + (1 : Int32) = nI (s + 1) := nI_add s 1
    by_cases e : s = 2 ^ c
    · subst e
      refine ⟨x, fun σ h1 g1 => ?_, fun σ' h2 g2 => ?_⟩
      · unfold f_cau_sumOverOrders_110
        rw [h1, hp.1]
        exact if_pos (tp_yl (by omega) (by omega) (Nat.le_refl _))
      · unfold f_m_share_129
        rw [h2, hp.1]
        exact if_pos (tp_yl (by omega) (by omega) (Nat.le_refl _))
    · rcases tp_bit1 s (by omega) a (by omega) with ⟨b0, b1⟩ | ⟨b0, b1⟩
      · obtain ⟨b, hb, eb⟩ := tp_cnt2 c hc s (by omega) a ha b0
        obtain ⟨o1, o2⟩ := tp_orb c hc s (by omega) a ha b0
        obtain ⟨r1, e1⟩ := tp_facT (b := b) (by omega)
        obtain ⟨r2, e2⟩ := tp_facT (b := c - 1 - b) (by omega)
        have q1 : nI c - (1 : Int32) - nI b = nI (c - 1 - b) := by
          rw [show nI c - (1 : Int32) = nI (c - 1) from tw_sub (a := c) (b := 1) (by omega), tw_sub (by omega)]
        have q2 : nI c - nI b - (1 : Int32) = nI (c - 1 - b) := by
          rw [tw_sub (by omega), show nI (c - b) - (1 : Int32) = nI (c - b - 1) from tw_sub (a := c - b) (b := 1) (by omega), show c - b - 1 = c - 1 - b by omega]
        obtain ⟨r, k1, k2⟩ := ih (s + 1) (x + ((r1 * r2) * ((F (s + 2 ^ a)).toInt64 - (F s).toInt64))) (by omega) (by omega)
        refine ⟨r, fun σ h1 g1 => ?_, fun σ' h2 g2 => ?_⟩
        · unfold f_cau_sumOverOrders_110
          rw [h1, hp.1, if_neg (tp_nl (by omega) (by omega) (by omega)), if_pos b0]
          show ((f_cau_factorial (f_j_bitCount (nI s))).bind fun y2 => (f_cau_factorial (nI c - (1 : Int32) - f_j_bitCount (nI s))).bind fun y3 => _) = _
          rw [eb, q1, tp_fac0, tp_fac0, e1, e2, Option.bind_some, Option.bind_some, o1, tw_gN (by omega) (by decide), tw_gN (by omega) (by decide), nI_clamp (by omega), nI_clamp (by omega), g1 _ o2, g1 s (by omega)]
          unfold f_cau_sumOverOrders_186
          rw [e4]
          exact k1 σ h1 g1
        · unfold f_m_share_129
          rw [h2, hp.1, if_neg (tp_nl (by omega) (by omega) (by omega)), if_neg b1, tp_bits s (by omega), Option.bind_some, eb, q2, e1, e2, Option.bind_some, Option.bind_some, o1, tw_gN (by omega) (by decide), tw_gN (by omega) (by decide), nI_clamp (by omega), nI_clamp (by omega), g2 _ o2, g2 s (by omega)]
          unfold f_m_share_203
          rw [e4]
          exact k2 σ' h2 g2
      · obtain ⟨r, k1, k2⟩ := ih (s + 1) x (by omega) (by omega)
        refine ⟨r, fun σ h1 g1 => ?_, fun σ' h2 g2 => ?_⟩
        · unfold f_cau_sumOverOrders_110
          rw [h1, hp.1, if_neg (tp_nl (by omega) (by omega) (by omega)), if_neg b0]
          unfold f_cau_sumOverOrders_186
          rw [e4]
          exact k1 σ h1 g1
        · unfold f_m_share_129
          rw [h2, hp.1, if_neg (tp_nl (by omega) (by omega) (by omega)), if_pos b1]
          unfold f_m_share_203
          rw [e4]
          exact k2 σ' h2 g2
/-- places that share writes -/
def tc_SH (q j : Nat) : Prop := tc_SR 0 q j ∨ q = 75
def tm_SH (q j : Nat) : Prop := tm_S8 q j ∨ q = 134 ∨ q = 151
theorem tc_s25 {σ0 : rx_St} {t k v s : Nat} {a : Int32} {k3 : Int32 → Int32 → Int32 → Int32 → Int32 → Int32 → rx_St → Option (Int64 × rx_St)} (hw : w ≤ 1) (ht : t < 1000) (hk : k < W.2.length) (hv : v < 6) (hs : s < 16) (hR : tc_WR w W σ0) (hdl : σ0.1 38 7 = tw_B dl) (hC : tq_C W cs σ0) (Q : Int64 × rx_St → Prop)
    (hQ : ∀ σ', tw_fr tc_SH σ0 σ' → (∀ j, j ≠ s → σ'.1 75 j = σ0.1 75 j) → σ'.1 75 s = tw_Fg W N pl bg dl st seed cs t k v s → tw_ok (k3 a seed (nI t) (nI k) (nI v) (nI (s + 1)) σ') Q) :
    ∀ m i σ, i ≤ cs.length → cs.length - i < m → tw_fr (fun q _ => 57 ≤ q ∧ q ≤ 61) σ0 σ → tc_env 0 W N (tw_stx cs s st i, seed, 0) (tw_R0 pl bg) σ →
    tw_ok (f_cau_sumOverOrders_25 w k3 m a seed (nI t) (nI k) (nI v) (nI s) (nI i) σ) Q := by
  obtain ⟨⟨c1, c2, c3⟩, c4⟩ := hC
  intro m
  induction m with
  | zero => intro i σ _ h; exact absurd h (Nat.not_lt_zero _)
  | succ m ih =>
    intro i σ hi hm f he
    unfold f_cau_sumOverOrders_25
    rw [show σ.1 72 2 = nI cs.length from (f.i (by omega)).trans c1]
    by_cases e : i = cs.length
    · subst e
      rw [if_pos (tp_yl (by omega) (by omega) (Nat.le_refl _))]
      have hR' : tc_WR w W σ := hR.fr (fun q j a b => f.i (by omega))
      have hdl' : σ.1 38 7 = tw_B dl := by rw [f.i (by omega)]; exact hdl
      refine tw_b (tc_goes (T := t) hw ht (Nat.zero_le _) hR' hdl' he (fun t' e => absurd e (by omega))) (fun σ1 h => ?_)
      obtain ⟨f1, e1, -⟩ := h
      rw [tc_total e1 hk hv, Option.bind_some]
      refine tw_g (vp_in_nI (by omega) (by decide)) ?_
      rw [show nI s + (1 : Int32) = nI (s + 1) from nI_add s 1, nI_clamp (by omega)]
      have f1' := f1
      refine hQ _ (((f.mn (fun q j h => Or.inl (by unfold tc_SR; omega))).tr (f1'.mn (fun q j h => Or.inl h))).si (Or.inr rfl)) (fun j hj => ?_) (tw_r1s _ _ _ _)
      rw [tw_r1n _ _ (by omega), f1'.i (by unfold tc_SR; omega), f.i (by omega)]
    · rw [if_neg (tp_nl (by omega) (by omega) (by omega))]
      have e4 : nI i + (1 : Int32) = nI (i + 1) := nI_add i 1
      obtain ⟨p, hp⟩ : ∃ p, cs[i]? = some p := ⟨_, List.getElem?_eq_getElem (show i < cs.length by omega)⟩
      obtain ⟨g1, g2, g3, g4, g5⟩ := c4 i p hp
      have hW6 := he.2.2.2.2.2.1.1
      by_cases b : ((rx_ishr (nI s) (nI i)) &&& (1 : Int32)) = (0 : Int32)
      · rw [if_pos b]
        unfold f_cau_sumOverOrders_66
        rw [e4]
        refine ih (i + 1) σ (by omega) (by omega) f ?_
        rw [tw_stx, if_pos b]
        exact he
      · rw [if_neg b]
        have q1 : σ.1 73 i = nI p.1 := (f.i (by omega)).trans g2
        have q2 : σ.1 74 i = p.2 := (f.i (by omega)).trans g4
        simp (disch := omega) only [tw_L, tw_gN, tw_cl, tw_le, tw_lt, tw_eq, nI_add, pk_mul, tw_sub, tw_B0, tw_B1, tw_nb0, tw_nb1, tw_r1s, tw_r1n, if_true, if_false, Nat.le_refl, Nat.reduceEqDiff, Nat.reduceLeDiff, Nat.reduceLT, reduceIte, q1, q2]
        unfold f_cau_sumOverOrders_66
        rw [show nI i + (1 : Int32) = nI (i + 1) from nI_add i 1]
        refine ih (i + 1) _ (by omega) (by omega) (f.si (by omega)) ?_
        rw [tw_stx, if_neg b, hp]
        exact he.st p.2
theorem tc_s3 {σ0 : rx_St} {t k v a : Nat} (hw : w ≤ 1) (ht : t < 1000) (hk : k < W.2.length) (hv : v < 6) (hT : tc_T W N pl bg dl σ0) (hR : tc_WR w W σ0) (hst : ∀ i, i < W.1.length → σ0.1 39 i = st i) (hC : tq_C W cs σ0) (Q : Int64 × rx_St → Prop)
    (hQ : ∀ σ', tw_fr tc_SH σ0 σ' → (∀ s, s < 2 ^ cs.length → σ'.1 75 s = tw_Fg W N pl bg dl st seed cs t k v s) → tw_ok (f_cau_sumOverOrders_110 w rx_fu (nI a) (0 : Int64) (0 : Int32) σ') Q) :
    ∀ m s σ, s ≤ 2 ^ cs.length → 2 ^ cs.length - s < m → tw_fr tc_SH σ0 σ → (∀ s', s' < s → σ.1 75 s' = tw_Fg W N pl bg dl st seed cs t k v s') →
    tw_ok (f_cau_sumOverOrders_3 w m (nI a) seed (nI t) (nI k) (nI v) (nI s) σ) Q := by
  have hp := tp_pow cs.length (by have := hC.1.2.2; omega)
  have hs : σ0.1 (7 + 14 * w) 0 = nI W.1.length := by obtain ⟨_, _, _, _, h⟩ := hR; exact h
  intro m
  induction m with
  | zero => intro s σ _ h; exact absurd h (Nat.not_lt_zero _)
  | succ m ih =>
    intro s σ hs' hm f g
    have hC' : tq_C W cs σ := hC.fr (fun q j a => by
      rcases a with a | a | a | a | a | a <;> exact f.i (by unfold tc_SH tc_SR; omega))
    unfold f_cau_sumOverOrders_3
    rw [hC'.1.1, hp.1]
    by_cases e : s = 2 ^ cs.length
    · subst e
      rw [if_pos (tp_yl (by omega) (by omega) (Nat.le_refl _))]
      exact hQ σ f g
    · rw [if_neg (tp_nl (by omega) (by omega) (by omega))]
      have hT' : tc_T W N pl bg dl σ := hT.fr (fun q j a b c => f.i (by unfold tc_SH tc_SR; omega))
      refine tw_b (tc_restart (r := 0) (w := w) (st := st) (seed := seed) (by omega) hw hT' (by rw [f.i (by unfold tc_SH tc_SR; omega)]; exact hs) (fun i hi => by rw [f.i (by unfold tc_SH tc_SR; omega)]; exact hst i hi)) (fun σ1 h => ?_)
      obtain ⟨f1, e1⟩ := h
      have f01 : tw_fr tc_SH σ0 σ1 := f.tr (f1.mn (fun q j h => Or.inl (by unfold tc_SR; omega)))
      have hC1 : tq_C W cs σ1 := hC'.fr (fun q j a => by
        rcases a with a | a | a | a | a | a <;> exact f1.i (by omega))
      refine tc_s25 (σ0 := σ1) (st := st) (dl := dl) (pl := pl) (bg := bg) (N := N) hw ht hk hv (show s < 16 by omega) (hR.fr (fun q j a b => f01.i (by unfold tc_SH tc_SR; omega))) (by rw [f01.i (by unfold tc_SH tc_SR; omega)]; exact hT.2.2.1) hC1 Q (fun σ2 f2 g2 g3 => ?_) rx_fu 0 σ1 (Nat.zero_le _) (by have := hC.1.2.2; show _ < 100000; omega) tw_fr.rf e1
      refine ih (s + 1) σ2 (by omega) (by omega) (f01.tr f2) (fun s' hs' => ?_)
      by_cases x : s' = s
      · subst x; exact g3
      · rw [g2 s' x, f1.i (by omega)]; exact g s' (by omega)
theorem tm_s54 {σ0 : rx_St} {t k v s : Nat} {a : Int32} {k36 : Int32 → Int32 → Int32 → Int32 → Int32 → Int32 → rx_St → Option (Int64 × rx_St)} (ht : t ≤ 40) (hk : k < W.2.length) (hv : v < tw_vc W k) (hs : s < 16) (hT : tm_T W N pl bg dl σ0) (hM : tm_MW W lv σ0) (hC : tq_C W cs σ0) (Q : Int64 × rx_St → Prop)
    (hQ : ∀ σ', tw_fr tm_SH σ0 σ' → (∀ j, j ≠ s → σ'.2 151 j = σ0.2 151 j) → σ'.2 151 s = (tw_Fg W N pl bg dl st seed cs t k v s).toInt64 → tw_ok (k36 a seed (nI t) (nI k) (nI v) (nI (s + 1)) σ') Q) :
    ∀ m i σ, i ≤ cs.length → cs.length - i < m → tw_fr (fun q _ => q = 134) σ0 σ → (∀ j, j < W.1.length → σ.1 134 j = tw_stx cs s st i j) →
    tw_ok (f_m_share_54 k36 m a seed (nI t) (nI k) (nI v) (nI s) (nI i) σ) Q := by
  obtain ⟨⟨c1, c2, c3⟩, c4⟩ := hC
  have hW6 := hT.2.2.2.1
  intro m
  induction m with
  | zero => intro i σ _ h; exact absurd h (Nat.not_lt_zero _)
  | succ m ih =>
    intro i σ hi hm f he
    unfold f_m_share_54
    rw [show σ.1 87 86 = nI cs.length from (f.i (by omega)).trans c2]
    by_cases e : i = cs.length
    · subst e
      rw [if_pos (tp_yl (by omega) (by omega) (Nat.le_refl _))]
      have hT' : tm_T W N pl bg dl σ := hT.fr (fun q j a b => f.i (by omega)) (f.i (by omega)) (f.i (by omega))
      have hM' : tm_MW W lv σ := hM.fr (fun q j a b => f.i (by omega)) (f.i (by omega))
      refine tw_b (tm_figureOf (seed := seed) ht hM' hT' he hk hv) (fun y h => ?_)
      obtain ⟨y1, y2⟩ := h
      refine tw_g (vp_in_nI (by omega) (by decide)) ?_
      rw [show nI s + (1 : Int32) = nI (s + 1) from nI_add s 1, nI_clamp (by omega), y1]
      refine hQ _ (((f.mn (fun q j h => Or.inr (Or.inl h))).tr (y2.mn (fun q j h => Or.inl h))).sl (Or.inr (Or.inr rfl))) (fun j hj => ?_) ?_
      · rw [tw_r2, if_neg (fun z => hj z.2), y2.l (by unfold tm_S8; omega), f.l (by omega)]
      · rw [tw_r2, if_pos ⟨rfl, rfl⟩]
        rfl
    · rw [if_neg (tp_nl (by omega) (by omega) (by omega))]
      have e4 : nI i + (1 : Int32) = nI (i + 1) := nI_add i 1
      obtain ⟨p, hp⟩ : ∃ p, cs[i]? = some p := ⟨_, List.getElem?_eq_getElem (show i < cs.length by omega)⟩
      obtain ⟨g1, g2, g3, g4, g5⟩ := c4 i p hp
      rcases tp_bit1 s hs i (by omega) with ⟨b0, b1⟩ | ⟨b0, b1⟩
      · rw [if_neg b1]
        unfold f_m_share_93
        rw [e4]
        refine ih (i + 1) σ (by omega) (by omega) f (fun j hj => ?_)
        rw [tw_stx, if_pos b0]
        exact he j hj
      · rw [if_pos b1]
        have q1 : σ.1 149 i = nI p.1 := (f.i (by omega)).trans g3
        have q2 : σ.1 150 i = p.2 := (f.i (by omega)).trans g5
        simp (disch := omega) only [tw_L, tw_gN, tw_cl, tw_le, tw_lt, tw_eq, nI_add, pk_mul, tw_sub, tw_B0, tw_B1, tw_nb0, tw_nb1, tw_r1s, tw_r1n, if_true, if_false, Nat.le_refl, Nat.reduceEqDiff, Nat.reduceLeDiff, Nat.reduceLT, reduceIte, q1, q2]
        unfold f_m_share_93
        rw [show nI i + (1 : Int32) = nI (i + 1) from nI_add i 1]
        refine ih (i + 1) _ (by omega) (by omega) (f.si (by omega)) (fun j hj => ?_)
        rw [tw_stx, if_neg b0, hp]
        show _ = tw_updN (tw_stx cs s st i) p.1 p.2 j
        unfold tw_updN
        rw [tw_r1]
        by_cases x : j = p.1
        · rw [if_pos ⟨rfl, x⟩, if_pos x]
        · rw [if_neg (fun h => x h.2), if_neg x]; exact he j hj
theorem tm_s36 {σ0 : rx_St} {t k v a : Nat} (ht : t ≤ 40) (hk : k < W.2.length) (hv : v < tw_vc W k) (hT : tm_T W N pl bg dl σ0) (hM : tm_MW W lv σ0) (hst : ∀ i, i < W.1.length → σ0.1 129 i = st i) (hC : tq_C W cs σ0) (Q : Int64 × rx_St → Prop)
    (hQ : ∀ σ', tw_fr tm_SH σ0 σ' → (∀ s, s < 2 ^ cs.length → σ'.2 151 s = (tw_Fg W N pl bg dl st seed cs t k v s).toInt64) → tw_ok (f_m_share_129 rx_fu (nI a) (0 : Int64) (0 : Int32) σ') Q) :
    ∀ m s σ, s ≤ 2 ^ cs.length → 2 ^ cs.length - s < m → tw_fr tm_SH σ0 σ → (∀ s', s' < s → σ.2 151 s' = (tw_Fg W N pl bg dl st seed cs t k v s').toInt64) →
    tw_ok (f_m_share_36 m (nI a) seed (nI t) (nI k) (nI v) (nI s) σ) Q := by
  have hp := tp_pow cs.length (by have := hC.1.2.2; omega)
  have hs6 := hT.2.2.2.1
  intro m
  induction m with
  | zero => intro s σ _ h; exact absurd h (Nat.not_lt_zero _)
  | succ m ih =>
    intro s σ hs' hm f g
    have hC' : tq_C W cs σ := hC.fr (fun q j a => by
      rcases a with a | a | a | a | a | a <;> exact f.i (by unfold tm_SH tm_S8; omega))
    unfold f_m_share_36
    rw [hC'.1.2.1, hp.1]
    by_cases e : s = 2 ^ cs.length
    · subst e
      rw [if_pos (tp_yl (by omega) (by omega) (Nat.le_refl _))]
      exact hQ σ f g
    · rw [if_neg (tp_nl (by omega) (by omega) (by omega))]
      refine tw_b (tm_takes σ) (fun σ1 h => ?_)
      obtain ⟨f1, g1⟩ := h
      have f01 : tw_fr tm_SH σ0 σ1 := f.tr (f1.mn (fun q j h => Or.inr (Or.inl h)))
      have hC1 : tq_C W cs σ1 := hC'.fr (fun q j a => by
        rcases a with a | a | a | a | a | a <;> exact f1.i (by omega))
      have hT1 : tm_T W N pl bg dl σ1 := hT.fr (fun q j a b => f01.i (by unfold tm_SH tm_S8; omega)) (f01.i (by unfold tm_SH tm_S8; omega)) (f01.i (by unfold tm_SH tm_S8; omega))
      have hM1 : tm_MW W lv σ1 := hM.fr (fun q j a b => f01.i (by unfold tm_SH tm_S8; omega)) (f01.i (by unfold tm_SH tm_S8; omega))
      refine tm_s54 (σ0 := σ1) (st := st) (dl := dl) (pl := pl) (bg := bg) (N := N) ht hk hv (show s < 16 by omega) hT1 hM1 hC1 Q (fun σ2 f2 g2 g3 => ?_) rx_fu 0 σ1 (Nat.zero_le _) (by have := hC.1.2.2; show _ < 100000; omega) tw_fr.rf (fun j hj => ?_)
      · refine ih (s + 1) σ2 (by omega) (by omega) (f01.tr f2) (fun s' hs' => ?_)
        by_cases x : s' = s
        · subst x; exact g3
        · rw [g2 s' x, f1.l (by omega)]; exact g s' (by omega)
      · rw [g1 j (by omega), f.i (by unfold tm_SH tm_S8; omega)]
        exact hst j hj
def tq_SH (q j : Nat) : Prop := tq_S q j ∨ q = 75 ∨ q = 151
theorem tq_share {σ : rx_St} (h : tq_T w W lv N pl bg dl st σ) (hC : tq_C W cs σ) (a0 a1 a2 a3 a4 : Int32) : ∃ o1 o2, f_c_share w a0 a1 a2 a3 a4 σ = some o1 ∧ f_m_share a0 a1 a2 a3 a4 o1.2 = some o2 ∧ o1.1 = o2.1 ∧ tw_fr tq_SH σ o2.2 := by
  obtain ⟨⟨h1, h2, h3⟩, ⟨h4, h5, h6⟩, hw⟩ := id h
  obtain ⟨⟨c1, c2, c3⟩, c4⟩ := id hC
  have hWN : tc_WN w W σ := by obtain ⟨_, _, g, _⟩ := h2; exact g
  have hW := h4.2.2.2
  have thr := tq_thr h (nI 0)
  have fthr : tw_fr tq_SH σ (rx_si σ 87 0 (nI 0)) := thr.2.mn (fun q j h => Or.inl h)
  have c2' : (rx_si σ 87 0 (nI 0)).1 87 86 = nI cs.length := by rw [tw_r1n _ _ (by omega)]; exact c2
  by_cases q0 : a0 < (0 : Int32)
  · refine ⟨((-1000000000000 : Int64), σ), ((-1000000000000 : Int64), rx_si σ 87 0 (nI 0)), ?_, ?_, rfl, fthr⟩
    · unfold f_c_share; exact if_pos q0
    · unfold f_m_share; exact if_pos q0
  obtain ⟨a, rfl, ha⟩ := tq_nn q0
  by_cases q1 : nI cs.length ≤ nI a
  · refine ⟨((-1000000000000 : Int64), σ), ((-1000000000000 : Int64), rx_si σ 87 0 (nI 0)), ?_, ?_, rfl, fthr⟩
    · unfold f_c_share
      rw [if_neg q0, c1]
      exact if_pos q1
    · unfold f_m_share
      refine (if_neg q0).trans ?_
      have : (rx_si σ 87 0 (0 : Int32)).1 87 86 = nI cs.length := c2'
      rw [this]
      exact if_pos q1
  have hac : a < cs.length := by rw [tw_le (by omega) (by omega)] at q1; omega
  have mstart : ∀ {x y : Option (Int64 × rx_St)}, y = x → ((f_m_isFigure a2 a3 a4 (rx_si σ 87 0 (nI 0))).bind fun y1 => if y1 = (0 : Int32) then some ((-1000000000000 : Int64), rx_si σ 87 0 (nI 0)) else f_m_share_36 rx_fu (nI a) a1 a2 a3 a4 (0 : Int32) (rx_si σ 87 0 (nI 0))) = y → f_m_share (nI a) a1 a2 a3 a4 σ = x := by
    intro x y e e'
    subst e
    unfold f_m_share
    refine (if_neg q0).trans ?_
    have : (rx_si σ 87 0 (0 : Int32)).1 87 86 = nI cs.length := c2'
    rw [this]
    exact (if_neg q1).trans e'
  rcases tq_time a2 with ⟨d1, d2⟩ | ⟨t, ht, rfl, d1, d2⟩
  · refine ⟨((-1000000000000 : Int64), σ), ((-1000000000000 : Int64), rx_si σ 87 0 (nI 0)), ?_, mstart rfl ?_, rfl, fthr⟩
    · unfold f_c_share
      rw [if_neg q0, c1, if_neg q1, d1]
      exact if_pos rfl
    · unfold f_m_isFigure
      rw [d2]
      rfl
  · rcases tq_var a3 a4 (σ := σ) (σ' := rx_si σ 87 0 (nI 0)) hw hW hWN thr.1.2.1.2.1 with ⟨e1, e2⟩ | ⟨k, v, hk, hv, rfl, rfl, e1, e2⟩
    · refine ⟨((-1000000000000 : Int64), σ), ((-1000000000000 : Int64), rx_si σ 87 0 (nI 0)), ?_, mstart rfl ?_, rfl, fthr⟩
      · unfold f_c_share
        rw [if_neg q0, c1, if_neg q1, d1, e1]
        rfl
      · rw [e2]
        rfl
    · have hv6 := (hW.2.2 k hk).1
      have hp := tp_pow cs.length (by omega)
      obtain ⟨r, k1, k2⟩ := tp_sum (w := w) (a := a) (c := cs.length) (F := tw_Fg W N pl bg dl st a1 cs t k v) (by omega) hac rx_fu 0 (0 : Int64) (Nat.zero_le _) (by show _ < 100000; omega)
      obtain ⟨x1, ex1, er1, fx1⟩ := tc_s3 (seed := a1) (a := a) (cs := cs) (t := t) (k := k) (v := v) hw (by omega) hk (by omega) h1 h2 h3 hC (fun y => y.1 = r ∧ tw_fr tc_SH σ y.2) (fun σ' f' g' => ⟨_, k1 σ' ((f'.i (by unfold tc_SH tc_SR; omega)).trans c1) g', rfl, f'⟩) rx_fu 0 σ (Nat.zero_le _) (by show _ < 100000; omega) tw_fr.rf (fun s' hs' => absurd hs' (Nat.not_lt_zero _))
      have fu1 : tw_fr tq_SH σ x1.2 := fx1.mn (fun q j h => by unfold tc_SH tc_SR at h; unfold tq_SH tq_S; omega)
      have hT1 : tq_T w W lv N pl bg dl st x1.2 := h.fg (fun q j a => fu1.i (by unfold tq_TP at a; unfold tq_SH tq_S; omega))
      have thr1 := tq_thr hT1 (nI 0)
      have fu2 : tw_fr tq_SH σ (rx_si x1.2 87 0 (nI 0)) := fu1.tr (thr1.2.mn (fun q j h => Or.inl h))
      have hC2 : tq_C W cs (rx_si x1.2 87 0 (nI 0)) := hC.fr (fun q j a => fu2.i (by unfold tq_SH tq_S; omega))
      obtain ⟨x2, ex2, er2, fx2⟩ := tm_s36 (seed := a1) (a := a) (cs := cs) (t := t) (k := k) (v := v) ht hk hv thr1.1.2.1.1 thr1.1.2.1.2.1 thr1.1.2.1.2.2 hC2 (fun y => y.1 = r ∧ tw_fr tm_SH (rx_si x1.2 87 0 (nI 0)) y.2) (fun σ' f' g' => ⟨_, k2 σ' ((f'.i (by unfold tm_SH tm_S8; omega)).trans hC2.1.2.1) g', rfl, f'⟩) rx_fu 0 _ (Nat.zero_le _) (by show _ < 100000; omega) tw_fr.rf (fun s' hs' => absurd hs' (Nat.not_lt_zero _))
      refine ⟨x1, x2, ?_, ?_, er1.trans er2.symm, fu2.tr (fx2.mn (fun q j h => by unfold tm_SH tm_S8 at h; unfold tq_SH tq_S; omega))⟩
      · unfold f_c_share f_cau_sumOverOrders
        rw [if_neg q0, c1, if_neg q1, d1, e1]
        have ex1' : f_cau_sumOverOrders_3 w rx_fu (nI a) a1 (nI t) (nI k) (nI v) (0 : Int32) σ = some x1 := ex1
        rw [if_neg (by decide), Option.bind_some, if_neg (by decide), ex1']
        rfl
      · unfold f_m_share
        refine (if_neg q0).trans ?_
        have : (rx_si x1.2 87 0 (0 : Int32)).1 87 86 = nI cs.length := hC2.1.2.1
        rw [this]
        refine (if_neg q1).trans ?_
        have d3 : f_m_isFigure (nI t) (nI k) (nI v) (rx_si x1.2 87 0 (0 : Int32)) = some (nI 1) := by
          rcases tq_var (nI k) (nI v) (σ := σ) (σ' := rx_si x1.2 87 0 (nI 0)) hw hW hWN thr1.1.2.1.2.1 with ⟨z1, -⟩ | ⟨_, _, _, _, _, _, _, z2⟩
          · rw [e1] at z1
            exact absurd (Option.some.inj z1) (by decide)
          · exact z2 t ht
        rw [d3, Option.bind_some, if_neg (show ¬ nI 1 = (0 : Int32) by decide)]
        exact ex2
end TH
