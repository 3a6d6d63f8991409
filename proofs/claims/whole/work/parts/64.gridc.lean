/-! THE CLASS: what meets what was SEEN; how far SEEDS were tried -/
theorem tw_all_i {α : Type} (f : α → Bool) (l : List α) {i : Nat} (h : i < l.length) : (l.drop i).all f = (f l[i] && (l.drop (i + 1)).all f) := by
  rw [List.drop_eq_getElem_cons h, List.all_cons]
def tw_sat (N : tw_N) (R : tw_R) (x : tw_Se) : Bool := !decide (tw_fig N R x.2.1 x.2.2.1 < x.2.2.2.1) && decide (tw_fig N R x.2.1 x.2.2.1 ≤ x.2.2.2.2)
def tw_seenat (N : tw_N) (R : tw_R) (se : List tw_Se) (t : Nat) : Bool := se.all (fun x => !(x.1 == t) || tw_sat N R x)
def tw_RP (W : tw_Wo) (N : tw_N) (dl : Bool) (st : Nat → Int32) (pl : Nat → Nat) (bg : Nat → Int32) (sp : List tw_Sp) (p seed t : Nat) : tw_R := tw_run W N dl (tw_stp sp st p) (nI seed) tw_plain (tw_R0 pl bg) t
def tw_meet (W : tw_Wo) (N : tw_N) (dl : Bool) (st : Nat → Int32) (pl : Nat → Nat) (bg : Nat → Int32) (sp : List tw_Sp) (se : List tw_Se) (p seed : Nat) : Bool := se.all (fun x => tw_sat N (tw_RP W N dl st pl bg sp p seed x.1) x)
def tw_led (M : Nat → Bool) : Nat → Nat
  | 0 => 0
  | n + 1 => if tw_led M n = n ∧ M n = true then n + 1 else tw_led M n
theorem tw_led_le (M : Nat → Bool) : ∀ n, tw_led M n ≤ n
  | 0 => Nat.le_refl _
  | n + 1 => by
    have := tw_led_le M n
    unfold tw_led
    by_cases c : tw_led M n = n ∧ M n = true
    · rw [if_pos c]; omega
    · rw [if_neg c]; omega
theorem tw_led_ge (M : Nat → Bool) : ∀ n s, s ≤ n → (s ≤ tw_led M n ↔ ∀ x, x < s → M x = true)
  | 0, s, h => ⟨fun _ x hx => absurd hx (by omega), fun _ => by omega⟩
  | n + 1, s, h => by
    have l := tw_led_le M n
    unfold tw_led
    by_cases c : tw_led M n = n ∧ M n = true
    · rw [if_pos c]
      have g := (tw_led_ge M n n (Nat.le_refl _)).mp (by omega)
      refine ⟨fun _ x hx => ?_, fun _ => h⟩
      by_cases e : x = n
      · subst e; exact c.2
      · exact g x (by omega)
    · rw [if_neg c]
      by_cases e : s = n + 1
      · subst e
        refine ⟨fun q => absurd q (by omega), fun q => absurd ⟨?_, q n (by omega)⟩ c⟩
        have := (tw_led_ge M n n (Nat.le_refl _)).mpr (fun x hx => q x (by omega))
        omega
      · exact tw_led_ge M n s (by omega)
section TI
variable {w : Nat} {W : tw_Wo} {N : tw_N} {pl : Nat → Nat} {bg : Nat → Int32} {dl : Bool} {st : Nat → Int32} {sp : List tw_Sp} {se : List tw_Se}
theorem tc_restartAt {σ : rx_St} {p : Nat} {seed : Int32} (hw : w ≤ 1) (hT : tc_T W N pl bg dl σ) (hR : tc_WR w W σ) (hst : ∀ i, i < W.1.length → σ.1 39 i = st i) (hok : tw_gok W sp se) (hG : tc_G sp se σ) (hp : p < 2147483648) :
    tw_ok (f_gri_restartAt w (nI p) seed σ) (fun σ' => tw_fr (fun q _ => 57 ≤ q ∧ q ≤ 61) σ σ' ∧ tc_env 0 W N (tw_stp sp st p, seed, 0) (tw_R0 pl bg) σ') := by
  have hs : σ.1 (7 + 14 * w) 0 = nI W.1.length := by obtain ⟨_, _, _, _, h⟩ := hR; exact h
  have s3 := hok.1.1
  have hW6 := hT.2.2.2.1
  unfold f_gri_restartAt
  refine tw_b (tc_restart (r := 0) (w := w) (st := st) (seed := seed) (by omega) hw hT hs hst) (fun σ1 h => ?_)
  obtain ⟨f1, e1⟩ := h
  have main : ∀ m i σ', i ≤ sp.length → sp.length - i < m → tw_fr (fun q _ => 57 ≤ q ∧ q ≤ 61) σ σ' → tc_env 0 W N (tw_stn sp st p i, seed, 0) (tw_R0 pl bg) σ' → tw_ok (f_gri_restartAt_10 w m (nI p) (nI i) σ') (fun σ' => tw_fr (fun q _ => 57 ≤ q ∧ q ≤ 61) σ σ' ∧ tc_env 0 W N (tw_stp sp st p, seed, 0) (tw_R0 pl bg) σ') := by
    intro m
    induction m with
    | zero => intro i σ' _ h; exact absurd h (Nat.not_lt_zero _)
    | succ m ih =>
      intro i σ' hi hm f g
      have hG' : tc_G sp se σ' := hG.fr (fun q j a => f.i (by omega))
      unfold f_gri_restartAt_10
      rw [hG'.1.1]
      by_cases c : i = sp.length
      · subst c
        rw [if_pos (tp_yl (by omega) (by omega) (Nat.le_refl _)), tw_some]
        exact ⟨f, g⟩
      · obtain ⟨x, hx⟩ := tw_sps (show i < sp.length by omega)
        have e0 := (hG'.1.2.2 i x hx).1
        have hx1 := (hok.1.2.2.2 i x hx).1
        rw [if_neg (tp_nl (by omega) (by omega) (by omega)), tw_gN (by omega) (by decide), tc_number hok hG' (by omega) hp, Option.bind_some, nI_clamp (by omega), e0, tw_gN (by omega) (by decide), nI_clamp (by omega), show nI i + (1 : Int32) = nI (i + 1) from nI_add i 1]
        refine ih (i + 1) _ (by omega) (by omega) (f.si (by omega)) ?_
        rw [tw_stn, hx]
        exact g.st (tw_num sp p i)
  exact main rx_fu 0 σ1 (Nat.zero_le _) (by show _ < 100000; omega) (f1.mn (fun q j h => by omega)) e1
theorem tc_seenOf {E : tw_E} {R : tw_R} {σ : rx_St} {t : Nat} (he : tc_env 0 W N E R σ) (hok : tw_gok W sp se) (hG : tc_G sp se σ) (ht : t ≤ 40) : f_gri_meetsSeenOf (nI t) σ = some (tw_B (tw_seenat N R se t)) := by
  obtain ⟨-, s8, s9⟩ := hok
  obtain ⟨-, g1, g2⟩ := hG
  have hW := he.2.2.2.2.2.1
  have main : ∀ m i, i ≤ se.length → se.length - i < m → f_gri_meetsSeenOf_2 m (nI t) (nI i) σ = some (tw_B ((se.drop i).all (fun x => !(x.1 == t) || tw_sat N R x))) := by
    intro m
    induction m with
    | zero => intro i _ h; exact absurd h (Nat.not_lt_zero _)
    | succ m ih =>
      intro i hi hm
      unfold f_gri_meetsSeenOf_2
      rw [g1]
      by_cases c : i = se.length
      · subst c
        rw [if_pos (tp_yl (by omega) (by omega) (Nat.le_refl _)), List.drop_length]
        rfl
      · have hi' : i < se.length := by omega
        have hx : se[i]? = some se[i] := List.getElem?_eq_getElem hi'
        obtain ⟨e0, e1, e2, e3, e4⟩ := g2 i _ hx
        obtain ⟨k1, k2, k3⟩ := s9 i _ hx
        have kv := tw_vc6 hW se[i].2.1
        have ih' := ih (i + 1) (by omega) (by omega)
        rw [if_neg (tp_nl (by omega) (by omega) (by omega)), tw_gN (by omega) (by decide), nI_clamp (by omega), e0, tw_all_i _ _ hi']
        unfold f_gri_meetsSeenOf_62
        rw [show nI i + (1 : Int32) = nI (i + 1) from nI_add i 1]
        by_cases q : se[i].1 = t
        · rw [if_pos (by rw [q]), tw_gN (by omega) (by decide), tw_gN (by omega) (by decide), e1, e2, tc_total he k2 (by omega), Option.bind_some, tw_gN (by omega) (by decide), e3, e4]
          have qb : (!(se[i].1 == t) || tw_sat N R se[i]) = tw_sat N R se[i] := by rw [q]; simp
          rw [qb]
          unfold tw_sat
          by_cases l : tw_fig N R se[i].2.1 se[i].2.2.1 < se[i].2.2.2.1
          · rw [if_pos l, decide_eq_true l]
            rfl
          · rw [if_neg l, decide_eq_false l, tw_gN (by omega) (by decide)]
            by_cases h : tw_fig N R se[i].2.1 se[i].2.2.1 ≤ se[i].2.2.2.2
            · rw [if_pos h, decide_eq_true h, ih']
              rfl
            · rw [if_neg h, decide_eq_false h]
              rfl
        · rw [if_neg (by rw [tw_eq (by omega) (by omega)]; exact q), ih']
          have qb : (!(se[i].1 == t) || tw_sat N R se[i]) = true := by simp [q]
          rw [qb, Bool.true_and]
  have := main rx_fu 0 (Nat.zero_le _) (by show _ < 100000; omega)
  rw [List.drop_zero] at this
  exact this
def tw_last (se : List tw_Se) : Nat → Nat
  | 0 => 0
  | i + 1 => match se[i]? with
    | some x => if tw_last se i < x.1 then x.1 else tw_last se i
    | none => tw_last se i
theorem tw_last_ge {se : List tw_Se} : ∀ (n i : Nat) (x : tw_Se), i < n → se[i]? = some x → x.1 ≤ tw_last se n
  | 0, i, x, h, _ => absurd h (Nat.not_lt_zero _)
  | n + 1, i, x, h, hx => by
    unfold tw_last
    by_cases e : i = n
    · subst e
      rw [hx]
      show x.1 ≤ if tw_last se i < x.1 then x.1 else tw_last se i
      by_cases c : tw_last se i < x.1
      · rw [if_pos c]; exact Nat.le_refl _
      · rw [if_neg c]; omega
    · have := tw_last_ge n i x (by omega) hx
      cases hn : se[n]? with
      | none => exact this
      | some y =>
        show x.1 ≤ if tw_last se n < y.1 then y.1 else tw_last se n
        by_cases c : tw_last se n < y.1
        · rw [if_pos c]; omega
        · rw [if_neg c]; exact this
theorem tw_last_40 {se : List tw_Se} (h : ∀ (i : Nat) (x : tw_Se), se[i]? = some x → x.1 ≤ 40) : ∀ n, tw_last se n ≤ 40
  | 0 => by unfold tw_last; omega
  | n + 1 => by
    have := tw_last_40 h n
    unfold tw_last
    cases hn : se[n]? with
    | none => exact this
    | some y =>
      show (if tw_last se n < y.1 then y.1 else tw_last se n) ≤ 40
      by_cases c : tw_last se n < y.1
      · rw [if_pos c]; exact h n y hn
      · rw [if_neg c]; exact this
theorem tw_meet_iff {p seed L : Nat} (hL : ∀ (i : Nat) (x : tw_Se), se[i]? = some x → x.1 ≤ L) : tw_meet W N dl st pl bg sp se p seed = true ↔ ∀ t, 0 ≤ t → t ≤ L → tw_seenat N (tw_RP W N dl st pl bg sp p seed t) se t = true := by
  unfold tw_meet tw_seenat
  constructor
  · intro h t _ _
    rw [List.all_eq_true] at h ⊢
    intro x hx
    by_cases q : x.1 = t
    · have := h x hx
      rw [q] at this
      rw [this, Bool.or_true]
    · simp [q]
  · intro h
    rw [List.all_eq_true]
    intro x hx
    obtain ⟨i, hi⟩ := List.getElem?_of_mem hx
    have := h x.1 (Nat.zero_le _) (hL i x hi)
    rw [List.all_eq_true] at this
    have := this x hx
    simpa using this
theorem tc_meetsSeen {σ : rx_St} {p seed : Nat} (hw : w ≤ 1) (hT : tc_T W N pl bg dl σ) (hR : tc_WR w W σ) (hst : ∀ i, i < W.1.length → σ.1 39 i = st i) (hok : tw_gok W sp se) (hG : tc_G sp se σ) (hp : p < 2147483648) :
    tw_ok (f_gri_meetsSeen w (nI p) (nI seed) σ) (fun y => tw_fr (tc_SR 0) σ y.2 ∧ y.1 = tw_B (tw_meet W N dl st pl bg sp se p seed)) := by
  have hok' := hok
  obtain ⟨-, s8, s9⟩ := hok'
  have h40 : ∀ (i : Nat) (x : tw_Se), se[i]? = some x → x.1 ≤ 40 := fun i x hx => (s9 i x hx).1
  have L40 := tw_last_40 h40 se.length
  have meet := tw_meet_iff (W := W) (N := N) (dl := dl) (st := st) (pl := pl) (bg := bg) (sp := sp) (p := p) (seed := seed) (L := tw_last se se.length) (fun i x hx => tw_last_ge se.length i x (by
    have := List.getElem?_eq_some_iff.mp hx
    exact this.1) hx)
  -- TICK by TICK
  have go : ∀ m t u σ', t ≤ tw_last se se.length + 1 → tw_last se se.length + 1 - t < m → u ≤ t → tw_fr (tc_SR 0) σ σ' → tc_env 0 W N (tw_stp sp st p, nI seed, u) (tw_RP W N dl st pl bg sp p seed u) σ' → (∀ t', u = t' + 1 → tc_all (tw_evs W N (tw_stp sp st p, nI seed, t') (tw_run W N dl (tw_stp sp st p) (nI seed) tw_plain (tw_R0 pl bg) t')) N.1 σ') →
      tw_ok (f_gri_meetsSeen_41 w m (nI (tw_last se se.length)) (nI t) σ') (fun y => tw_fr (tc_SR 0) σ y.2 ∧ ((∀ t', t ≤ t' → t' ≤ tw_last se se.length → tw_seenat N (tw_RP W N dl st pl bg sp p seed t') se t' = true) → y.1 = nI 1) ∧ (¬ (∀ t', t ≤ t' → t' ≤ tw_last se se.length → tw_seenat N (tw_RP W N dl st pl bg sp p seed t') se t' = true) → y.1 = nI 0)) := by
    intro m
    induction m with
    | zero => intro t u σ' _ h; exact absurd h (Nat.not_lt_zero _)
    | succ m ih =>
      intro t u σ' ht hm hu f he ha
      unfold f_gri_meetsSeen_41
      by_cases c : tw_last se se.length < t
      · rw [if_pos (by rw [tw_lt (by omega) (by omega)]; exact c), tw_some]
        exact ⟨f, fun _ => rfl, fun q => absurd (fun t' h1 h2 => absurd h1 (by omega)) q⟩
      · rw [if_neg (by rw [tw_lt (by omega) (by omega)]; exact c)]
        have hR' : tc_WR w W σ' := hR.fr (fun q j a b => f.i (by unfold tc_SR; omega))
        have hdl' : σ'.1 38 7 = tw_B dl := by rw [f.i (by unfold tc_SR; omega)]; exact hT.2.2.1
        refine tw_b (tc_goes (T := t) hw (by omega) hu hR' hdl' he ha) (fun σ1 h => ?_)
        obtain ⟨f1, e1, a1⟩ := h
        have f01 := f.tr f1
        have hG1 : tc_G sp se σ1 := hG.fr (fun q j a => f01.i (by unfold tc_SR; omega))
        rw [tc_seenOf e1 hok hG1 (by omega), Option.bind_some]
        cases q : tw_seenat N (tw_run W N dl (tw_stp sp st p) (nI seed) tw_plain (tw_R0 pl bg) t) se t with
        | false =>
          rw [if_pos (by rfl), tw_some]
          refine ⟨f01, fun z => ?_, fun _ => rfl⟩
          have := z t (Nat.le_refl _) (by omega)
          unfold tw_RP at this
          rw [q] at this
          cases this
        | true =>
          rw [if_neg (by decide), show nI t + (1 : Int32) = nI (t + 1) from nI_add t 1]
          refine tw_mono (ih (t + 1) t σ1 (by omega) (by omega) (by omega) f01 e1 a1) (fun y h => ⟨h.1, fun z => h.2.1 (fun t' h1 h2 => z t' (by omega) h2), fun z => h.2.2 (fun z' => z (fun t' h1 h2 => ?_))⟩)
          by_cases x : t' = t
          · subst x; exact q
          · exact z' t' (by omega) h2
  -- the last time
  have main : ∀ m i, i ≤ se.length → se.length - i < m → tw_ok (f_gri_meetsSeen_5 w m (nI p) (nI seed) (nI (tw_last se i)) (nI i) σ) (fun y => tw_fr (tc_SR 0) σ y.2 ∧ y.1 = tw_B (tw_meet W N dl st pl bg sp se p seed)) := by
    intro m
    induction m with
    | zero => intro i _ h; exact absurd h (Nat.not_lt_zero _)
    | succ m ih =>
      intro i hi hm
      unfold f_gri_meetsSeen_5
      rw [hG.2.1]
      by_cases c : i = se.length
      · subst c
        rw [if_pos (tp_yl (by omega) (by omega) (Nat.le_refl _))]
        refine tw_b (tc_restartAt (seed := nI seed) hw hT hR hst hok hG hp) (fun σ1 h => ?_)
        obtain ⟨f1, e1⟩ := h
        refine tw_mono (go rx_fu 0 0 σ1 (by omega) (by show _ < 100000; omega) (Nat.le_refl _) (f1.mn (fun q j h => by unfold tc_SR; omega)) e1 (fun t' z => absurd z (by omega))) (fun y h => ⟨h.1, ?_⟩)
        cases b : tw_meet W N dl st pl bg sp se p seed with
        | true => exact h.2.1 (meet.mp b)
        | false => exact h.2.2 (fun z => by rw [meet.mpr z] at b; cases b)
      · have hi' : i < se.length := by omega
        have hx : se[i]? = some se[i] := List.getElem?_eq_getElem hi'
        have e0 := (hG.2.2 i _ hx).1
        have b40 := h40 i _ hx
        have l40 := tw_last_40 h40 i
        rw [if_neg (tp_nl (by omega) (by omega) (by omega)), tw_gN (by omega) (by decide), nI_clamp (by omega), e0]
        have ih' := ih (i + 1) (by omega) (by omega)
        rw [tw_last, hx] at ih'
        show tw_ok (f_gri_meetsSeen_5 w m (nI p) (nI seed) (f_j_max (nI (tw_last se i)) (nI se[i].1)) (nI i + (1 : Int32)) σ) _
        rw [show nI i + (1 : Int32) = nI (i + 1) from nI_add i 1]
        have mx : f_j_max (nI (tw_last se i)) (nI se[i].1) = nI (if tw_last se i < se[i].1 then se[i].1 else tw_last se i) := by
          unfold f_j_max
          by_cases d : tw_last se i < se[i].1
          · rw [if_pos d, if_pos (by rw [tw_lt (by omega) (by omega)]; exact d)]
          · rw [if_neg d, if_neg (by rw [tw_lt (by omega) (by omega)]; exact d)]
        rw [mx]
        exact ih'
  exact main rx_fu 0 (Nat.zero_le _) (by show _ < 100000; omega)
/-! how far SEEDS were tried -/
def tc_V (w : Nat) (W : tw_Wo) (N : tw_N) (dl : Bool) (st : Nat → Int32) (pl : Nat → Nat) (bg : Nat → Int32) (sp : List tw_Sp) (se : List tw_Se) (n : Nat) (σ : rx_St) : Prop := n ≤ 3 ∧ σ.1 76 15 = nI n ∧ ∀ p, p < tw_pts sp → σ.1 86 p = nI (tw_led (tw_meet W N dl st pl bg sp se p) n)
theorem tc_forget (σ : rx_St) : tw_ok (f_gri_forget σ) (fun σ' => tw_fr (fun q j => q = 86 ∨ q = 76 ∧ j = 15) σ σ' ∧ σ'.1 76 15 = nI 0 ∧ ∀ p, p < 200 → σ'.1 86 p = nI 0) := by
  unfold f_gri_forget
  refine tw_lp (fun fu i σ => f_gri_forget_7 fu (nI i) σ) (fun i σ' => tw_fr (fun q j => q = 86 ∨ q = 76 ∧ j = 15) σ σ' ∧ σ'.1 76 15 = nI 0 ∧ ∀ p, p < i → σ'.1 86 p = nI 0) 200 _ ?_ ?_ rx_fu 0 _ (by show _ < 100000; omega) (Nat.zero_le _) ⟨tw_fr.rf.si (Or.inr ⟨rfl, rfl⟩), tw_r1s _ _ _ _, fun p hp => absurd hp (Nat.not_lt_zero _)⟩
  · intro m i σ1 hi hI next
    obtain ⟨f, g, h⟩ := hI
    unfold f_gri_forget_7
    simp (disch := omega) only [tw_L, tw_gN, tw_cl, tw_le, tw_lt, tw_eq, nI_add, pk_mul, tw_sub, tw_B0, tw_B1, tw_nb0, tw_nb1, tw_r1s, tw_r1n, if_true, if_false, Nat.le_refl, Nat.reduceEqDiff, Nat.reduceLeDiff, Nat.reduceLT, reduceIte]
    rw [if_neg (by omega)]
    refine next _ ⟨f.si (Or.inl rfl), by rw [tw_r1n _ _ (by omega)]; exact g, fun p hp => ?_⟩
    rw [tw_r1]
    by_cases e : p = i
    · rw [if_pos ⟨rfl, e⟩]
    · rw [if_neg (fun z => e z.2)]; exact h p (by omega)
  · intro m σ1 hI
    unfold f_gri_forget_7
    simp (disch := omega) only [tw_L, tw_gN, tw_cl, tw_le, tw_lt, tw_eq, nI_add, pk_mul, tw_sub, tw_B0, tw_B1, tw_nb0, tw_nb1, tw_r1s, tw_r1n, if_true, if_false, Nat.le_refl, Nat.reduceEqDiff, Nat.reduceLeDiff, Nat.reduceLT, reduceIte]
    rw [tw_some]
    exact hI
/-- places that the trying of SEEDS writes -/
def tc_ST (q j : Nat) : Prop := tc_SR 0 q j ∨ q = 86 ∨ q = 76 ∧ (j = 15 ∨ j = 16)
theorem tc_t41 {σ0 : rx_St} {s seed : Nat} {k34 : Int32 → Int32 → rx_St → Option rx_St} (hw : w ≤ 1) (hT : tc_T W N pl bg dl σ0) (hR : tc_WR w W σ0) (hst : ∀ i, i < W.1.length → σ0.1 39 i = st i) (hok : tw_gok W sp se) (hG : tc_G sp se σ0) (hs : seed < 3)
    (h0 : ∀ p, p < tw_pts sp → σ0.1 86 p = nI (tw_led (tw_meet W N dl st pl bg sp se p) seed)) (Q : rx_St → Prop) (hQ : ∀ σ, tw_fr tc_ST σ0 σ → σ.1 76 16 = σ0.1 76 16 → tc_V w W N dl st pl bg sp se (seed + 1) σ → tw_ok (k34 (nI s) (nI (seed + 1)) σ) Q) :
    tw_ok (f_gri_trySeeds_41 w k34 rx_fu (nI s) (nI seed) (nI 0) σ0) Q := by
  obtain ⟨⟨-, p1, p2, -⟩, -⟩ := id hok
  refine tw_lp (fun fu i σ => f_gri_trySeeds_41 w k34 fu (nI s) (nI seed) (nI i) σ) (fun i σ => tw_fr (fun q j => tc_SR 0 q j ∨ q = 86) σ0 σ ∧ ∀ p, p < tw_pts sp → σ.1 86 p = nI (tw_led (tw_meet W N dl st pl bg sp se p) (if p < i then seed + 1 else seed))) (tw_pts sp) Q ?_ ?_ rx_fu 0 σ0 (by show _ < 100000; omega) (Nat.zero_le _) ⟨tw_fr.rf, fun p hp => by rw [if_neg (Nat.not_lt_zero _)]; exact h0 p hp⟩
  · intro m i σ hi hI next
    obtain ⟨f, g⟩ := hI
    have hG' : tc_G sp se σ := hG.fr (fun q j a => f.i (by unfold tc_SR; omega))
    have gi := g i hi
    rw [if_neg (by omega)] at gi
    have ll := tw_led_le (tw_meet W N dl st pl bg sp se i) seed
    have keep : ∀ σ1, tw_fr (tc_SR 0) σ σ1 → tw_led (tw_meet W N dl st pl bg sp se i) (seed + 1) = tw_led (tw_meet W N dl st pl bg sp se i) seed → tw_ok (f_gri_trySeeds_78 w k34 (f_gri_trySeeds_41 w k34 m) (nI s) (nI seed) (nI i) σ1) Q := by
      intro σ1 f1 e
      unfold f_gri_trySeeds_78
      rw [show nI i + (1 : Int32) = nI (i + 1) from nI_add i 1]
      refine next σ1 ⟨f.tr (f1.mn (fun q j h => Or.inl h)), fun p hp => ?_⟩
      rw [f1.i (by unfold tc_SR; omega), g p hp]
      by_cases x : p = i
      · subst x; rw [if_neg (by omega), if_pos (by omega), e]
      · by_cases y : p < i
        · rw [if_pos y, if_pos (by omega)]
        · rw [if_neg y, if_neg (by omega)]
    unfold f_gri_trySeeds_41
    rw [hG'.1.2.1, if_neg (tp_nl (by omega) (by omega) (by omega)), tw_gN (by omega) (by decide), nI_clamp (by omega), gi]
    by_cases c : tw_led (tw_meet W N dl st pl bg sp se i) seed = seed
    · rw [if_pos (by rw [c])]
      have hT' : tc_T W N pl bg dl σ := hT.fr (fun q j a b c => f.i (by unfold tc_SR; omega))
      refine tw_b (tc_meetsSeen (st := st) (p := i) (seed := seed) hw hT' (hR.fr (fun q j a b => f.i (by unfold tc_SR; omega))) (fun i hi => by rw [f.i (by unfold tc_SR; omega)]; exact hst i hi) hok hG' (by omega)) (fun y h => ?_)
      obtain ⟨f1, e1⟩ := h
      rw [e1]
      cases b : tw_meet W N dl st pl bg sp se i seed with
      | false =>
        rw [if_pos (by rfl)]
        refine keep y.2 f1 ?_
        rw [tw_led, if_neg (fun z => by rw [b] at z; cases z.2)]
      | true =>
        have y86 : y.2.1 86 i = nI seed := by rw [f1.i (by unfold tc_SR; omega), gi, c]
        rw [if_neg (by decide), tw_gN (by omega) (by decide), tw_gN (by omega) (by decide), y86, show nI seed + (1 : Int32) = nI (seed + 1) from nI_add seed 1]
        unfold f_gri_trySeeds_78
        rw [show nI i + (1 : Int32) = nI (i + 1) from nI_add i 1]
        refine next _ ⟨(f.tr (f1.mn (fun q j h => Or.inl h))).si (Or.inr rfl), fun p hp => ?_⟩
        by_cases x : p = i
        · subst x
          rw [tw_r1s, if_pos (by omega), tw_led, if_pos ⟨c, b⟩]
        · rw [tw_r1n _ _ (by omega), f1.i (by unfold tc_SR; omega), g p hp]
          by_cases y : p < i
          · rw [if_pos y, if_pos (by omega)]
          · rw [if_neg y, if_neg (by omega)]
    · rw [if_neg (by rw [tw_eq (by omega) (by omega)]; exact c)]
      refine keep σ tw_fr.rf ?_
      rw [tw_led, if_neg (fun z => c z.1)]
  · intro m σ hI
    obtain ⟨f, g⟩ := hI
    have hG' : tc_G sp se σ := hG.fr (fun q j a => f.i (by unfold tc_SR; omega))
    unfold f_gri_trySeeds_41
    rw [hG'.1.2.1, if_pos (tp_yl (by omega) (by omega) (Nat.le_refl _)), show nI seed + (1 : Int32) = nI (seed + 1) from nI_add seed 1]
    refine hQ _ ((f.mn (fun q j h => h.elim Or.inl (fun h => Or.inr (Or.inl h)))).si (Or.inr (Or.inr ⟨rfl, Or.inl rfl⟩))) (by rw [tw_r1n _ _ (by omega), f.i (by unfold tc_SR; omega)]) ⟨by omega, tw_r1s _ _ _ _, fun p hp => ?_⟩
    rw [tw_r1n _ _ (by omega), g p hp, if_pos hp]
theorem tc_trySeeds {σ : rx_St} {s y x n : Nat} (hw : w ≤ 1) (hT : tc_T W N pl bg dl σ) (hR : tc_WR w W σ) (hst : ∀ i, i < W.1.length → σ.1 39 i = st i) (hok : tw_gok W sp se) (hG : tc_G sp se σ) (hs : s ≤ 3) (hy : σ.1 76 16 = nI y) (hx : σ.1 38 8 = nI x) (hxy : x < 1000 ∧ y < 1000) (hV : y = x → tc_V w W N dl st pl bg sp se n σ) :
    tw_ok (f_gri_trySeeds w (nI s) σ) (fun σ' => tw_fr tc_ST σ σ' ∧ σ'.1 76 16 = nI x ∧ ∃ n', s ≤ n' ∧ tc_V w W N dl st pl bg sp se n' σ') := by
  have main : ∀ m n σ', 4 - n < m → tw_fr tc_ST σ σ' → σ'.1 76 16 = nI x → tc_V w W N dl st pl bg sp se n σ' → tw_ok (f_gri_trySeeds_34 w m (nI s) (nI n) σ') (fun σ' => tw_fr tc_ST σ σ' ∧ σ'.1 76 16 = nI x ∧ ∃ n', s ≤ n' ∧ tc_V w W N dl st pl bg sp se n' σ') := by
    intro m
    induction m with
    | zero => intro n σ' h; exact absurd h (Nat.not_lt_zero _)
    | succ m ih =>
      intro n σ' hm f e v
      have vn := v.1
      unfold f_gri_trySeeds_34
      by_cases c : s ≤ n
      · rw [if_pos (tp_yl (by omega) (by omega) c), tw_some]
        exact ⟨f, e, n, c, v⟩
      · rw [if_neg (tp_nl (by omega) (by omega) c)]
        exact tc_t41 hw (hT.fr (fun q j a b c => f.i (by unfold tc_ST tc_SR; omega))) (hR.fr (fun q j a b => f.i (by unfold tc_ST tc_SR; omega))) (fun i hi => by rw [f.i (by unfold tc_ST tc_SR; omega)]; exact hst i hi) hok (hG.fr (fun q j a => f.i (by unfold tc_ST tc_SR; omega))) (by omega) v.2.2 _ (fun σ1 f1 e1 v1 => ih (n + 1) σ1 (by omega) (f.tr f1) (e1.trans e) v1)
  have g29 : ∀ n σ', tw_fr tc_ST σ σ' → σ'.1 76 16 = nI x → tc_V w W N dl st pl bg sp se n σ' → tw_ok (f_gri_trySeeds_29 w (nI s) σ') (fun σ' => tw_fr tc_ST σ σ' ∧ σ'.1 76 16 = nI x ∧ ∃ n', s ≤ n' ∧ tc_V w W N dl st pl bg sp se n' σ') := by
    intro n σ' f e v
    unfold f_gri_trySeeds_29
    rw [v.2.1]
    exact main rx_fu n σ' (by show _ < 100000; omega) f e v
  unfold f_gri_trySeeds
  rw [hy, hx]
  by_cases c : y = x
  · rw [if_pos (by rw [c])]
    exact g29 n σ tw_fr.rf (by rw [hy, c]) (hV c)
  · rw [if_neg (by rw [tw_eq (by omega) (by omega)]; exact c)]
    refine tw_b (tc_forget σ) (fun σ1 h => ?_)
    obtain ⟨f1, g1, h1⟩ := h
    have p2 := hok.1.2.2.1
    refine g29 0 _ ((f1.mn (fun q j h => by unfold tc_ST; omega)).si (by unfold tc_ST; omega)) ?_ ⟨Nat.zero_le _, by rw [tw_r1n _ _ (by omega)]; exact g1, fun p hp => ?_⟩
    · rw [tw_r1s, f1.i (by omega)]; exact hx
    · rw [tw_r1n _ _ (by omega)]; exact h1 p (by omega)
end TI
