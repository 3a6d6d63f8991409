/-! would on both sides -/
theorem tw_hold_r (x : Int32) : -9999 ≤ (tw_hold x).toInt ∧ (tw_hold x).toInt ≤ 9999 := by
  have e1 : (-nI 9999).toInt = -9999 := by decide
  have e2 : (nI 9999).toInt = 9999 := by decide
  unfold tw_hold
  by_cases c : x < -nI 9999
  · rw [if_pos c]; omega
  · rw [if_neg c]
    by_cases d : nI 9999 < x
    · rw [if_pos d]; omega
    · rw [if_neg d]
      rw [Int32.lt_iff_toInt_lt] at c d
      omega
theorem tw_run_bnd {W : tw_Wo} {N : tw_N} {dl : Bool} {st : Nat → Int32} {seed : Int32} {out : Nat → Int32} {pl : Nat → Nat} {bg : Nat → Int32} (h : tw_bnd W N bg) : ∀ t, tw_bnd W N (tw_run W N dl st seed out (tw_R0 pl bg) t).1
  | 0 => h
  | t + 1 => fun q v _ _ => tw_hold_r _
theorem tw_fig_r {W : tw_Wo} {N : tw_N} {R : tw_R} {k v : Nat} (hc : ∀ q, q < N.1 → N.2.2 q ≤ 99) (hR : tw_bnd W N R.1) (hv : v < tw_vc W k) (hn : N.1 ≤ 20) : -19798020 ≤ (tw_fig N R k v).toInt ∧ (tw_fig N R k v).toInt ≤ 19798020 := by
  have main : ∀ n, n ≤ N.1 → -(989901 * (n : Int)) ≤ (tw_sum (fun q => N.2.1 q == k) (fun q => R.1 (6 * q + v) * nI (N.2.2 q)) n).toInt ∧ (tw_sum (fun q => N.2.1 q == k) (fun q => R.1 (6 * q + v) * nI (N.2.2 q)) n).toInt ≤ 989901 * (n : Int) := by
    intro n
    induction n with
    | zero =>
      intro _
      have : (nI 0).toInt = 0 := rfl
      rw [tw_sum]
      omega
    | succ n ih =>
      intro h
      obtain ⟨i1, i2⟩ := ih (by omega)
      rw [tw_sum]
      by_cases c : (N.2.1 n == k) = true
      · rw [if_pos c]
        obtain ⟨b1, b2⟩ := hR n v (by omega) (by rw [eq_of_beq c]; exact hv)
        have c99 := hc n (by omega)
        have e : (nI (N.2.2 n)).toInt = (N.2.2 n : Int) := nI_toInt (by omega)
        have m1 : (R.1 (6 * n + v)).toInt * (N.2.2 n : Int) ≤ 9999 * (N.2.2 n : Int) := Int.mul_le_mul_of_nonneg_right b2 (by omega)
        have m2 : -9999 * (N.2.2 n : Int) ≤ (R.1 (6 * n + v)).toInt * (N.2.2 n : Int) := Int.mul_le_mul_of_nonneg_right b1 (by omega)
        have p : (R.1 (6 * n + v) * nI (N.2.2 n)).toInt = (R.1 (6 * n + v)).toInt * (N.2.2 n : Int) := by
          rw [Int32.toInt_mul, e, tw_bm32 (by omega) (by omega)]
        rw [Int32.toInt_add, p, tw_bm32 (by omega) (by omega)]
        omega
      · rw [if_neg c]
        omega
  have := main N.1 (Nat.le_refl _)
  unfold tw_fig
  omega
theorem tw_fig_ne {W : tw_Wo} {N : tw_N} {R : tw_R} {k v : Nat} (hc : ∀ q, q < N.1 → N.2.2 q ≤ 99) (hR : tw_bnd W N R.1) (hv : v < tw_vc W k) (hn : N.1 ≤ 20) : ¬ tw_fig N R k v = (-1000000000 : Int32) := by
  intro e
  have := tw_fig_r (k := k) hc hR hv hn
  rw [e] at this
  have e1 : (-1000000000 : Int32).toInt = -1000000000 := by decide
  omega
def tw_w0 (acc f : Int32) : Int32 := if acc = (-1000000000 : Int32) then f else if acc ≤ f then acc else f
def tw_w1 (acc f : Int32) : Int32 := if acc = (-1000000000 : Int32) then f else if f ≤ acc then acc else f
def tw_w2 (g f acc : Int32) : Int32 := if f ≤ g then acc else acc + (1 : Int32)
def tw_sd (f : Nat → Int32 → Int32) : Nat → Int32 → Int32
  | 0, a => a
  | x + 1, a => f x (tw_sd f x a)
def tw_pd (P : Nat → Bool) (f : Nat → Nat → Int32 → Int32) (s : Nat) : Nat → Int32 → Int32
  | 0, a => a
  | p + 1, a => if P p = true then tw_sd (f p) s (tw_pd P f s p a) else tw_pd P f s p a
section TO
variable {w : Nat} {W : tw_Wo} {lv : Nat} {N : tw_N} {pl : Nat → Nat} {bg : Nat → Int32} {dl : Bool} {st : Nat → Int32} {sp : List tw_Sp} {se : List tw_Se}
def tw_F0 (W : tw_Wo) (N : tw_N) (dl : Bool) (st : Nat → Int32) (pl : Nat → Nat) (bg : Nat → Int32) (sp : List tw_Sp) (t k v p x : Nat) : Int32 := tw_fig N (tw_RP W N dl st pl bg sp p x t) k v
def tw_F1 (W : tw_Wo) (N : tw_N) (dl : Bool) (st : Nat → Int32) (pl : Nat → Nat) (bg : Nat → Int32) (sp : List tw_Sp) (a : Nat) (b : Int32) (t k v p x : Nat) : Int32 := tw_fig N (tw_run W N dl (tw_updN (tw_stp sp st p) a b) (nI x) tw_plain (tw_R0 pl bg) t) k v
/-- what the class's points keep -/
def tc_K (w : Nat) (W : tw_Wo) (N : tw_N) (pl : Nat → Nat) (bg : Nat → Int32) (dl : Bool) (st : Nat → Int32) (sp : List tw_Sp) (se : List tw_Se) (n : Nat) (σ : rx_St) : Prop := tc_T W N pl bg dl σ ∧ tc_WR w W σ ∧ (∀ i, i < W.1.length → σ.1 39 i = st i) ∧ tc_G sp se σ ∧ tc_V w W N dl st pl bg sp se n σ
theorem tc_K.fr {n : Nat} {σ σ' : rx_St} (hw : w ≤ 1) (h : tc_K w W N pl bg dl st sp se n σ) (f : tw_fr (tc_SR 0) σ σ') : tc_K w W N pl bg dl st sp se n σ' :=
  ⟨h.1.fr (fun q j a b c => f.i (by unfold tc_SR; omega)), h.2.1.fr (fun q j a b => f.i (by unfold tc_SR; omega)), fun i hi => by rw [f.i (by unfold tc_SR; omega)]; exact h.2.2.1 i hi, h.2.2.2.1.fr (fun q j a => f.i (by unfold tc_SR; omega)), h.2.2.2.2.fr (fun q j a => f.i (by unfold tc_SR; omega))⟩
theorem tc_fig21 {σ : rx_St} {st' : Nat → Int32} {t k v x : Nat} (hw : w ≤ 1) (ht : t ≤ 40) (hk : k < W.2.length) (hv : v < 6) (hR : tc_WR w W σ) (hdl : σ.1 38 7 = tw_B dl) (he : tc_env 0 W N (st', nI x, 0) (tw_R0 pl bg) σ) :
    tw_ok (f_gri_figureAt_21 w (nI t) (nI (k * 6 + v)) σ) (fun y => y.1 = tw_fig N (tw_run W N dl st' (nI x) tw_plain (tw_R0 pl bg) t) k v ∧ tw_fr (tc_SR 0) σ y.2) := by
  have hk5 := he.2.2.2.2.2.1.2.1
  unfold f_gri_figureAt_21
  refine tw_b (tc_goes (T := t) hw (by omega) (Nat.zero_le _) hR hdl he (fun t' e => absurd e (by omega))) (fun σ1 h => ?_)
  obtain ⟨f1, e1, -⟩ := h
  have q1 : nI (k * 6 + v) / (6 : Int32) = nI k := by
    rw [show (6 : Int32) = nI 6 from rfl, tw_div (by omega) (by omega) (by omega), show (k * 6 + v) / 6 = k by omega]
  have q2 : rx_irem (nI (k * 6 + v)) (6 : Int32) = nI v := by
    rw [show (6 : Int32) = nI 6 from rfl, tw_rem (by omega) (by omega) (by omega), show (k * 6 + v) % 6 = v by omega]
  rw [q1, q2, tc_total e1 hk hv, Option.bind_some, tw_some]
  exact ⟨rfl, f1⟩
theorem tc_figureAt1 {σ : rx_St} {n a t k v p x : Nat} {b : Int32} (hw : w ≤ 1) (ht : t ≤ 40) (hk : k < W.2.length) (hv : v < 6) (ha : a < W.1.length) (hok : tw_gok W sp se) (h : tc_K w W N pl bg dl st sp se n σ) (hp : p < 2147483648) :
    tw_ok (f_gri_figureAt w (nI p) (nI x) (nI a) b (nI t) (nI (k * 6 + v)) σ) (fun y => y.1 = tw_F1 W N dl st pl bg sp a b t k v p x ∧ tw_fr (tc_SR 0) σ y.2) := by
  have h6 := h.1.2.2.2.1
  unfold f_gri_figureAt
  refine tw_b (tc_restartAt (seed := nI x) hw h.1 h.2.1 h.2.2.1 hok h.2.2.2.1 hp) (fun σ1 g => ?_)
  obtain ⟨f1, e1⟩ := g
  rw [if_neg (show ¬ nI a < (0 : Int32) by rw [show (0 : Int32) = nI 0 from rfl, tw_lt (by omega) (by omega)]; omega)]
  refine tw_g (vp_in_nI (by omega) (by decide)) ?_
  rw [nI_clamp (by omega)]
  have fa : tw_fr (tc_SR 0) σ (rx_si σ1 58 a b) := (f1.mn (fun q j h => by unfold tc_SR; omega)).si (by unfold tc_SR; omega)
  have hdl : (rx_si σ1 58 a b).1 38 7 = tw_B dl := by rw [fa.i (by unfold tc_SR; omega)]; exact h.1.2.2.1
  exact tw_mono (tc_fig21 hw ht hk hv (h.2.1.fr (fun q j a b => fa.i (by unfold tc_SR; omega))) hdl (e1.st b)) (fun y g => ⟨g.1, fa.tr g.2⟩)
theorem tc_figureAt0 {σ : rx_St} {n t k v p x : Nat} {b : Int32} (hw : w ≤ 1) (ht : t ≤ 40) (hk : k < W.2.length) (hv : v < 6) (hok : tw_gok W sp se) (h : tc_K w W N pl bg dl st sp se n σ) (hp : p < 2147483648) :
    tw_ok (f_gri_figureAt w (nI p) (nI x) (-1 : Int32) b (nI t) (nI (k * 6 + v)) σ) (fun y => y.1 = tw_F0 W N dl st pl bg sp t k v p x ∧ tw_fr (tc_SR 0) σ y.2) := by
  unfold f_gri_figureAt
  refine tw_b (tc_restartAt (seed := nI x) hw h.1 h.2.1 h.2.2.1 hok h.2.2.2.1 hp) (fun σ1 g => ?_)
  obtain ⟨f1, e1⟩ := g
  rw [if_pos (by decide)]
  have fa : tw_fr (tc_SR 0) σ σ1 := f1.mn (fun q j h => by unfold tc_SR; omega)
  have hdl : σ1.1 38 7 = tw_B dl := by rw [fa.i (by unfold tc_SR; omega)]; exact h.1.2.2.1
  exact tw_mono (tc_fig21 hw ht hk hv (h.2.1.fr (fun q j a b => fa.i (by unfold tc_SR; omega))) hdl e1) (fun y g => ⟨g.1, fa.tr g.2⟩)
/-- the least or the most of the figures -/
def tw_wm (most : Bool) (acc f : Int32) : Int32 := cond most (tw_w1 acc f) (tw_w0 acc f)
/-- the choice of the further one -/
theorem tw_o84 {β : Type} (most : Bool) (acc f : Int32) (K : Int32 → Option β) (Q : β → Prop) (h : tw_ok (K (tw_wm most acc f)) Q) :
    tw_ok (if tw_B most = (0 : Int32) then (if acc ≤ f then K (if acc = (-1000000000 : Int32) then f else if (0 : Int32) = (0 : Int32) then acc else f) else K (if acc = (-1000000000 : Int32) then f else if (1 : Int32) = (0 : Int32) then acc else f))
      else (if f ≤ acc then K (if acc = (-1000000000 : Int32) then f else if (0 : Int32) = (0 : Int32) then acc else f) else K (if acc = (-1000000000 : Int32) then f else if (1 : Int32) = (0 : Int32) then acc else f))) Q := by
  rw [if_pos (show (0 : Int32) = (0 : Int32) from rfl), if_neg (show ¬ (1 : Int32) = (0 : Int32) by decide)]
  cases most with
  | false =>
    rw [if_pos (show tw_B false = (0 : Int32) from rfl)]
    have h' : tw_ok (K (if acc = (-1000000000 : Int32) then f else if acc ≤ f then acc else f)) Q := h
    by_cases l : acc ≤ f
    · rw [if_pos l] at h' ⊢; exact h'
    · rw [if_neg l] at h' ⊢; exact h'
  | true =>
    rw [if_neg (show ¬ tw_B true = (0 : Int32) by decide)]
    have h' : tw_ok (K (if acc = (-1000000000 : Int32) then f else if f ≤ acc then acc else f)) Q := h
    by_cases l : f ≤ acc
    · rw [if_pos l] at h' ⊢; exact h'
    · rw [if_neg l] at h' ⊢; exact h'
theorem tc_out {n s a t k v : Nat} {b : Int32} {most : Bool} (hw : w ≤ 1) (ht : t ≤ 40) (hk : k < W.2.length) (hv : v < 6) (ha : a < W.1.length) (hok : tw_gok W sp se) (hs1 : 1 ≤ s) (hs : s ≤ n) {σ0 : rx_St} :
    ∀ m p σ, p ≤ tw_pts sp → tw_pts sp - p < m → tw_fr (tc_SR 0) σ0 σ → tc_K w W N pl bg dl st sp se n σ →
    tw_ok (f_gri_outermost_7 w m (nI s) (nI a) b (nI t) (nI (k * 6 + v)) (tw_B most) (tw_pd (tw_ms W N dl st pl bg sp se s) (fun p x acc => tw_wm most acc (tw_F1 W N dl st pl bg sp a b t k v p x)) s p (-1000000000 : Int32)) (nI p) σ) (fun y => tw_fr (tc_SR 0) σ0 y.2 ∧ y.1 = tw_pd (tw_ms W N dl st pl bg sp se s) (fun p x acc => tw_wm most acc (tw_F1 W N dl st pl bg sp a b t k v p x)) s (tw_pts sp) (-1000000000 : Int32)) := by
  have p2 := hok.1.2.2.1
  intro m
  induction m with
  | zero => intro p σ _ h; exact absurd h (Nat.not_lt_zero _)
  | succ m ih =>
    intro p σ hp hm f hK
    have n3 := hK.2.2.2.2.1
    unfold f_gri_outermost_7
    rw [hK.2.2.2.1.1.2.1]
    by_cases c : p = tw_pts sp
    · subst c
      rw [if_pos (tp_yl (by omega) (by omega) (Nat.le_refl _)), tw_some]
      exact ⟨f, rfl⟩
    · rw [if_neg (tp_nl (by omega) (by omega) (by omega))]
      have pl' : p < tw_pts sp := by omega
      have ihp := fun σ' f' K' => ih (p + 1) σ' (by omega) (by omega) f' K'
      cases b0 : tw_ms W N dl st pl bg sp se s p with
      | false =>
        have e19 : ∀ acc, f_gri_outermost_19 w (f_gri_outermost_7 w m) rx_fu (nI s) (nI a) b (nI t) (nI (k * 6 + v)) (tw_B most) acc (nI p) (0 : Int32) σ = f_gri_outermost_7 w m (nI s) (nI a) b (nI t) (nI (k * 6 + v)) (tw_B most) acc (nI (p + 1)) σ := by
          intro acc
          rw [show rx_fu = 99999 + 1 from rfl, f_gri_outermost_19, if_neg (show ¬ nI s ≤ (0 : Int32) by rw [show (0 : Int32) = nI 0 from rfl, tw_le (by omega) (by omega)]; omega), tw_gN (by omega) (by decide), nI_clamp (by omega), if_pos (by rw [tc_msV hK.2.2.2.2 hs pl']; exact b0)]
          unfold f_gri_outermost_108
          rw [show nI p + (1 : Int32) = nI (p + 1) from nI_add p 1]
        rw [e19]
        have := ihp σ f hK
        rw [tw_pd, b0, if_neg (by decide)] at this
        exact this
      | true =>
        have inner : ∀ m' x σ', x ≤ s → s - x < m' → tw_fr (tc_SR 0) σ0 σ' → tc_K w W N pl bg dl st sp se n σ' → tw_ok (f_gri_outermost_19 w (f_gri_outermost_7 w m) m' (nI s) (nI a) b (nI t) (nI (k * 6 + v)) (tw_B most) (tw_sd (fun x acc => tw_wm most acc (tw_F1 W N dl st pl bg sp a b t k v p x)) x (tw_pd (tw_ms W N dl st pl bg sp se s) (fun p x acc => tw_wm most acc (tw_F1 W N dl st pl bg sp a b t k v p x)) s p (-1000000000 : Int32))) (nI p) (nI x) σ') (fun y => tw_fr (tc_SR 0) σ0 y.2 ∧ y.1 = tw_pd (tw_ms W N dl st pl bg sp se s) (fun p x acc => tw_wm most acc (tw_F1 W N dl st pl bg sp a b t k v p x)) s (tw_pts sp) (-1000000000 : Int32)) := by
          intro m'
          induction m' with
          | zero => intro x σ' _ h; exact absurd h (Nat.not_lt_zero _)
          | succ m' ih' =>
            intro x σ' hx hm' f' K'
            unfold f_gri_outermost_19
            by_cases d : x = s
            · subst d
              rw [if_pos (tp_yl (by omega) (by omega) (Nat.le_refl _))]
              unfold f_gri_outermost_108
              rw [show nI p + (1 : Int32) = nI (p + 1) from nI_add p 1]
              have := ihp σ' f' K'
              rw [tw_pd, b0, if_pos rfl] at this
              exact this
            · rw [if_neg (tp_nl (by omega) (by omega) (by omega)), tw_gN (by omega) (by decide), nI_clamp (by omega), if_neg (by rw [tc_msV K'.2.2.2.2 hs pl', b0]; decide)]
              refine tw_b (tc_figureAt1 (x := x) hw ht hk hv ha hok K' (by omega)) (fun y g => ?_)
              obtain ⟨y1, y2⟩ := g
              have nx := ih' (x + 1) y.2 (by omega) (by omega) (f'.tr y2) (K'.fr hw y2)
              rw [tw_sd, ← y1] at nx
              have e102 : ∀ z s0, f_gri_outermost_84 w (f_gri_outermost_7 w m) (f_gri_outermost_19 w (f_gri_outermost_7 w m) m') (nI s) (nI a) b (nI t) (nI (k * 6 + v)) (tw_B most) z (nI p) (nI x) y.1 s0 y.2 = f_gri_outermost_19 w (f_gri_outermost_7 w m) m' (nI s) (nI a) b (nI t) (nI (k * 6 + v)) (tw_B most) (if z = (-1000000000 : Int32) then y.1 else if s0 = (0 : Int32) then z else y.1) (nI p) (nI (x + 1)) y.2 := by
                intro z s0
                unfold f_gri_outermost_84 f_gri_outermost_98 f_gri_outermost_102
                rw [show nI x + (1 : Int32) = nI (x + 1) from nI_add x 1]
                by_cases z1 : z = (-1000000000 : Int32)
                · rw [if_pos z1, if_pos z1]
                · rw [if_neg z1, if_neg z1]
                  by_cases z2 : s0 = (0 : Int32)
                  · rw [if_pos z2, if_pos z2]
                  · rw [if_neg z2, if_neg z2]
              rw [e102, e102]
              exact tw_o84 most _ y.1 (fun z => f_gri_outermost_19 w (f_gri_outermost_7 w m) m' (nI s) (nI a) b (nI t) (nI (k * 6 + v)) (tw_B most) z (nI p) (nI (x + 1)) y.2) _ nx
        exact inner rx_fu 0 σ (Nat.zero_le _) (by show _ < 100000; omega) f hK
theorem tc_more {n s a t k v : Nat} {b : Int32} (hw : w ≤ 1) (ht : t ≤ 40) (hk : k < W.2.length) (hv : v < 6) (ha : a < W.1.length) (hok : tw_gok W sp se) (hs1 : 1 ≤ s) (hs : s ≤ n) {σ0 : rx_St} :
    ∀ m p σ, p ≤ tw_pts sp → tw_pts sp - p < m → tw_fr (tc_SR 0) σ0 σ → tc_K w W N pl bg dl st sp se n σ →
    tw_ok (f_gri_countMore_6 w m (nI s) (nI a) b (nI t) (nI (k * 6 + v)) (tw_pd (tw_ms W N dl st pl bg sp se s) (fun p x acc => tw_w2 (tw_F0 W N dl st pl bg sp t k v p x) (tw_F1 W N dl st pl bg sp a b t k v p x) acc) s p (0 : Int32)) (nI p) σ) (fun y => tw_fr (tc_SR 0) σ0 y.2 ∧ y.1 = tw_pd (tw_ms W N dl st pl bg sp se s) (fun p x acc => tw_w2 (tw_F0 W N dl st pl bg sp t k v p x) (tw_F1 W N dl st pl bg sp a b t k v p x) acc) s (tw_pts sp) (0 : Int32)) := by
  have p2 := hok.1.2.2.1
  intro m
  induction m with
  | zero => intro p σ _ h; exact absurd h (Nat.not_lt_zero _)
  | succ m ih =>
    intro p σ hp hm f hK
    have n3 := hK.2.2.2.2.1
    unfold f_gri_countMore_6
    rw [hK.2.2.2.1.1.2.1]
    by_cases c : p = tw_pts sp
    · subst c
      rw [if_pos (tp_yl (by omega) (by omega) (Nat.le_refl _)), tw_some]
      exact ⟨f, rfl⟩
    · rw [if_neg (tp_nl (by omega) (by omega) (by omega))]
      have pl' : p < tw_pts sp := by omega
      have ihp := fun σ' f' K' => ih (p + 1) σ' (by omega) (by omega) f' K'
      cases b0 : tw_ms W N dl st pl bg sp se s p with
      | false =>
        have e18 : ∀ acc, f_gri_countMore_18 w (f_gri_countMore_6 w m) rx_fu (nI s) (nI a) b (nI t) (nI (k * 6 + v)) acc (nI p) (0 : Int32) σ = f_gri_countMore_6 w m (nI s) (nI a) b (nI t) (nI (k * 6 + v)) acc (nI (p + 1)) σ := by
          intro acc
          rw [show rx_fu = 99999 + 1 from rfl, f_gri_countMore_18, if_neg (show ¬ nI s ≤ (0 : Int32) by rw [show (0 : Int32) = nI 0 from rfl, tw_le (by omega) (by omega)]; omega), tw_gN (by omega) (by decide), nI_clamp (by omega), if_pos (by rw [tc_msV hK.2.2.2.2 hs pl']; exact b0)]
          unfold f_gri_countMore_79
          rw [show nI p + (1 : Int32) = nI (p + 1) from nI_add p 1]
        rw [e18]
        have := ihp σ f hK
        rw [tw_pd, b0, if_neg (by decide)] at this
        exact this
      | true =>
        have inner : ∀ m' x σ', x ≤ s → s - x < m' → tw_fr (tc_SR 0) σ0 σ' → tc_K w W N pl bg dl st sp se n σ' → tw_ok (f_gri_countMore_18 w (f_gri_countMore_6 w m) m' (nI s) (nI a) b (nI t) (nI (k * 6 + v)) (tw_sd (fun x acc => tw_w2 (tw_F0 W N dl st pl bg sp t k v p x) (tw_F1 W N dl st pl bg sp a b t k v p x) acc) x (tw_pd (tw_ms W N dl st pl bg sp se s) (fun p x acc => tw_w2 (tw_F0 W N dl st pl bg sp t k v p x) (tw_F1 W N dl st pl bg sp a b t k v p x) acc) s p (0 : Int32))) (nI p) (nI x) σ') (fun y => tw_fr (tc_SR 0) σ0 y.2 ∧ y.1 = tw_pd (tw_ms W N dl st pl bg sp se s) (fun p x acc => tw_w2 (tw_F0 W N dl st pl bg sp t k v p x) (tw_F1 W N dl st pl bg sp a b t k v p x) acc) s (tw_pts sp) (0 : Int32)) := by
          intro m'
          induction m' with
          | zero => intro x σ' _ h; exact absurd h (Nat.not_lt_zero _)
          | succ m' ih' =>
            intro x σ' hx hm' f' K'
            unfold f_gri_countMore_18
            by_cases d : x = s
            · subst d
              rw [if_pos (tp_yl (by omega) (by omega) (Nat.le_refl _))]
              unfold f_gri_countMore_79
              rw [show nI p + (1 : Int32) = nI (p + 1) from nI_add p 1]
              have := ihp σ' f' K'
              rw [tw_pd, b0, if_pos rfl] at this
              exact this
            · rw [if_neg (tp_nl (by omega) (by omega) (by omega)), tw_gN (by omega) (by decide), nI_clamp (by omega), if_neg (by rw [tc_msV K'.2.2.2.2 hs pl', b0]; decide)]
              refine tw_b (tc_figureAt0 (x := x) hw ht hk hv hok K' (by omega)) (fun y0 g0 => ?_)
              obtain ⟨z1, z2⟩ := g0
              refine tw_b (tc_figureAt1 (x := x) hw ht hk hv ha hok (K'.fr hw z2) (by omega)) (fun y g => ?_)
              obtain ⟨y1, y2⟩ := g
              have nx := ih' (x + 1) y.2 (by omega) (by omega) ((f'.tr z2).tr y2) ((K'.fr hw z2).fr hw y2)
              rw [tw_sd, ← y1, ← z1] at nx
              unfold f_gri_countMore_73
              rw [show nI x + (1 : Int32) = nI (x + 1) from nI_add x 1]
              unfold tw_w2 at nx
              by_cases l : y.1 ≤ y0.1
              · rw [if_pos l]
                rw [if_pos l] at nx
                exact nx
              · rw [if_neg l]
                rw [if_neg l] at nx
                exact nx
        exact inner rx_fu 0 σ (Nat.zero_le _) (by show _ < 100000; omega) f hK
/-! the model: all three at once -/
def tw_no (v8 A0 A1 : Int32) : Prop := v8 = (0 : Int32) ∧ A0 = (-1000000000 : Int32) ∧ A1 = (-1000000000 : Int32) ∨ v8 = (1 : Int32) ∧ ¬ A0 = (-1000000000 : Int32) ∧ ¬ A1 = (-1000000000 : Int32)
theorem tw_no_st {v8 A0 A1 F : Int32} (h : tw_no v8 A0 A1) (hF : ¬ F = (-1000000000 : Int32)) : tw_no (1 : Int32) (tw_w0 A0 F) (tw_w1 A1 F) := by
  refine Or.inr ⟨rfl, ?_, ?_⟩
  · unfold tw_w0
    by_cases c : A0 = (-1000000000 : Int32)
    · rw [if_pos c]; exact hF
    · rw [if_neg c]
      by_cases d : A0 ≤ F
      · rw [if_pos d]; exact c
      · rw [if_neg d]; exact hF
  · unfold tw_w1
    by_cases c : A1 = (-1000000000 : Int32)
    · rw [if_pos c]; exact hF
    · rw [if_neg c]
      by_cases d : F ≤ A1
      · rw [if_pos d]; exact c
      · rw [if_neg d]; exact hF
theorem tm_w155 {k73 k98} {v1 v2 v3 v4 v5 v6 v7 v8 v9 v10 v11 v12 v13 F : Int32} {σ : rx_St} (h : tw_no v8 v9 v10) : f_m_would_155 k73 k98 v1 v2 v3 v4 v5 v6 v7 v8 v9 v10 v11 v12 v13 F σ = k98 v1 v2 v3 v4 v5 v6 v7 (1 : Int32) (tw_w0 v9 F) (tw_w1 v10 F) v11 v12 (v13 + (1 : Int32)) σ := by
  unfold f_m_would_155 f_m_would_167 f_m_would_171 f_m_would_183 f_m_would_187 tw_w0 tw_w1
  rcases h with ⟨h8, h9, h10⟩ | ⟨h8, h9, h10⟩
  · rw [if_pos h8, if_pos h8, if_pos h9, if_pos h10]
  · have n8 : ¬ v8 = (0 : Int32) := by rw [h8]; decide
    rw [if_neg n8, if_neg n8, if_neg n8, if_neg h9, if_neg h10]
    by_cases c : v9 ≤ F
    · rw [if_pos c, if_pos c]
      by_cases d : F ≤ v10
      · rw [if_pos d, if_pos d]
      · rw [if_neg d, if_neg d]
    · rw [if_neg c, if_neg c]
      by_cases d : F ≤ v10
      · rw [if_pos d, if_pos d]
      · rw [if_neg d, if_neg d]
def tw_P0 (W : tw_Wo) (N : tw_N) (dl : Bool) (st : Nat → Int32) (pl : Nat → Nat) (bg : Nat → Int32) (sp : List tw_Sp) (se : List tw_Se) (a : Nat) (b : Int32) (t k v s : Nat) (p : Nat) : Int32 := tw_pd (tw_ms W N dl st pl bg sp se s) (fun p x acc => tw_w0 acc (tw_F1 W N dl st pl bg sp a b t k v p x)) s p (-1000000000 : Int32)
def tw_P1 (W : tw_Wo) (N : tw_N) (dl : Bool) (st : Nat → Int32) (pl : Nat → Nat) (bg : Nat → Int32) (sp : List tw_Sp) (se : List tw_Se) (a : Nat) (b : Int32) (t k v s : Nat) (p : Nat) : Int32 := tw_pd (tw_ms W N dl st pl bg sp se s) (fun p x acc => tw_w1 acc (tw_F1 W N dl st pl bg sp a b t k v p x)) s p (-1000000000 : Int32)
def tw_P2 (W : tw_Wo) (N : tw_N) (dl : Bool) (st : Nat → Int32) (pl : Nat → Nat) (bg : Nat → Int32) (sp : List tw_Sp) (se : List tw_Se) (a : Nat) (b : Int32) (t k v s : Nat) (p : Nat) : Int32 := tw_pd (tw_ms W N dl st pl bg sp se s) (fun p x acc => tw_w2 (tw_F0 W N dl st pl bg sp t k v p x) (tw_F1 W N dl st pl bg sp a b t k v p x) acc) s p (0 : Int32)
theorem tm_would {s a t k v what : Nat} {b : Int32} (ht : t ≤ 40) (hk : k < W.2.length) (hv : v < tw_vc W k) (ha : a < W.1.length) (hok : tw_gok W sp se) (hs : s ≤ 3) (hB : tq_B W N bg) (hwh : what ≤ 2) {σ0 : rx_St} :
    ∀ m p v8 σ, p ≤ tw_pts sp → tw_pts sp - p < m → tw_no v8 (tw_P0 W N dl st pl bg sp se a b t k v s p) (tw_P1 W N dl st pl bg sp se a b t k v s p) → tw_fr tm_SM σ0 σ → tm_K W lv N pl bg dl st sp se σ →
    tw_ok (f_m_would_73 m (nI s) (nI a) b (nI t) (nI k) (nI v) (nI what) v8 (tw_P0 W N dl st pl bg sp se a b t k v s p) (tw_P1 W N dl st pl bg sp se a b t k v s p) (tw_P2 W N dl st pl bg sp se a b t k v s p) (nI p) σ)
      (fun y => tw_fr tm_SM σ0 y.2 ∧ y.1 = if what = 0 then tw_P0 W N dl st pl bg sp se a b t k v s (tw_pts sp) else if what = 1 then tw_P1 W N dl st pl bg sp se a b t k v s (tw_pts sp) else tw_P2 W N dl st pl bg sp se a b t k v s (tw_pts sp)) := by
  have p2 := hok.1.2.2.1
  intro m
  induction m with
  | zero => intro p v8 σ _ h; exact absurd h (Nat.not_lt_zero _)
  | succ m ih =>
    intro p v8 σ hp hm hno f hK
    have h6 := hK.1.2.2.2.1
    have h20 := hK.1.1.2
    have hv6 := tw_vc6 hK.1.2.2.2 k
    unfold f_m_would_73
    rw [tm_points hok hK.2.2.2, Option.bind_some]
    by_cases c : p = tw_pts sp
    · subst c
      rw [if_pos (tp_yl (by omega) (by omega) (Nat.le_refl _))]
      have : what = 0 ∨ what = 1 ∨ what = 2 := by omega
      rcases this with rfl | rfl | rfl
      · rw [if_pos (by rfl), tw_some]; exact ⟨f, rfl⟩
      · rw [if_neg (by decide), if_pos (by rfl), tw_some]; exact ⟨f, rfl⟩
      · rw [if_neg (by decide), if_neg (by decide), tw_some]; exact ⟨f, rfl⟩
    · rw [if_neg (tp_nl (by omega) (by omega) (by omega))]
      refine tw_b (tm_point hok hK (by omega) hs) (fun y h => ?_)
      obtain ⟨y1, y2, y3⟩ := h
      rw [y3]
      cases b0 : tw_ms W N dl st pl bg sp se s p with
      | false =>
        rw [if_pos (by rfl)]
        unfold f_m_would_196
        rw [show nI p + (1 : Int32) = nI (p + 1) from nI_add p 1]
        have e0 : tw_P0 W N dl st pl bg sp se a b t k v s (p + 1) = tw_P0 W N dl st pl bg sp se a b t k v s p := by unfold tw_P0; rw [tw_pd, b0]; rfl
        have e1 : tw_P1 W N dl st pl bg sp se a b t k v s (p + 1) = tw_P1 W N dl st pl bg sp se a b t k v s p := by unfold tw_P1; rw [tw_pd, b0]; rfl
        have e2 : tw_P2 W N dl st pl bg sp se a b t k v s (p + 1) = tw_P2 W N dl st pl bg sp se a b t k v s p := by unfold tw_P2; rw [tw_pd, b0]; rfl
        have nx := ih (p + 1) v8 y.2 (by omega) (by omega) (by rw [e0, e1]; exact hno) (f.tr y1) y2
        rw [e0, e1, e2] at nx
        exact nx
      | true =>
        rw [if_neg (by decide)]
        have inner : ∀ m' x v8 σ', x ≤ s → s - x < m' → tw_no v8 (tw_sd (fun x acc => tw_w0 acc (tw_F1 W N dl st pl bg sp a b t k v p x)) x (tw_P0 W N dl st pl bg sp se a b t k v s p)) (tw_sd (fun x acc => tw_w1 acc (tw_F1 W N dl st pl bg sp a b t k v p x)) x (tw_P1 W N dl st pl bg sp se a b t k v s p)) → tw_fr tm_SM σ0 σ' → tm_K W lv N pl bg dl st sp se σ' →
            tw_ok (f_m_would_98 (f_m_would_73 m) m' (nI s) (nI a) b (nI t) (nI k) (nI v) (nI what) v8 (tw_sd (fun x acc => tw_w0 acc (tw_F1 W N dl st pl bg sp a b t k v p x)) x (tw_P0 W N dl st pl bg sp se a b t k v s p)) (tw_sd (fun x acc => tw_w1 acc (tw_F1 W N dl st pl bg sp a b t k v p x)) x (tw_P1 W N dl st pl bg sp se a b t k v s p)) (tw_sd (fun x acc => tw_w2 (tw_F0 W N dl st pl bg sp t k v p x) (tw_F1 W N dl st pl bg sp a b t k v p x) acc) x (tw_P2 W N dl st pl bg sp se a b t k v s p)) (nI p) (nI x) σ')
              (fun y => tw_fr tm_SM σ0 y.2 ∧ y.1 = if what = 0 then tw_P0 W N dl st pl bg sp se a b t k v s (tw_pts sp) else if what = 1 then tw_P1 W N dl st pl bg sp se a b t k v s (tw_pts sp) else tw_P2 W N dl st pl bg sp se a b t k v s (tw_pts sp)) := by
          intro m'
          induction m' with
          | zero => intro x v8 σ' _ h; exact absurd h (Nat.not_lt_zero _)
          | succ m' ih' =>
            intro x v8 σ' hx hm' hno' f' K'
            unfold f_m_would_98
            by_cases d : x = s
            · subst d
              rw [if_pos (tp_yl (by omega) (by omega) (Nat.le_refl _))]
              unfold f_m_would_196
              rw [show nI p + (1 : Int32) = nI (p + 1) from nI_add p 1]
              have e0 : tw_P0 W N dl st pl bg sp se a b t k v x (p + 1) = tw_sd (fun x acc => tw_w0 acc (tw_F1 W N dl st pl bg sp a b t k v p x)) x (tw_P0 W N dl st pl bg sp se a b t k v x p) := by unfold tw_P0; rw [tw_pd, b0]; rfl
              have e1 : tw_P1 W N dl st pl bg sp se a b t k v x (p + 1) = tw_sd (fun x acc => tw_w1 acc (tw_F1 W N dl st pl bg sp a b t k v p x)) x (tw_P1 W N dl st pl bg sp se a b t k v x p) := by unfold tw_P1; rw [tw_pd, b0]; rfl
              have e2 : tw_P2 W N dl st pl bg sp se a b t k v x (p + 1) = tw_sd (fun x acc => tw_w2 (tw_F0 W N dl st pl bg sp t k v p x) (tw_F1 W N dl st pl bg sp a b t k v p x) acc) x (tw_P2 W N dl st pl bg sp se a b t k v x p) := by unfold tw_P2; rw [tw_pd, b0]; rfl
              have nx := ih (p + 1) v8 σ' (by omega) (by omega) (by rw [e0, e1]; exact hno') f' K'
              rw [e0, e1, e2] at nx
              exact nx
            · rw [if_neg (tp_nl (by omega) (by omega) (by omega))]
              refine tw_b (tm_stands (st := st) hok K'.2.2.2 h6 K'.2.2.1 (show p < 2147483648 by omega)) (fun σ1 h => ?_)
              obtain ⟨f1, g1⟩ := h
              have fr1 : tw_fr tm_SM σ' σ1 := f1.mn (fun q j h => Or.inr h)
              have K1 := K'.fr fr1
              refine tw_b (tm_figureOf (seed := nI x) ht K1.2.1 K1.1 g1 hk hv) (fun z h => ?_)
              obtain ⟨z1, z2⟩ := h
              have fr2 : tw_fr tm_SM σ1 z.2 := z2.mn (fun q j h => Or.inl h)
              refine tw_g (vp_in_nI (by omega) (by decide)) ?_
              rw [nI_clamp (by omega)]
              have fr3 : tw_fr tm_SM z.2 (rx_si z.2 134 a b) := tw_fr.rf.si (Or.inr rfl)
              have K3 := (K1.fr fr2).fr fr3
              refine tw_b (tm_figureOf (st := tw_updN (tw_stp sp st p) a b) (seed := nI x) ht K3.2.1 K3.1 (fun j hj => ?_) hk hv) (fun u h => ?_)
              · unfold tw_updN
                rw [tw_r1]
                by_cases e : j = a
                · rw [if_pos ⟨rfl, e⟩, if_pos e]
                · rw [if_neg (fun h => e h.2), if_neg e, z2.i (by unfold tm_S8; omega)]
                  exact g1 j hj
              obtain ⟨u1, u2⟩ := h
              have fr4 : tw_fr tm_SM (rx_si z.2 134 a b) u.2 := u2.mn (fun q j h => Or.inl h)
              have F1e : tw_F1 W N dl st pl bg sp a b t k v p x = u.1 := u1.symm
              have F0e : tw_F0 W N dl st pl bg sp t k v p x = z.1 := z1.symm
              have une : ¬ u.1 = (-1000000000 : Int32) := by
                rw [u1]
                exact tw_fig_ne hB.1 (tw_run_bnd hB.2 t) hv h20
              have nx := ih' (x + 1) (1 : Int32) u.2 (by omega) (by omega) (by rw [tw_sd, tw_sd, F1e]; exact tw_no_st hno' une) (((((f'.tr fr1).tr fr2).tr fr3)).tr fr4) (K3.fr fr4)
              rw [tw_sd, tw_sd, tw_sd, F1e, F0e] at nx
              rw [tm_w155 hno', tm_w155 hno', show nI x + (1 : Int32) = nI (x + 1) from nI_add x 1]
              unfold tw_w2 at nx ⊢
              by_cases l : u.1 ≤ z.1
              · rw [if_pos l]
                rw [if_pos l] at nx
                exact nx
              · rw [if_neg l]
                rw [if_neg l] at nx
                exact nx
        exact inner rx_fu 0 v8 y.2 (Nat.zero_le _) (by show _ < 100000; omega) hno (f.tr y1) y2
theorem tq_would {σ : rx_St} {x : Nat} (h : tq_T w W lv N pl bg dl st σ) (hB : tq_B W N bg) (hG : tq_G W sp se σ) (hV : tq_try w W N dl st pl bg sp se x σ) (a0 a1 a2 a3 a4 a5 a6 : Int32) : ∃ o1 o2, f_c_would w a0 a1 a2 a3 a4 a5 a6 σ = some o1 ∧ f_m_would a0 a1 a2 a3 a4 a5 a6 o1.2 = some o2 ∧ o1.1 = o2.1 ∧ tw_fr tq_SQ σ o2.2 ∧ tq_try w W N dl st pl bg sp se x o2.2 := by
  have hw := h.2.2
  have hW := h.2.1.1.2.2.2
  have hWN : tc_WN w W σ := by obtain ⟨_, _, g, _⟩ := h.1.2.1; exact g
  have thr := tq_thr h (nI 0)
  have bad : f_c_would w a0 a1 a2 a3 a4 a5 a6 σ = some ((-1000000000 : Int32), σ) → f_m_would a0 a1 a2 a3 a4 a5 a6 σ = some ((-1000000000 : Int32), rx_si σ 87 0 (nI 0)) → ∃ o1 o2, f_c_would w a0 a1 a2 a3 a4 a5 a6 σ = some o1 ∧ f_m_would a0 a1 a2 a3 a4 a5 a6 o1.2 = some o2 ∧ o1.1 = o2.1 ∧ tw_fr tq_SQ σ o2.2 ∧ tq_try w W N dl st pl bg sp se x o2.2 := fun q1 q2 => ⟨_, _, q1, q2, rfl, tq_thrQ, hV.thr _⟩
  rcases tq_seeds a0 with ⟨c1, c2⟩ | ⟨s, s1, s3, rfl, c1, c2⟩
  · refine bad ?_ ?_
    · unfold f_c_would
      rw [c1]
      exact if_pos rfl
    · unfold f_m_would
      rw [c2]
      exact if_pos rfl
  rcases tq_hasS a1 h thr.1 with ⟨d1, d2⟩ | ⟨a, ha, rfl, d1, d2⟩
  · refine bad ?_ ?_
    · unfold f_c_would
      rw [c1, if_neg (by decide), d1]
      exact if_pos rfl
    · unfold f_m_would
      rw [c2]
      refine (if_neg (by decide)).trans ?_
      have d2' : f_m_isSetting a1 (rx_si σ 87 0 (0 : Int32)) = some (nI 0) := d2
      rw [d2']
      rfl
  have d2' : f_m_isSetting (nI a) (rx_si σ 87 0 (0 : Int32)) = some (nI 1) := d2
  rcases tq_num01 a2 with n1 | n1
  · refine bad ?_ ?_
    · unfold f_c_would
      rw [c1, if_neg (by decide), d1, if_neg (by decide), tq_num, n1]
      exact if_pos rfl
    · unfold f_m_would
      rw [c2]
      refine (if_neg (by decide)).trans ?_
      rw [d2', Option.bind_some, if_neg (by decide), n1]
      exact if_pos rfl
  rcases tq_time a3 with ⟨t1, t2⟩ | ⟨t, ht, rfl, t1, t2⟩
  · refine bad ?_ ?_
    · unfold f_c_would
      rw [c1, if_neg (by decide), d1, if_neg (by decide), tq_num, n1, if_neg (by decide), t1]
      exact if_pos rfl
    · unfold f_m_would f_m_isFigure
      rw [c2]
      refine (if_neg (by decide)).trans ?_
      rw [d2', Option.bind_some, if_neg (by decide), n1, if_neg (by decide), t2]
      rfl
  rcases tq_var a4 a5 (σ := σ) (σ' := rx_si σ 87 0 (nI 0)) hw hW hWN thr.1.2.1.2.1 with ⟨e1, e2⟩ | ⟨k, v, hk, hv, rfl, rfl, e1, e2⟩
  · refine bad ?_ ?_
    · unfold f_c_would
      rw [c1, if_neg (by decide), d1, if_neg (by decide), tq_num, n1, if_neg (by decide), t1, if_neg (by decide), e1]
      rfl
    · unfold f_m_would
      rw [c2]
      refine (if_neg (by decide)).trans ?_
      have e2' : f_m_isFigure (nI t) a4 a5 (rx_si σ 87 0 (0 : Int32)) = some (nI 0) := e2 _
      rw [d2', Option.bind_some, if_neg (by decide), n1, if_neg (by decide), e2']
      rfl
  have e2' : f_m_isFigure (nI t) (nI k) (nI v) (rx_si σ 87 0 (0 : Int32)) = some (nI 1) := e2 t ht
  rcases tq_in a6 0 2 (by omega) (by omega) with ⟨i0, iv⟩ | ⟨what, rfl, -, i2, i1⟩
  · have i0' : f_m_in a6 (0 : Int32) (2 : Int32) = nI 0 := i0
    refine bad ?_ ?_
    · unfold f_c_would
      rw [c1, if_neg (by decide), d1, if_neg (by decide), tq_num, n1, if_neg (by decide), t1, if_neg (by decide), e1, Option.bind_some, if_neg (by decide)]
      rcases iv with iv | iv
      · exact if_pos iv
      · exact tq_ite0 (if_neg (Int32.not_le.mpr iv))
    · unfold f_m_would
      rw [c2]
      refine (if_neg (by decide)).trans ?_
      rw [d2', Option.bind_some, if_neg (by decide), n1, if_neg (by decide), e2', Option.bind_some, if_neg (by decide), i0']
      exact if_pos rfl
  have hv6 := tw_vc6 hW k
  obtain ⟨σ1, n, f0, f1, g1, g2, g3, g4, g5, hT1, hG1⟩ := tq_tried h hG hV s3
  have KC : tc_K w W N pl bg dl st sp se n σ1 := ⟨hT1.1.1, hT1.1.2.1, hT1.1.2.2, hG1.2.1, g2⟩
  -- the class
  have cl : ∃ o1, (if nI what = (2 : Int32) then (f_gri_countMore w (nI s) (nI a) a2 (nI t) (nI (k * 6 + v)) σ1).bind fun y4 => some (y4.1, y4.2) else if nI what = (1 : Int32) then f_c_would_127 w (nI s) (nI a) a2 (nI t) (nI (k * 6 + v)) (1 : Int32) σ1 else f_c_would_127 w (nI s) (nI a) a2 (nI t) (nI (k * 6 + v)) (0 : Int32) σ1) = some o1 ∧ tw_fr (tc_SR 0) σ1 o1.2 ∧ o1.1 = if what = 0 then tw_P0 W N dl st pl bg sp se a a2 t k v s (tw_pts sp) else if what = 1 then tw_P1 W N dl st pl bg sp se a a2 t k v s (tw_pts sp) else tw_P2 W N dl st pl bg sp se a a2 t k v s (tw_pts sp) := by
    have pts2 := hG1.1.1.2.2.1
    have : what = 0 ∨ what = 1 ∨ what = 2 := by omega
    rcases this with rfl | rfl | rfl
    · obtain ⟨y, ey, fy, ry⟩ := tc_out (st := st) (b := a2) (most := false) (σ0 := σ1) hw ht hk (show v < 6 by omega) ha hG1.1 s1 g1 rx_fu 0 σ1 (Nat.zero_le _) (by show _ < 100000; omega) tw_fr.rf KC
      refine ⟨y, ?_, fy, ry⟩
      rw [if_neg (by decide), if_neg (by decide)]
      unfold f_c_would_127 f_gri_outermost
      have ey' : f_gri_outermost_7 w rx_fu (nI s) (nI a) a2 (nI t) (nI (k * 6 + v)) (0 : Int32) (-1000000000 : Int32) (0 : Int32) σ1 = some y := ey
      rw [ey']
      rfl
    · obtain ⟨y, ey, fy, ry⟩ := tc_out (st := st) (b := a2) (most := true) (σ0 := σ1) hw ht hk (show v < 6 by omega) ha hG1.1 s1 g1 rx_fu 0 σ1 (Nat.zero_le _) (by show _ < 100000; omega) tw_fr.rf KC
      refine ⟨y, ?_, fy, ry⟩
      rw [if_neg (by decide), if_pos (by rfl)]
      unfold f_c_would_127 f_gri_outermost
      have ey' : f_gri_outermost_7 w rx_fu (nI s) (nI a) a2 (nI t) (nI (k * 6 + v)) (1 : Int32) (-1000000000 : Int32) (0 : Int32) σ1 = some y := ey
      rw [ey']
      rfl
    · obtain ⟨y, ey, fy, ry⟩ := tc_more (st := st) (b := a2) (σ0 := σ1) hw ht hk (show v < 6 by omega) ha hG1.1 s1 g1 rx_fu 0 σ1 (Nat.zero_le _) (by show _ < 100000; omega) tw_fr.rf KC
      refine ⟨y, ?_, fy, ry⟩
      rw [if_pos (by rfl)]
      unfold f_gri_countMore
      have ey' : f_gri_countMore_6 w rx_fu (nI s) (nI a) a2 (nI t) (nI (k * 6 + v)) (0 : Int32) (0 : Int32) σ1 = some y := ey
      rw [ey']
      rfl
  obtain ⟨o1, ec, fc, rc⟩ := cl
  have fcq : tw_fr tq_SQ σ1 o1.2 := fc.mn (fun q j h => Or.inl (tq_SR q j h))
  have hTc := hT1.fq fcq
  have hGc := hG1.fq fcq
  have pts2 := hG1.1.1.2.2.1
  obtain ⟨y, em, fm, rm⟩ := tm_would (st := st) (b := a2) (s := s) (what := what) (σ0 := rx_si o1.2 87 0 (nI 0)) ht hk hv ha hGc.1 s3 hB i2 rx_fu 0 (0 : Int32) (rx_si o1.2 87 0 (nI 0)) (Nat.zero_le _) (by show _ < 100000; omega) (Or.inl ⟨rfl, rfl, rfl⟩) tw_fr.rf (tq_K hTc hGc)
  obtain ⟨b1, b2⟩ := tq_behind hTc (g2.fr (fun q j a => fc.i (by unfold tc_SR; omega))) ((fc.i (by unfold tc_SR; omega)).trans g3) ((fc.i (by unfold tc_SR; omega)).trans g4) g5 fm
  have thrc := tq_thr hTc (nI 0)
  refine ⟨o1, y, ?_, ?_, rc.trans rm.symm, (f1.tr fcq).tr b1, b2⟩
  · unfold f_c_would
    have l1 : ¬ nI what < (0 : Int32) := by rw [show (0 : Int32) = nI 0 from rfl, tw_lt (by omega) (by omega)]; omega
    have l2 : nI what ≤ (2 : Int32) := by rw [show (2 : Int32) = nI 2 from rfl, tw_le (by omega) (by omega)]; omega
    have x3 : nI k * (6 : Int32) + nI v = nI (k * 6 + v) := by rw [show (6 : Int32) = nI 6 from rfl, pk_mul, nI_add]
    rw [c1, if_neg (by decide), d1, if_neg (by decide), tq_num, n1, if_neg (by decide), t1, if_neg (by decide), e1, Option.bind_some, if_neg (by decide), if_neg l1, if_pos l2, f0, Option.bind_some]
    show (if nI what = (2 : Int32) then (f_gri_countMore w (nI s) (nI a) a2 (nI t) (nI k * (6 : Int32) + nI v) σ1).bind fun y4 => some (y4.1, y4.2) else if nI what = (1 : Int32) then f_c_would_127 w (nI s) (nI a) a2 (nI t) (nI k * (6 : Int32) + nI v) (1 : Int32) σ1 else f_c_would_127 w (nI s) (nI a) a2 (nI t) (nI k * (6 : Int32) + nI v) (0 : Int32) σ1) = _
    rw [x3]
    exact ec
  · unfold f_m_would
    rw [c2]
    refine (if_neg (by decide)).trans ?_
    have q1 : f_m_isSetting (nI a) (rx_si o1.2 87 0 (0 : Int32)) = some (nI 1) := by
      rcases tq_hasS (nI a) h thrc.1 with ⟨z1, -⟩ | ⟨_, _, _, _, z⟩
      · rw [d1] at z1; exact absurd z1 (by decide)
      · exact z
    have q2 : f_m_isFigure (nI t) (nI k) (nI v) (rx_si o1.2 87 0 (0 : Int32)) = some (nI 1) := by
      rcases tq_var (nI k) (nI v) (σ := σ) (σ' := rx_si o1.2 87 0 (nI 0)) hw hW hWN thrc.1.2.1.2.1 with ⟨z1, -⟩ | ⟨_, _, _, _, _, _, _, z2⟩
      · rw [e1] at z1
        exact absurd (Option.some.inj z1) (by decide)
      · exact z2 t ht
    have i1' : f_m_in (nI what) (0 : Int32) (2 : Int32) = nI 1 := i1
    rw [q1, Option.bind_some, if_neg (by decide), n1, if_neg (by decide), q2, Option.bind_some, if_neg (by decide), i1', if_neg (by decide)]
    exact em
end TO
