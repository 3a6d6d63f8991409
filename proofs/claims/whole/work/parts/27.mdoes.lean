/-! WHAT IS WISHED IS DONE, in the model's rows -/
theorem tw_bm64 {z : Int} (h1 : -9223372036854775808 ≤ z) (h2 : z < 9223372036854775808) : z.bmod (2 ^ 64) = z := by
  rw [Int.bmod_def]; split <;> omega
theorem tw_bm32 {z : Int} (h1 : -2147483648 ≤ z) (h2 : z < 2147483648) : z.bmod (2 ^ 32) = z := by
  rw [Int.bmod_def]; split <;> omega
theorem tw_rng (x : Int32) : -2147483648 ≤ x.toInt ∧ x.toInt < 2147483648 := ⟨Int32.le_toInt x, Int32.toInt_lt x⟩
theorem tw_tdiv10 (a : Int) : 0 ≤ a ∧ a.tdiv 10 = a / 10 ∨ a < 0 ∧ a.tdiv 10 = -((-a) / 10) := by
  by_cases h : 0 ≤ a
  · exact Or.inl ⟨h, Int.tdiv_eq_ediv_of_nonneg h⟩
  · refine Or.inr ⟨by omega, ?_⟩
    have : a = -(-a) := by omega
    rw [this, Int.neg_tdiv, Int.tdiv_eq_ediv_of_nonneg (by omega), Int.neg_neg]
theorem tm_go {s : Nat} (hs : s < 10) (x : Int32) : ∃ y : Int64, ((nI s).toInt64 + x.toInt64) - ((nI s).toInt64 + x.toInt64) / (10 : Int64) * (10 : Int64) = y ∧ (nI 0 ≤ lg_cmp y 0 → y.toInt32 = nI (tw_go s x)) ∧ (¬ nI 0 ≤ lg_cmp y 0 → (y + 10).toInt32 = nI (tw_go s x)) := by
  refine ⟨_, rfl, ?_⟩
  have hx := tw_rng x
  generalize hA : (nI s).toInt64 + x.toInt64 = A
  have hAi : A.toInt = (s : Int) + x.toInt := by
    rw [← hA, Int64.toInt_add, Int32.toInt_toInt64, Int32.toInt_toInt64, nI_toInt (by omega), tw_bm64 (by omega) (by omega)]
  have h10 : (10 : Int64).toInt = 10 := by decide
  have hd := tw_tdiv10 A.toInt
  have hq : (A / 10).toInt = A.toInt.tdiv 10 := by
    rw [Int64.toInt_div, h10, tw_bm64 (by omega) (by omega)]
  have hy : (A - A / 10 * 10).toInt = A.toInt - A.toInt.tdiv 10 * 10 := by
    rw [Int64.toInt_sub, Int64.toInt_mul, hq, h10, tw_bm64 (z := A.toInt.tdiv 10 * 10) (by omega) (by omega), tw_bm64 (by omega) (by omega)]
  have hgo : ((tw_go s x : Nat) : Int) = ((s : Int) + x.toInt) % 10 := by unfold tw_go; omega
  have hgl : tw_go s x < 10 := by omega
  have hc : nI 0 ≤ lg_cmp (A - A / 10 * 10) 0 ↔ 0 ≤ (A - A / 10 * 10).toInt := by
    unfold lg_cmp
    by_cases c1 : A - A / 10 * 10 > 0
    · rw [if_pos c1]
      have : (0 : Int64) < A - A / 10 * 10 := c1
      rw [Int64.lt_iff_toInt_lt] at this
      exact ⟨fun _ => Int.le_of_lt this, fun _ => by decide⟩
    · rw [if_neg c1]
      have : ¬ (0 : Int64) < A - A / 10 * 10 := c1
      rw [Int64.lt_iff_toInt_lt, show (0 : Int64).toInt = 0 from rfl] at this
      by_cases c2 : A - A / 10 * 10 = 0
      · rw [if_pos c2, c2]; exact ⟨fun _ => by decide, fun _ => by decide⟩
      · rw [if_neg c2]
        have h3 : (A - A / 10 * 10).toInt ≠ 0 := fun e => c2 (Int64.toInt_inj.mp (e.trans rfl))
        exact ⟨fun h => absurd h (by decide), fun h => absurd h (by omega)⟩
  constructor
  · intro h
    have h0 := hc.mp h
    rw [hy] at h0
    apply Int32.toInt_inj.mp
    rw [Int64.toInt_toInt32, nI_toInt (by omega), hy, hgo, tw_bm32 (by omega) (by omega)]
    omega
  · intro h
    have h0 : ¬ 0 ≤ (A - A / 10 * 10).toInt := fun z => h (hc.mpr z)
    rw [hy] at h0
    apply Int32.toInt_inj.mp
    rw [Int64.toInt_toInt32, nI_toInt (by omega), Int64.toInt_add, hy, h10, hgo, tw_bm64 (by omega) (by omega), tw_bm32 (by omega) (by omega)]
    omega
theorem tw_go_lt (s : Nat) (x : Int32) : tw_go s x < 10 := by unfold tw_go; omega
/-- what a WISH may name -/
def tw_evok (W : tw_Wo) (N : tw_N) (o : Nat) (e : tw_Ev) : Prop := (e.1 = 0 ∨ e.1 = 2 → e.2.1 < tw_vc W (N.2.1 o)) ∧ (e.1 = 2 → ∀ q, e.2.2.2.1 = some q → q < N.1 ∧ e.2.2.2.2 < tw_vc W (N.2.1 q)) ∧ (e.1 = 0 ∨ e.1 = 1 ∨ e.1 = 2 ∨ e.1 = 4)
section TM6
variable {W : tw_Wo} {N : tw_N} {E : tw_E} {R : tw_R}
theorem tw_oth_kd {o k n q i : Nat} (h : (tw_others N R o k n)[i]? = some q) : q < n ∧ N.2.1 q = k := by
  obtain ⟨h1, h2⟩ := tw_oth_lt (List.mem_of_getElem? h)
  unfold tw_oth at h2
  simp only [Bool.and_eq_true, beq_iff_eq] at h2
  exact ⟨h1, h2.2.2.1⟩
theorem tw_wish_ok {o : Nat} {w : tw_Wi} (h : tw_wiok W (tw_vc W (N.2.1 o)) w) (n : Nat) : tw_evok W N o (tw_wish N E R o w n).1 := by
  obtain ⟨s, v, k, u, c⟩ := w
  obtain ⟨h1, h2, h3, -⟩ := h
  dsimp only at h1 h2 h3
  have hs : s = 0 ∨ s = 1 ∨ s = 2 ∨ s = 3 ∨ s = 4 := by omega
  rcases hs with rfl | rfl | rfl | rfl | rfl
  · exact ⟨fun _ => h2 (Or.inl rfl), fun h => absurd h (show ¬ (0 : Nat) = 2 by decide), Or.inl rfl⟩
  · exact ⟨fun h => absurd h (show ¬ ((1 : Nat) = 0 ∨ (1 : Nat) = 2) by decide), fun h => absurd h (show ¬ (1 : Nat) = 2 by decide), Or.inr (Or.inl rfl)⟩
  · refine ⟨fun _ => h2 (Or.inr (Or.inl rfl)), fun _ q hq => ?_, Or.inr (Or.inr (Or.inl rfl))⟩
    obtain ⟨a, b⟩ := tw_oth_kd hq
    exact ⟨a, by rw [b]; exact (h3 (Or.inl rfl)).2⟩
  · refine ⟨fun _ => h2 (Or.inr (Or.inr rfl)), fun _ q hq => ?_, Or.inr (Or.inr (Or.inl rfl))⟩
    have hq' : (tw_pick N E R o k (tw_ev N E R o c ([], false, n)).2.2).1 = some q := hq
    unfold tw_pick at hq'
    split at hq'
    · cases hq'
    · obtain ⟨a, b⟩ := tw_oth_kd hq'
      exact ⟨a, by rw [b]; exact (h3 (Or.inr rfl)).2⟩
  · exact ⟨fun h => absurd h (show ¬ ((4 : Nat) = 0 ∨ (4 : Nat) = 2) by decide), fun h => absurd h (show ¬ (4 : Nat) = 2 by decide), Or.inr (Or.inr (Or.inr rfl))⟩
theorem tw_wishes_ok {o : Nat} : ∀ (ws : List tw_Wi), (∀ w ∈ ws, tw_wiok W (tw_vc W (N.2.1 o)) w) → ∀ n, ∀ e ∈ (tw_wishes N E R o ws n).1, tw_evok W N o e
  | [], _, _, _, h => by cases h
  | w :: ws, h, n, e, he => by
    rw [tw_wishes] at he
    rcases List.mem_cons.mp he with rfl | he
    · exact tw_wish_ok (h w List.mem_cons_self) n
    · exact tw_wishes_ok ws (fun w hw => h w (List.mem_cons_of_mem _ hw)) _ e he
theorem tw_rules_ok {o : Nat} : ∀ (us : List tw_Ru), (∀ u ∈ us, tw_ruok W (tw_vc W (N.2.1 o)) u) → ∀ n, ∀ e ∈ tw_rules N E R o us n, tw_evok W N o e
  | [], _, _, _, h => by cases h
  | u :: us, h, n, e, he => by
    rw [tw_rules] at he
    rcases List.mem_append.mp he with he | he
    · unfold tw_rule at he
      split at he
      · exact tw_wishes_ok u.2 (h u List.mem_cons_self).2.2.1 _ e he
      · cases he
    · exact tw_rules_ok us (fun u hu => h u (List.mem_cons_of_mem _ hu)) _ e he
theorem tw_rules_len {o : Nat} : ∀ (us : List tw_Ru), (∀ u ∈ us, tw_ruok W (tw_vc W (N.2.1 o)) u) → ∀ n, (tw_rules N E R o us n).length ≤ 6 * us.length
  | [], _, _ => Nat.le_refl _
  | u :: us, h, n => by
    rw [tw_rules, List.length_append, List.length_cons]
    have h1 := tw_rule_len (N := N) (E := E) (R := R) o u n
    have h2 := (h u List.mem_cons_self).2.2.2
    have h3 := tw_rules_len us (fun u hu => h u (List.mem_cons_of_mem _ hu)) (tw_rule N E R o u n).2
    omega
theorem tw_evs_ok {o : Nat} (hw : tw_wok W) (hk : N.2.1 o < W.2.length) : (∀ e ∈ tw_evs W N E R o, tw_evok W N o e) ∧ (tw_evs W N E R o).length ≤ 48 := by
  obtain ⟨w1, w2, w3⟩ := hw.2.2 _ hk
  unfold tw_evs
  by_cases h : R.2.2 o = true
  · rw [if_pos h]; exact ⟨fun e he => by (cases he), Nat.zero_le _⟩
  · rw [if_neg h]
    have := tw_rules_len (N := N) (E := E) (R := R) (o := o) (tw_kind W (N.2.1 o)).2 w3 0
    exact ⟨tw_rules_ok _ w3 0, by omega⟩
def tm_S6 (q j : Nat) : Prop := 135 ≤ q ∧ q ≤ 137
theorem tm_env.vars {σ : rx_St} (he : tm_env W N E R σ) {o v : Nat} (ho : o < N.1) (hv : v < tw_vc W (N.2.1 o)) (x : Int32) : tm_env W N E (tw_updN R.1 (6 * o + v) x, R.2.1, R.2.2) (rx_si σ 135 (6 * o + v) x) := by
  obtain ⟨⟨h1, h2⟩, h3, h4, h5, h6, h7⟩ := he
  refine ⟨⟨by rw [tw_r1n _ _ (by omega)]; exact h1, h2⟩, fun q hq => ?_, fun i hi => by rw [tw_r1n _ _ (by omega)]; exact h4 i hi, by rw [tw_r1n _ _ (by omega)]; exact h5, by rw [tw_r1n _ _ (by omega)]; exact h6, h7⟩
  obtain ⟨⟨g1, g2⟩, g3, ⟨g4, g5⟩, g6, g7⟩ := h3 q hq
  refine ⟨⟨by rw [tw_r1n _ _ (by omega)]; exact g1, g2⟩, by rw [tw_r1n _ _ (by omega)]; exact g3, ⟨by rw [tw_r1n _ _ (by omega)]; exact g4, g5⟩, by rw [tw_r1n _ _ (by omega)]; exact g6, fun v' hv' => ?_⟩
  rw [tw_r1]
  show _ = tw_updN R.1 (6 * o + v) x (6 * q + v')
  unfold tw_updN
  by_cases e : 6 * q + v' = 6 * o + v
  · rw [if_pos ⟨rfl, e⟩, if_pos e]
  · rw [if_neg (fun z => e z.2), if_neg e]
    exact g7 v' hv'
theorem tm_env.go {σ : rx_St} (he : tm_env W N E R σ) {o s : Nat} (ho : o < N.1) (hs : s < 10) : tm_env W N E (R.1, tw_updN R.2.1 o s, R.2.2) (rx_si σ 136 o (nI s)) := by
  obtain ⟨⟨h1, h2⟩, h3, h4, h5, h6, h7⟩ := he
  refine ⟨⟨by rw [tw_r1n _ _ (by omega)]; exact h1, h2⟩, fun q hq => ?_, fun i hi => by rw [tw_r1n _ _ (by omega)]; exact h4 i hi, by rw [tw_r1n _ _ (by omega)]; exact h5, by rw [tw_r1n _ _ (by omega)]; exact h6, h7⟩
  obtain ⟨⟨g1, g2⟩, g3, ⟨g4, g5⟩, g6, g7⟩ := h3 q hq
  refine ⟨⟨by rw [tw_r1n _ _ (by omega)]; exact g1, g2⟩, by rw [tw_r1n _ _ (by omega)]; exact g3, ?_, by rw [tw_r1n _ _ (by omega)]; exact g6, fun v' hv' => by rw [tw_r1n _ _ (by omega)]; exact g7 v' hv'⟩
  rw [tw_r1]
  show (if 136 = 136 ∧ q = o then nI s else σ.1 136 q) = nI (tw_updN R.2.1 o s q) ∧ tw_updN R.2.1 o s q < 10
  unfold tw_updN
  by_cases e : q = o
  · rw [if_pos ⟨rfl, e⟩, if_pos e]; exact ⟨rfl, hs⟩
  · rw [if_neg (fun z => e z.2), if_neg e]; exact ⟨g4, g5⟩
theorem tm_env.quit {σ : rx_St} (he : tm_env W N E R σ) {o : Nat} (ho : o < N.1) : tm_env W N E (R.1, R.2.1, tw_updN R.2.2 o true) (rx_si σ 137 o (nI 1)) := by
  obtain ⟨⟨h1, h2⟩, h3, h4, h5, h6, h7⟩ := he
  refine ⟨⟨by rw [tw_r1n _ _ (by omega)]; exact h1, h2⟩, fun q hq => ?_, fun i hi => by rw [tw_r1n _ _ (by omega)]; exact h4 i hi, by rw [tw_r1n _ _ (by omega)]; exact h5, by rw [tw_r1n _ _ (by omega)]; exact h6, h7⟩
  obtain ⟨⟨g1, g2⟩, g3, ⟨g4, g5⟩, g6, g7⟩ := h3 q hq
  refine ⟨⟨by rw [tw_r1n _ _ (by omega)]; exact g1, g2⟩, by rw [tw_r1n _ _ (by omega)]; exact g3, ⟨by rw [tw_r1n _ _ (by omega)]; exact g4, g5⟩, ?_, fun v' hv' => by rw [tw_r1n _ _ (by omega)]; exact g7 v' hv'⟩
  rw [tw_r1]
  show (if 137 = 137 ∧ q = o then nI 1 else σ.1 137 q) = tw_B (tw_updN R.2.2 o true q)
  unfold tw_updN
  by_cases e : q = o
  · rw [if_pos ⟨rfl, e⟩, if_pos e]; rfl
  · rw [if_neg (fun z => e z.2), if_neg e]; exact g6
end TM6
