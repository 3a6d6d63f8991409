/-! UNDOING: what is kept by frames; what changes; bits -/
section TQ8
variable {w : Nat} {W : tw_Wo} {lv : Nat} {N : tw_N} {pl : Nat → Nat} {bg : Nat → Int32} {dl : Bool} {st : Nat → Int32}
/-- the places that tq_T reads -/
def tq_TP (q j : Nat) : Prop := 7 ≤ q ∧ q ≤ 34 ∨ q = 38 ∧ (j = 2 ∨ j = 7) ∨ 39 ≤ q ∧ q ≤ 43 ∨ q = 87 ∧ (j = 18 ∨ j = 60 ∨ j = 65) ∨ 95 ≤ q ∧ q ≤ 122 ∨ 129 ≤ q ∧ q ≤ 133
theorem tq_T.fg {σ σ' : rx_St} (h : tq_T w W lv N pl bg dl st σ) (f : ∀ q j, tq_TP q j → σ'.1 q j = σ.1 q j) : tq_T w W lv N pl bg dl st σ' := by
  obtain ⟨⟨h1, h2, h3⟩, ⟨h4, h5, h6⟩, h7⟩ := h
  have hs := h4.2.2.2.1
  exact ⟨⟨h1.fr (fun q j a b c => f q j (by unfold tq_TP; omega)), h2.fr (fun q j a b => f q j (by unfold tq_TP; omega)), fun i hi => by rw [f _ _ (by unfold tq_TP; omega)]; exact h3 i hi⟩, ⟨h4.fr (fun q j a b => f q j (by unfold tq_TP; omega)) (f _ _ (by unfold tq_TP; omega)) (f _ _ (by unfold tq_TP; omega)), h5.fr (fun q j a b => f q j (by unfold tq_TP; omega)) (f _ _ (by unfold tq_TP; omega)), fun i hi => by rw [f _ _ (by unfold tq_TP; omega)]; exact h6 i hi⟩, h7⟩
end TQ8
/-! VARS that the KIND hasn't are but held -/
theorem tw_vc6 {W : tw_Wo} (hW : tw_wok W) (k : Nat) : tw_vc W k ≤ 6 := by
  by_cases h : k < W.2.length
  · exact (hW.2.2 k h).1
  · unfold tw_vc tw_kind
    rw [List.getElem?_eq_none (by omega)]
    exact Nat.zero_le _
theorem tw_do_ext {W : tw_Wo} {N : tw_N} {o q v : Nat} {e : tw_Ev} {R : tw_R} (hW : tw_wok W) (hok : tw_evok W N o e) (hv : tw_vc W (N.2.1 q) ≤ v) (hv6 : v < 6) : (tw_do o R e).1 (6 * q + v) = R.1 (6 * q + v) := by
  obtain ⟨s, a, x, to, u⟩ := e
  obtain ⟨h1, h2, h3⟩ := hok
  simp only at h1 h2 h3
  have ne : ∀ p b, b < tw_vc W (N.2.1 p) → ¬ (6 * q + v = 6 * p + b) := fun p b hb e => by
    have := tw_vc6 hW (N.2.1 p)
    have : q = p := by omega
    subst this
    omega
  rcases h3 with rfl | rfl | rfl | rfl
  · show tw_updN R.1 (6 * o + a) _ (6 * q + v) = _
    unfold tw_updN
    rw [if_neg (ne o a (h1 (Or.inl rfl)))]
  · rfl
  · cases to with
    | none => rfl
    | some p =>
      show (if tw_min x (R.1 (6 * o + a)) < nI 1 then R else if R.2.2 p = true then R
        else (tw_updN (tw_updN R.1 (6 * o + a) (R.1 (6 * o + a) - tw_min x (R.1 (6 * o + a)))) (6 * p + u) (tw_updN R.1 (6 * o + a) (R.1 (6 * o + a) - tw_min x (R.1 (6 * o + a))) (6 * p + u) + tw_min x (R.1 (6 * o + a))), R.2.1, R.2.2)).1 (6 * q + v) = _
      by_cases c1 : tw_min x (R.1 (6 * o + a)) < nI 1
      · rw [if_pos c1]
      · rw [if_neg c1]
        by_cases c2 : R.2.2 p = true
        · rw [if_pos c2]
        · rw [if_neg c2]
          show tw_updN (tw_updN R.1 (6 * o + a) _) (6 * p + u) _ (6 * q + v) = _
          unfold tw_updN
          rw [if_neg (ne p u (h2 rfl p rfl).2), if_neg (ne o a (h1 (Or.inr rfl)))]
  · rfl
theorem tw_dos_ext {W : tw_Wo} {N : tw_N} {o q v : Nat} (hW : tw_wok W) (hv : tw_vc W (N.2.1 q) ≤ v) (hv6 : v < 6) : ∀ (es : List tw_Ev) (R : tw_R), (∀ e ∈ es, tw_evok W N o e) → (tw_dos o es R).1 (6 * q + v) = R.1 (6 * q + v)
  | [], _, _ => rfl
  | e :: es, R, h => by
    rw [tw_dos, tw_dos_ext hW hv hv6 es _ (fun e he => h e (List.mem_cons_of_mem _ he)), tw_do_ext hW (h e List.mem_cons_self) hv hv6]
theorem tw_done_ext {W : tw_Wo} {N : tw_N} {ev : Nat → List tw_Ev} {out : Int32} {q v : Nat} (hW : tw_wok W) (hv : tw_vc W (N.2.1 q) ≤ v) (hv6 : v < 6) : ∀ (os : List Nat) (R : tw_R), (∀ o ∈ os, ∀ e ∈ ev o, tw_evok W N o e) → (tw_done ev out os R).1 (6 * q + v) = R.1 (6 * q + v)
  | [], _, _ => rfl
  | o :: os, R, h => by
    rw [tw_done, tw_done_ext hW hv hv6 os _ (fun x hx => h x (List.mem_cons_of_mem _ hx))]
    by_cases c : nI o = out
    · rw [if_pos c]
    · rw [if_neg c, tw_dos_ext hW hv hv6 _ _ (h o List.mem_cons_self)]
theorem tw_tick_ext {W : tw_Wo} {N : tw_N} {dl : Bool} {E : tw_E} {out : Int32} {R : tw_R} {q v : Nat} (hW : tw_wok W) (hk : ∀ o, o < N.1 → N.2.1 o < W.2.length) (hv : tw_vc W (N.2.1 q) ≤ v) (hv6 : v < 6) : (tw_tick W N dl E out R).1 (6 * q + v) = tw_hold (R.1 (6 * q + v)) := by
  unfold tw_tick tw_held
  show tw_hold _ = _
  rw [tw_done_ext hW hv hv6 _ _ (fun o ho => (tw_evs_ok (N := N) (E := E) (R := R) hW (hk o ((tw_ord_lt (l := tw_dl dl E) N.1).1 o (List.mem_reverse.mp ho)))).1)]
theorem tw_run_ext {W : tw_Wo} {N : tw_N} {dl : Bool} {st : Nat → Int32} {seed : Int32} {out out' : Nat → Int32} {R : tw_R} {q v : Nat} (hW : tw_wok W) (hk : ∀ o, o < N.1 → N.2.1 o < W.2.length) (hv : tw_vc W (N.2.1 q) ≤ v) (hv6 : v < 6) : ∀ t, (tw_run W N dl st seed out R t).1 (6 * q + v) = (tw_run W N dl st seed out' R t).1 (6 * q + v)
  | 0 => rfl
  | t + 1 => by
    rw [tw_run, tw_run, tw_tick_ext hW hk hv hv6, tw_tick_ext hW hk hv hv6, tw_run_ext hW hk hv hv6 t]
/-! what differs, and since when -/
def tw_outs (t0 : Nat) (x : Int32) (t : Nat) : Int32 := if t = t0 then x else -nI 1
def tw_df (vc : Nat) (R R' : tw_R) (q : Nat) : Bool := !(R.2.2 q == R'.2.2 q && (R.2.1 q == R'.2.1 q && (List.range vc).all (fun v => decide (R.1 (6 * q + v) = R'.1 (6 * q + v)))))
theorem tw_df_f {vc : Nat} {R R' : tw_R} {q : Nat} : tw_df vc R R' q = false ↔ R.2.2 q = R'.2.2 q ∧ R.2.1 q = R'.2.1 q ∧ ∀ v, v < vc → R.1 (6 * q + v) = R'.1 (6 * q + v) := by
  unfold tw_df
  simp only [Bool.not_eq_false', Bool.and_eq_true, beq_iff_eq, List.all_eq_true, List.mem_range, decide_eq_true_eq]
def tw_fc (D : Nat → Nat → Bool) (q : Nat) : Nat → Option Nat
  | 0 => none
  | t + 1 => match tw_fc D q t with
    | some x => some x
    | none => if D t q = true then some t else none
theorem tw_fc_s {D : Nat → Nat → Bool} {q t x : Nat} (h : tw_fc D q t = some x) : tw_fc D q (t + 1) = some x := by
  rw [tw_fc, h]
theorem tw_fc_n {D : Nat → Nat → Bool} {q t : Nat} (h : tw_fc D q t = none) : tw_fc D q (t + 1) = if D t q = true then some t else none := by
  rw [tw_fc, h]
theorem tw_fc_lt {D : Nat → Nat → Bool} {q : Nat} : ∀ t x, tw_fc D q t = some x → x < t
  | 0, _, h => by cases h
  | t + 1, x, h => by
    cases e : tw_fc D q t with
    | some y =>
      rw [tw_fc_s e] at h
      have := tw_fc_lt t y e
      have e2 := Option.some.inj h
      omega
    | none =>
      rw [tw_fc_n e] at h
      by_cases c : D t q = true
      · rw [if_pos c] at h; cases h; omega
      · rw [if_neg c] at h; cases h
/-- as it is kept in a row -/
def tw_en (m : Int32) (o : Option Nat) : Int32 := match o with
  | none => m
  | some x => nI x
theorem tw_en_m {m : Int32} {o : Option Nat} (hm : m = -nI 1 ∨ m = -nI 2) (ho : ∀ x, o = some x → x < 1000) : (tw_en m o = m) = (o = none) := by
  cases o with
  | none => exact propext ⟨fun _ => rfl, fun _ => rfl⟩
  | some x =>
    refine propext ⟨fun e => ?_, fun e => by cases e⟩
    have h1 : nI x = m := e
    have := nI_pos' (n := x) (by have := ho x rfl; omega)
    rw [h1] at this
    rcases hm with rfl | rfl
    · exact absurd this (by decide)
    · exact absurd this (by decide)
theorem tw_en_l {m : Int32} {o : Option Nat} (hm : m = -nI 1 ∨ m = -nI 2) (ho : ∀ x, o = some x → x < 1000) : (tw_en m o < (0 : Int32)) = (o = none) := by
  cases o with
  | none =>
    refine propext ⟨fun _ => rfl, fun _ => ?_⟩
    show m < (0 : Int32)
    rcases hm with rfl | rfl
    · decide
    · decide
  | some x =>
    refine propext ⟨fun e => ?_, fun e => by cases e⟩
    have h1 : nI x < nI 0 := e
    have := ho x rfl
    rw [tw_lt (by omega) (by omega)] at h1
    exact absurd h1 (Nat.not_lt_zero _)
/-! bits -/
def tw_bs (P : Nat → Bool) : Nat → Int32
  | 0 => nI 0
  | n + 1 => if P n = true then tw_bs P n ||| rx_ishl (1 : Int32) (nI n) else tw_bs P n
theorem tw_bs_or {P Q : Nat → Bool} (h : ∀ q, P q = true → Q q = true) : ∀ n, tw_bs P n ||| tw_bs Q n = tw_bs Q n
  | 0 => by rw [tw_bs, tw_bs]; exact Int32.or_self
  | n + 1 => by
    have ih := tw_bs_or h n
    rw [tw_bs, tw_bs]
    by_cases c : P n = true
    · rw [if_pos c, if_pos (h n c), Int32.or_assoc, ← Int32.or_assoc (rx_ishl (1 : Int32) (nI n)) (tw_bs Q n), Int32.or_comm (rx_ishl (1 : Int32) (nI n)) (tw_bs Q n), Int32.or_assoc (tw_bs Q n), Int32.or_self, ← Int32.or_assoc, ih]
    · rw [if_neg c]
      by_cases d : Q n = true
      · rw [if_pos d, ← Int32.or_assoc, ih]
      · rw [if_neg d, ih]
theorem tw_bs_e {P Q : Nat → Bool} : ∀ n, (∀ q, q < n → P q = Q q) → tw_bs P n = tw_bs Q n
  | 0, _ => rfl
  | n + 1, h => by rw [tw_bs, tw_bs, tw_bs_e n (fun q hq => h q (by omega)), h n (by omega)]
theorem tw_ao {x y z : Int32} : (x ||| y) &&& z = (x &&& z) ||| (y &&& z) := by
  simp [← Int32.toBitVec_inj, BitVec.and_or_distrib_right]
set_option maxRecDepth 100000 in
theorem tw_b1t : ∀ q, q < 20 → ∀ o, o < 20 → (rx_ishr (rx_ishl (1 : Int32) (nI q)) (nI o)) &&& (1 : Int32) = if o = q then nI 1 else nI 0 := by decide +kernel
theorem tw_bt {P : Nat → Bool} {o : Nat} (ho : o < 20) : ∀ n, n ≤ 20 → ((rx_ishr (tw_bs P n) (nI o)) &&& (1 : Int32)) = if o < n ∧ P o = true then nI 1 else nI 0
  | 0, _ => by
    rw [if_neg (fun h => absurd h.1 (Nat.not_lt_zero _)), tw_bs]
    unfold rx_ishr
    rw [show nI 0 = (0 : Int32) from rfl, Int32.zero_shiftRight, Int32.zero_and]
  | n + 1, h => by
    have ih := tw_bt (P := P) ho n (by omega)
    rw [tw_bs]
    by_cases c : P n = true
    · rw [if_pos c]
      have e : rx_ishr (tw_bs P n ||| rx_ishl (1 : Int32) (nI n)) (nI o) = rx_ishr (tw_bs P n) (nI o) ||| rx_ishr (rx_ishl (1 : Int32) (nI n)) (nI o) := by
        unfold rx_ishr
        exact Int32.shiftRight_or
      rw [e, tw_ao, ih, tw_b1t n (by omega) o ho]
      by_cases on : o = n
      · subst on
        rw [if_neg (fun h => absurd h.1 (by omega)), if_pos rfl, if_pos ⟨by omega, c⟩]
        decide
      · rw [if_neg on]
        by_cases d : o < n ∧ P o = true
        · rw [if_pos d, if_pos ⟨by omega, d.2⟩]; decide
        · rw [if_neg d, if_neg (fun h => d ⟨by omega, h.2⟩)]; decide
    · rw [if_neg c, ih]
      by_cases on : o = n
      · subst on
        rw [if_neg (fun h => absurd h.1 (by omega)), if_neg (fun h => c h.2)]
      · by_cases d : o < n ∧ P o = true
        · rw [if_pos d, if_pos ⟨by omega, d.2⟩]
        · rw [if_neg d, if_neg (fun h => d ⟨by omega, h.2⟩)]
