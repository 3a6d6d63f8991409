/-! THE CLASS: RULES; a ONE chooses -/
section TC5
variable {r w : Nat} {W : tw_Wo} {N : tw_N} {E : tw_E} {R : tw_R}
theorem tc_ok.f3 {cnt : Bool} {o o2 : Nat} {σ σ' : rx_St} (h : tc_ok r w cnt W N E R o σ) (f : tw_fr (tc_S3 o2) σ σ') : tc_ok r w cnt W N E R o σ' :=
  ⟨h.1.f2 (f.mn tc_S32), by rw [f.i (by unfold tc_S3 tc_S1; omega)]; exact h.2.1, fun z => (h.2.2 z).fr (fun q j a b => f.i (by unfold tc_S3 tc_S1; omega))⟩
/-- where the sign of a WISH stands -/
def tc_pe (p : Nat) (x : tw_Wi) : Nat := if x.1 = 4 then p else p + x.2.2.2.2.length
def tc_wi (w : Nat) (cnt : Bool) (σ : rx_St) (p : Nat) (x : tw_Wi) (p' : Nat) : Prop :=
  (x.1 ≠ 4 → tc_code w cnt σ p x.2.2.2.2) ∧ σ.1 (18 + 14 * w) (tc_pe p x) = nI (tc_wop x.1) ∧ (x.1 = 0 ∨ x.1 = 2 ∨ x.1 = 3 → σ.1 (19 + 14 * w) (tc_pe p x) = nI x.2.1) ∧ (x.1 = 2 ∨ x.1 = 3 → σ.1 (20 + 14 * w) (tc_pe p x) = nI (x.2.2.1 * 6 + x.2.2.2.1)) ∧ p' = tc_pe p x + 1
theorem tc_wi.fr {cnt : Bool} {σ σ' : rx_St} {p p' : Nat} {x : tw_Wi} (h : ∀ q j, 18 + 14 * w ≤ q → q ≤ 20 + 14 * w → σ'.1 q j = σ.1 q j) (g : tc_wi w cnt σ p x p') : tc_wi w cnt σ' p x p' := by
  obtain ⟨g1, g2, g3, g4, g5⟩ := g
  exact ⟨fun z => tc_code.fr h _ _ (g1 z), by rw [h _ _ (by omega) (by omega)]; exact g2, fun z => by rw [h _ _ (by omega) (by omega)]; exact g3 z, fun z => by rw [h _ _ (by omega) (by omega)]; exact g4 z, g5⟩
def tc_wis (w : Nat) (cnt : Bool) (σ : rx_St) : Nat → List tw_Wi → Nat → Prop
  | p, [], e => p = e
  | p, x :: xs, e => ∃ p1, tc_wi w cnt σ p x p1 ∧ tc_wis w cnt σ p1 xs e
theorem tc_wis.fr {cnt : Bool} {σ σ' : rx_St} {e : Nat} (h : ∀ q j, 18 + 14 * w ≤ q → q ≤ 20 + 14 * w → σ'.1 q j = σ.1 q j) : ∀ (xs : List tw_Wi) (p : Nat), tc_wis w cnt σ p xs e → tc_wis w cnt σ' p xs e
  | [], _, g => g
  | _ :: xs, _, ⟨p1, g1, g2⟩ => ⟨p1, g1.fr h, tc_wis.fr h xs p1 g2⟩
theorem tc_pe_le (p : Nat) (x : tw_Wi) : p ≤ tc_pe p x := by
  unfold tc_pe
  by_cases h : x.1 = 4
  · rw [if_pos h]; exact Nat.le_refl _
  · rw [if_neg h]; omega
theorem tc_wis_le {cnt : Bool} {σ : rx_St} {e : Nat} : ∀ (xs : List tw_Wi) (p : Nat), tc_wis w cnt σ p xs e → p ≤ e
  | [], _, g => Nat.le_of_eq g
  | x :: xs, p, ⟨p1, g1, g2⟩ => by
    have h1 := tc_wis_le xs p1 g2
    have h2 := tc_pe_le p x
    have h3 := g1.2.2.2.2
    omega
def tc_cond (w : Nat) (cnt : Bool) (σ : rx_St) (e p : Nat) (ls : List tw_Lit) (body : Nat) : Prop :=
  match ls with
  | [] => p = body
  | l :: ls => ∃ t p1, tc_lit w cnt σ p l t p1 ∧ t ≤ e ∧ tc_lits w cnt σ e p1 ls t body
theorem tc_cond.fr {cnt : Bool} {σ σ' : rx_St} {e p body : Nat} (h : ∀ q j, 18 + 14 * w ≤ q → q ≤ 20 + 14 * w → σ'.1 q j = σ.1 q j) {ls : List tw_Lit} (g : tc_cond w cnt σ e p ls body) : tc_cond w cnt σ' e p ls body := by
  match ls, g with
  | [], g => exact g
  | l :: ls, ⟨t, p1, g1, g2, g3⟩ => exact ⟨t, p1, g1.fr h, g2, tc_lits.fr h ls p1 t body g3⟩
def tc_rule (w : Nat) (cnt : Bool) (σ : rx_St) (p : Nat) (u : tw_Ru) (e : Nat) : Prop := ∃ body, tc_cond w cnt σ e p u.1 body ∧ tc_wis w cnt σ body u.2 e
def tc_rules (w : Nat) (cnt : Bool) (σ : rx_St) : Nat → List tw_Ru → Nat → Prop
  | p, [], en => p = en
  | p, u :: us, en => ∃ e, tc_rule w cnt σ p u e ∧ tc_rules w cnt σ e us en
theorem tc_rules.fr {cnt : Bool} {σ σ' : rx_St} {en : Nat} (h : ∀ q j, 18 + 14 * w ≤ q → q ≤ 20 + 14 * w → σ'.1 q j = σ.1 q j) : ∀ (us : List tw_Ru) (p : Nat), tc_rules w cnt σ p us en → tc_rules w cnt σ' p us en
  | [], _, g => g
  | u :: us, _, ⟨e, ⟨b, g1, g2⟩, g3⟩ => ⟨e, ⟨b, g1.fr h, tc_wis.fr h u.2 b g2⟩, tc_rules.fr h us e g3⟩
theorem tc_lsz_le {cnt : Bool} {σ : rx_St} {e : Nat} : ∀ (ls : List tw_Lit) (p t body : Nat), tc_lits w cnt σ e p ls t body → tc_lsz ls + 2 * p ≤ 2 * body
  | [], p, t, body, g => by
    have := g.1
    show 0 + 2 * p ≤ 2 * body
    omega
  | l :: ls, p, t, body, ⟨g1, g2⟩ => by
    rw [tc_lsz]
    cases h : l.1 with
    | true =>
      obtain ⟨-, t', p1, b1, b2, b3⟩ := g1 h
      have := tc_lsz_le ls p1 t' body b3
      have := b1.2.2.2.1
      omega
    | false =>
      obtain ⟨p1, b1, b3⟩ := g2 h
      have := tc_lsz_le ls p1 t body b3
      have := b1.2.2.2.1
      omega
theorem tc_cond_le {cnt : Bool} {σ : rx_St} {e p body : Nat} {ls : List tw_Lit} (g : tc_cond w cnt σ e p ls body) : p ≤ body := by
  match ls, g with
  | [], g => exact Nat.le_of_eq g
  | l :: ls, ⟨t, p1, g1, g2, g3⟩ =>
    have := tc_lits_le ls p1 t body g3
    have := g1.2.2.2.1
    omega
theorem tc_rules_le {cnt : Bool} {σ : rx_St} {en : Nat} : ∀ (us : List tw_Ru) (p : Nat), tc_rules w cnt σ p us en → p ≤ en
  | [], _, g => Nat.le_of_eq g
  | u :: us, p, ⟨e, ⟨b, g1, g2⟩, g3⟩ => by
    have h1 := tc_cond_le g1
    have h2 := tc_wis_le u.2 b g2
    have h3 := tc_rules_le us e g3
    omega
theorem tc_cond_run {cnt : Bool} {o en e body p m lots fuel : Nat} {σ : rx_St} (hw : w ≤ 1) (hon : o < N.1) (hen : en ≤ 500) (he : e ≤ en) (hbe : body ≤ e) (Q : rx_St → Prop) {ls : List tw_Lit} (hk : tc_ok r w cnt W N E R o σ) (hi : tc_inv σ [] false lots) (hc : tc_cond w cnt σ e p ls body) (hok : ∀ l ∈ ls, tw_litok W (tw_vc W (N.2.1 o)) l) (hor : ∀ l ls', ls = l :: ls' → l.1 = true) (hf : m + 2 * (body - p) ≤ fuel)
    (cont : ∀ m' σ', m ≤ m' → tw_fr tc_S1 σ σ' → tc_inv σ' [] false (tw_holds N E R o ls lots).2 → tw_ok (f_cho_choose_78 r w m' (nI en) (nI (if (tw_holds N E R o ls lots).1 = true then body else e)) σ') Q) :
    tw_ok (f_cho_choose_78 r w fuel (nI en) (nI p) σ) Q := by
  match ls, hc, hok, hor, cont with
  | [], hc, _, _, cont =>
    have hp : p = body := hc
    rw [hp]
    exact cont fuel σ (by omega) tw_fr.rf hi
  | l :: ls, ⟨t, p1, h1, h2, h3⟩, hok, hor, cont =>
    have ho1 := hor l ls rfl
    have hh : tw_holds N E R o (l :: ls) lots = tw_lits N E R o ls (tw_lit N E R o l lots).1 (tw_lit N E R o l lots).2 := by
      unfold tw_holds
      rw [if_neg (by simp), tw_lits, ho1, if_neg (by decide), if_pos (by rfl)]
    rw [hh] at cont
    have hz := tc_lsz_le ls p1 t body h3
    have hb := tc_lits_le ls p1 t body h3
    have hp1 := h1.2.2.2.1
    obtain ⟨m2, hm2⟩ : ∃ m2, fuel = m2 + 1 + l.2.2.2.2.length + l.2.2.2.1.length := ⟨fuel - 1 - l.2.2.2.2.length - l.2.2.2.1.length, by omega⟩
    rw [hm2]
    refine tc_lit_run hw hon hen Q hk hi h1 (by omega) (by omega) (hok l List.mem_cons_self) (fun σ1 f1 i1 => ?_)
    exact tc_lits_run (m := m) hw hon hen he hbe Q ls p1 t _ _ σ1 m2 (hk.fr f1) i1 (tc_lits.fr (fun q j a b => f1.i (by unfold tc_S1; omega)) ls p1 t body h3) h2 (fun l hl => hok l (List.mem_cons_of_mem _ hl)) (by omega) (fun m' σ' h f i => cont m' σ' h (f1.tr f) i)
theorem tc_wis_run {cnt : Bool} {o en e m : Nat} (hw : w ≤ 1) (hon : o < N.1) (hen : en ≤ 500) (he : e ≤ en) (Q : rx_St → Prop) : ∀ (xs : List tw_Wi) (p : Nat) (done : List tw_Ev) (lots : Nat) (σ : rx_St) (fuel : Nat),
    tc_ok r w cnt W N E R o σ → tc_inv σ [] false lots → tc_wis w cnt σ p xs e → σ.1 45 o = nI done.length → done.length + xs.length ≤ 48 → tc_evs σ (48 * o) done → (∀ x ∈ xs, tw_wiok W (tw_vc W (N.2.1 o)) x) → m + 2 * (e - p) ≤ fuel →
    (∀ m' σ', m ≤ m' → tw_fr (tc_S3 o) σ σ' → tc_inv σ' [] false (tw_wishes N E R o xs lots).2 → σ'.1 45 o = nI (done ++ (tw_wishes N E R o xs lots).1).length → tc_evs σ' (48 * o) (done ++ (tw_wishes N E R o xs lots).1) → tw_ok (f_cho_choose_78 r w m' (nI en) (nI e) σ') Q) →
    tw_ok (f_cho_choose_78 r w fuel (nI en) (nI p) σ) Q := by
  intro xs
  induction xs with
  | nil =>
    intro p done lots σ fuel hk hi hc h45 h48 hev hok hf cont
    have hp : p = e := hc
    rw [hp]
    rw [show tw_wishes N E R o [] lots = ([], lots) from rfl, List.append_nil] at cont
    exact cont fuel σ (by omega) tw_fr.rf hi h45 hev
  | cons x xs ih =>
    intro p done lots σ fuel hk hi hc h45 h48 hev hok hf cont
    obtain ⟨p1, ⟨c1, c2, c3, c4, c5⟩, hc2⟩ := hc
    rw [List.length_cons] at h48
    have hx := hok x List.mem_cons_self
    obtain ⟨x1, x2, x3, x4⟩ := hx
    have hpe := tc_pe_le p x
    have hp1 := tc_wis_le xs p1 hc2
    have hd := hk.1.2.1 o hon
    have hwo := hk.1.2.2.2.2.2.1
    have hvc := hwo.2.2 _ hd.1.2
    have hwl : tw_wishes N E R o (x :: xs) lots = ((tw_wish N E R o x lots).1 :: (tw_wishes N E R o xs (tw_wish N E R o x lots).2).1, (tw_wishes N E R o xs (tw_wish N E R o x lots).2).2) := rfl
    rw [hwl] at cont
    -- behind the WISH itself
    have next : ∀ (fu : Nat) (σ1 σ2 : rx_St), m + 2 * (e - p1) ≤ fu → tw_fr tc_S1 σ σ1 → tc_res σ1 σ2 o done.length (tw_wish N E R o x lots).1 (tw_wish N E R o x lots).2 → tw_ok (f_cho_choose_78 r w fu (nI en) (nI p1) σ2) Q := by
      intro fu σ1 σ2 hfu f1 hr
      obtain ⟨r1, r2, r3, r4, r5⟩ := hr
      have f2 : tw_fr (tc_S3 o) σ σ2 := (f1.mn tc_S13).tr r1
      refine ih p1 (done ++ [(tw_wish N E R o x lots).1]) _ σ2 fu (hk.f3 f2) r2 (tc_wis.fr (fun q j a b => f2.i (by unfold tc_S3 tc_S1; omega)) xs p1 hc2) (by rw [List.length_append, List.length_singleton]; exact r3) (by rw [List.length_append, List.length_singleton]; omega) ?_ (fun y hy => hok y (List.mem_cons_of_mem _ hy)) hfu ?_
      · rw [tc_evs_app]
        refine ⟨tc_evs.fr done _ (fun q j a b c d => ?_) hev, r4, trivial⟩
        rw [r5 q j a b (by omega), f1.i (by unfold tc_S1; omega)]
      · intro m' σ' h f i k1 k2
        rw [List.append_assoc, List.singleton_append] at k1 k2
        exact cont m' σ' h (f2.tr f) i k1 k2
    by_cases h4 : x.1 = 4
    · have hpe4 : tc_pe p x = p := by unfold tc_pe; rw [if_pos h4]
      rw [hpe4, h4] at c2
      rw [hpe4] at c5
      obtain ⟨n, rfl⟩ : ∃ n, fuel = n + 1 := ⟨fuel - 1, by omega⟩
      obtain ⟨σ2, q1, q2⟩ := tc_quit (A := σ.1 (19 + 14 * w) p) (B := σ.1 (20 + 14 * w) p) hk hon hi h45 (by omega) x h4
      have := next n σ σ2 (by omega) tw_fr.rf q2
      rw [c5] at this
      rw [f_cho_choose_78]
      unfold f_cho_choose_307 f_cho_choose_346
      simp (disch := omega) only [tw_L, tw_gN, tw_cl, tw_le, tw_lt, tw_eq, nI_add, pk_mul, tw_sub, tw_B0, tw_B1, tw_nb0, tw_nb1, tw_r1s, tw_r1n, if_true, if_false, Nat.le_refl, Nat.reduceEqDiff, Nat.reduceLeDiff, Nat.reduceLT, reduceIte, c2, tc_wop, q1, Option.bind_some]
      rw [if_neg (by omega)]
      exact this
    · obtain ⟨k1, k2⟩ := x4 h4
      have c1' := c1 h4
      have hpe4 : tc_pe p x = p + x.2.2.2.2.length := by unfold tc_pe; rw [if_neg h4]
      rw [hpe4] at c2 c3 c4 c5
      have hX := (tw_ev_base (N := N) (E := E) (R := R) o [] x.2.2.2.2 [] false lots 1 k1).2
      obtain ⟨a, ha⟩ := List.length_eq_one_iff.mp hX
      obtain ⟨n, hn⟩ : ∃ n, fuel = n + 1 + x.2.2.2.2.length := ⟨fuel - 1 - x.2.2.2.2.length, by omega⟩
      rw [hn]
      refine tc_run hw hon hen Q x.2.2.2.2 p [] [] false lots σ (n + 1) 1 hk hi (Nat.zero_le _) k1 c1' (by omega) k2 (fun σ1 f1 i1 => ?_)
      rw [ha] at i1
      have hl : tw_ev N E R o x.2.2.2.2 ([], false, lots) = ([a], (tw_ev N E R o x.2.2.2.2 ([], false, lots)).2.1, (tw_ev N E R o x.2.2.2.2 ([], false, lots)).2.2) := by rw [← ha]
      generalize hpp : p + x.2.2.2.2.length = pp at c2 c3 c4 c5 ⊢
      have g : ∀ q j, 18 + 14 * w ≤ q → q ≤ 20 + 14 * w → σ1.1 q j = σ.1 q j := fun q j x y => f1.i (by unfold tc_S1; omega)
      have d2 := (g _ pp (by omega) (by omega)).trans c2
      obtain ⟨σ2, q1, q2⟩ := tc_wish (A := σ1.1 (19 + 14 * w) pp) (B := σ1.1 (20 + 14 * w) pp) (hk.fr f1) hon i1 (by rw [f1.i (by unfold tc_S1; omega)]; exact h45) (by omega) x (by omega) (fun z => by rw [g _ _ (by omega) (by omega)]; exact c3 z) (fun z => ⟨by rw [g _ _ (by omega) (by omega)]; exact c4 z, (x3 z).1, Nat.lt_of_lt_of_le (x3 z).2 (hwo.2.2 _ (x3 z).1).1⟩) lots hl
      have nx := next n σ1 σ2 (by omega) f1 q2
      rw [c5] at nx
      rw [f_cho_choose_78]
      have h307 : tw_ok (f_cho_choose_307 r w (f_cho_choose_78 r w n) (nI en) (nI (pp + 1)) (nI pp) (σ1.1 (19 + 14 * w) pp) (σ1.1 (20 + 14 * w) pp) σ1) Q := by
        unfold f_cho_choose_307 f_cho_choose_346
        simp (disch := omega) only [tw_L, tw_gN, tw_cl, tw_le, tw_lt, tw_eq, nI_add, pk_mul, tw_sub, tw_B0, tw_B1, tw_nb0, tw_nb1, tw_r1s, tw_r1n, if_true, if_false, Nat.le_refl, Nat.reduceEqDiff, Nat.reduceLeDiff, Nat.reduceLT, reduceIte, d2, q1, Option.bind_some]
        exact nx
      have hs : x.1 = 0 ∨ x.1 = 1 ∨ x.1 = 2 ∨ x.1 = 3 := by omega
      rcases hs with h | h | h | h
      all_goals
        rw [h] at d2
        simp (disch := omega) only [tw_L, tw_gN, tw_cl, tw_le, tw_lt, tw_eq, nI_add, pk_mul, tw_sub, tw_B0, tw_B1, tw_nb0, tw_nb1, tw_r1s, tw_r1n, if_true, if_false, Nat.le_refl, Nat.reduceEqDiff, Nat.reduceLeDiff, Nat.reduceLT, reduceIte, d2, tc_wop]
        rw [if_neg (by omega)]
        exact h307
theorem tc_rules_run {cnt : Bool} {o en : Nat} (hw : w ≤ 1) (hon : o < N.1) (hen : en ≤ 500) (Q : rx_St → Prop) : ∀ (us : List tw_Ru) (p : Nat) (done : List tw_Ev) (lots : Nat) (σ : rx_St) (fuel : Nat),
    tc_ok r w cnt W N E R o σ → tc_inv σ [] false lots → tc_rules w cnt σ p us en → σ.1 45 o = nI done.length → done.length + 6 * us.length ≤ 48 → tc_evs σ (48 * o) done → (∀ u ∈ us, tw_ruok W (tw_vc W (N.2.1 o)) u) → 1 + 2 * (en - p) ≤ fuel →
    (∀ σ', tw_fr (tc_S3 o) σ σ' → σ'.1 45 o = nI (done ++ tw_rules N E R o us lots).length → tc_evs σ' (48 * o) (done ++ tw_rules N E R o us lots) → Q σ') →
    tw_ok (f_cho_choose_78 r w fuel (nI en) (nI p) σ) Q := by
  intro us
  induction us with
  | nil =>
    intro p done lots σ fuel hk hi hc h45 h48 hev hok hf cont
    have hp : p = en := hc
    obtain ⟨n, rfl⟩ : ∃ n, fuel = n + 1 := ⟨fuel - 1, by omega⟩
    rw [show tw_rules N E R o [] lots = [] from rfl, List.append_nil] at cont
    rw [hp, f_cho_choose_78, if_pos ((nI_leI (by omega) (by omega)).mpr (Nat.le_refl _)), tw_some]
    exact cont σ tw_fr.rf h45 hev
  | cons u us ih =>
    intro p done lots σ fuel hk hi hc h45 h48 hev hok hf cont
    obtain ⟨e, ⟨body, c1, c2⟩, c3⟩ := hc
    rw [List.length_cons] at h48
    obtain ⟨u1, u2, u3, u4⟩ := hok u List.mem_cons_self
    have l1 := tc_cond_le c1
    have l2 := tc_wis_le u.2 body c2
    have l3 := tc_rules_le us e c3
    have hr : tw_rules N E R o (u :: us) lots = (tw_rule N E R o u lots).1 ++ tw_rules N E R o us (tw_rule N E R o u lots).2 := rfl
    rw [hr] at cont
    refine tc_cond_run (m := 1 + 2 * (en - body)) hw hon hen l3 l2 Q hk hi c1 u1 u2 (by omega) (fun m' σ1 h1 f1 i1 => ?_)
    have f1' : tw_fr (tc_S3 o) σ σ1 := f1.mn tc_S13
    have ev1 : tc_evs σ1 (48 * o) done := tc_evs.fr done _ (fun q j a b c d => f1.i (by unfold tc_S1; omega)) hev
    have n1 : σ1.1 45 o = nI done.length := by rw [f1.i (by unfold tc_S1; omega)]; exact h45
    cases hh : (tw_holds N E R o u.1 lots).1 with
    | false =>
      rw [if_neg (by decide)]
      have hu : tw_rule N E R o u lots = ([], (tw_holds N E R o u.1 lots).2) := by unfold tw_rule; rw [hh, if_neg (by decide)]
      rw [hu, List.nil_append] at cont
      exact ih e done _ σ1 m' (hk.fr f1) i1 (tc_rules.fr (fun q j a b => f1.i (by unfold tc_S1; omega)) us e c3) n1 (by omega) ev1 (fun y hy => hok y (List.mem_cons_of_mem _ hy)) (by omega) (fun σ' f k1 k2 => cont σ' (f1'.tr f) k1 k2)
    | true =>
      rw [if_pos rfl]
      have hu : tw_rule N E R o u lots = tw_wishes N E R o u.2 (tw_holds N E R o u.1 lots).2 := by unfold tw_rule; rw [hh, if_pos rfl]
      rw [hu] at cont
      refine tc_wis_run (m := 1 + 2 * (en - e)) hw hon hen l3 Q u.2 body done _ σ1 m' (hk.fr f1) i1 (tc_wis.fr (fun q j a b => f1.i (by unfold tc_S1; omega)) u.2 body c2) n1 (by omega) ev1 u3 (by omega) (fun m2 σ2 h2 f2 i2 k1 k2 => ?_)
      have f2' : tw_fr (tc_S3 o) σ σ2 := f1'.tr f2
      have hlen : (tw_wishes N E R o u.2 (tw_holds N E R o u.1 lots).2).1.length = u.2.length := tw_wishes_len o u.2 _
      refine ih e (done ++ (tw_wishes N E R o u.2 (tw_holds N E R o u.1 lots).2).1) _ σ2 m2 (hk.f3 f2') i2 (tc_rules.fr (fun q j a b => f2'.i (by unfold tc_S3 tc_S1; omega)) us e c3) k1 (by rw [List.length_append, hlen]; omega) k2 (fun y hy => hok y (List.mem_cons_of_mem _ hy)) h2 (fun σ' f k3 k4 => ?_)
      rw [List.append_assoc] at k3 k4
      exact cont σ' (f2'.tr f) k3 k4
/-- a WORLD's code -/
def tc_WC (w : Nat) (cnt : Bool) (W : tw_Wo) (σ : rx_St) : Prop := ∃ sz, σ.1 (7 + 14 * w) 12 = nI sz ∧ sz ≤ 500 ∧ ∀ k, k < W.2.length → ∃ p en, σ.1 (16 + 14 * w) k = nI p ∧ σ.1 (17 + 14 * w) k = nI en ∧ en ≤ sz ∧ tc_rules w cnt σ p (tw_kind W k).2 en
theorem tc_WC.fr {cnt : Bool} {σ σ' : rx_St} (h : ∀ q j, 7 + 14 * w ≤ q → q ≤ 20 + 14 * w → σ'.1 q j = σ.1 q j) (g : tc_WC w cnt W σ) : tc_WC w cnt W σ' := by
  obtain ⟨sz, g1, g2, g3⟩ := g
  refine ⟨sz, by rw [h _ _ (by omega) (by omega)]; exact g1, g2, fun k hk => ?_⟩
  obtain ⟨p, en, a1, a2, a3, a4⟩ := g3 k hk
  exact ⟨p, en, by rw [h _ _ (by omega) (by omega)]; exact a1, by rw [h _ _ (by omega) (by omega)]; exact a2, a3, tc_rules.fr (fun q j a b => h q j (by omega) b) _ p a4⟩
def tc_S6 (o q j : Nat) : Prop := tc_S3 o q j ∨ q = 51 ∧ j = 9
theorem tc_S62 {o : Nat} : ∀ q j, tc_S6 o q j → tc_S2 q j := fun q j h => by unfold tc_S6 tc_S3 tc_S1 at h; unfold tc_S2; omega
theorem tc_choose {cnt : Bool} {o : Nat} {σ : rx_St} (hw : w ≤ 1) (hon : o < N.1) (he : tc_env r W N E R σ) (htab : cnt = true → tc_tab W N R σ) (hc : tc_WC w cnt W σ) :
    tw_ok (f_cho_choose r w (nI o) σ) (fun σ' => tw_fr (tc_S6 o) σ σ' ∧ σ'.1 45 o = nI (tw_rules N E R o (tw_kind W (N.2.1 o)).2 0).length ∧ tc_evs σ' (48 * o) (tw_rules N E R o (tw_kind W (N.2.1 o)).2 0)) := by
  have h20 := he.1.2
  obtain ⟨⟨g1, g2⟩, -⟩ := he.2.1 o hon
  have hk5 := he.2.2.2.2.2.1.2.1
  have hwo := he.2.2.2.2.2.1.2.2 _ g2
  obtain ⟨sz, z1, z2, z3⟩ := hc
  obtain ⟨p, en, a1, a2, a3, a4⟩ := z3 _ g2
  have hpl := tc_rules_le _ p a4
  unfold f_cho_choose
  simp (disch := omega) only [tw_L, tw_gN, tw_cl, tw_le, tw_lt, tw_eq, nI_add, pk_mul, tw_sub, tw_B0, tw_B1, tw_nb0, tw_nb1, tw_r1s, tw_r1n, if_true, if_false, Nat.le_refl, Nat.reduceEqDiff, Nat.reduceLeDiff, Nat.reduceLT, reduceIte, g1, a1, a2, z1]
  generalize hσ : rx_si (rx_si (rx_si (rx_si (rx_si σ 51 9 (nI o)) 51 8 (nI 0)) 51 6 (nI 0)) 51 7 (nI 0)) 45 o (nI 0) = σ1
  have f1 : tw_fr (tc_S6 o) σ σ1 := by
    rw [← hσ]
    exact ((((tw_fr.rf.si (by unfold tc_S6; omega)).si (by unfold tc_S6 tc_S3 tc_S1; omega)).si (by unfold tc_S6 tc_S3 tc_S1; omega)).si (by unfold tc_S6 tc_S3 tc_S1; omega)).si (by unfold tc_S6 tc_S3 tc_S1; omega)
  have hmin : f_j_min (nI en) (nI sz) = nI en := by
    unfold f_j_min
    simp (disch := omega) only [tw_L, tw_gN, tw_cl, tw_le, tw_lt, tw_eq, nI_add, pk_mul, tw_sub, tw_B0, tw_B1, tw_nb0, tw_nb1, tw_r1s, tw_r1n, if_true, if_false, Nat.le_refl, Nat.reduceEqDiff, Nat.reduceLeDiff, Nat.reduceLT, reduceIte]
    by_cases c : sz < en
    · omega
    · first | rw [if_pos (by omega)] | rw [if_neg (by omega)]
  have hmax : f_j_max (nI p) (nI 0) = nI p := by
    unfold f_j_max
    simp (disch := omega) only [tw_L, tw_gN, tw_cl, tw_le, tw_lt, tw_eq, nI_add, pk_mul, tw_sub, tw_B0, tw_B1, tw_nb0, tw_nb1, tw_r1s, tw_r1n, if_true, if_false, Nat.le_refl, Nat.reduceEqDiff, Nat.reduceLeDiff, Nat.reduceLT, reduceIte]
    by_cases c : p = 0
    · first | rw [if_pos (by omega), c] | rw [if_neg (by omega), c] | rw [if_neg (by omega)]
    · first | rw [if_pos (by omega)] | rw [if_neg (by omega)]
  rw [hmin, hmax]
  have k1 : tc_ok r w cnt W N E R o σ1 := ⟨he.f2 (f1.mn tc_S62), by rw [← hσ]; simp (disch := omega) only [tw_L, tw_gN, tw_cl, tw_le, tw_lt, tw_eq, nI_add, pk_mul, tw_sub, tw_B0, tw_B1, tw_nb0, tw_nb1, tw_r1s, tw_r1n, if_true, if_false, Nat.le_refl, Nat.reduceEqDiff, Nat.reduceLeDiff, Nat.reduceLT, reduceIte], fun z => (htab z).fr (fun q j a b => f1.i (by unfold tc_S6 tc_S3 tc_S1; omega))⟩
  have i1 : tc_inv σ1 [] false 0 := ⟨⟨by rw [← hσ]; simp (disch := omega) only [tw_L, tw_gN, tw_cl, tw_le, tw_lt, tw_eq, nI_add, pk_mul, tw_sub, tw_B0, tw_B1, tw_nb0, tw_nb1, tw_r1s, tw_r1n, if_true, if_false, Nat.le_refl, Nat.reduceEqDiff, Nat.reduceLeDiff, Nat.reduceLT, reduceIte]; rfl, Nat.zero_le _⟩, trivial, by rw [← hσ]; simp (disch := omega) only [tw_L, tw_gN, tw_cl, tw_le, tw_lt, tw_eq, nI_add, pk_mul, tw_sub, tw_B0, tw_B1, tw_nb0, tw_nb1, tw_r1s, tw_r1n, if_true, if_false, Nat.le_refl, Nat.reduceEqDiff, Nat.reduceLeDiff, Nat.reduceLT, reduceIte]; rfl, by rw [← hσ]; simp (disch := omega) only [tw_L, tw_gN, tw_cl, tw_le, tw_lt, tw_eq, nI_add, pk_mul, tw_sub, tw_B0, tw_B1, tw_nb0, tw_nb1, tw_r1s, tw_r1n, if_true, if_false, Nat.le_refl, Nat.reduceEqDiff, Nat.reduceLeDiff, Nat.reduceLT, reduceIte]⟩
  refine tc_rules_run hw hon (by omega) _ _ p [] 0 σ1 rx_fu k1 i1 (tc_rules.fr (fun q j a b => f1.i (by unfold tc_S6 tc_S3 tc_S1; omega)) _ p a4) (by rw [← hσ]; simp (disch := omega) only [tw_L, tw_gN, tw_cl, tw_le, tw_lt, tw_eq, nI_add, pk_mul, tw_sub, tw_B0, tw_B1, tw_nb0, tw_nb1, tw_r1s, tw_r1n, if_true, if_false, Nat.le_refl, Nat.reduceEqDiff, Nat.reduceLeDiff, Nat.reduceLT, reduceIte]; rfl) (by rw [List.length_nil]; omega) trivial hwo.2.2 (by show _ ≤ 100000; omega) (fun σ' f k2 k3 => ⟨f1.tr (f.mn (fun q j h => Or.inl h)), ?_, ?_⟩)
  · rw [List.nil_append] at k2; exact k2
  · rw [List.nil_append] at k3; exact k3
end TC5
