/-! THE CLASS: LITS and their jumps -/
section TC3
variable {r w : Nat} {W : tw_Wo} {N : tw_N} {E : tw_E} {R : tw_R}
theorem tw_ev_br (o : Nat) : ∀ (c : List tw_Op) (s : List Int32) (br : Bool) (lots : Nat), tw_ev N E R o c (s, br, lots) = ((tw_ev N E R o c (s, false, lots)).1, br || (tw_ev N E R o c (s, false, lots)).2.1, (tw_ev N E R o c (s, false, lots)).2.2)
  | [], s, br, lots => by
    show (s, br, lots) = (s, br || false, lots)
    rw [Bool.or_false]
  | x :: c, s, br, lots => by
    show tw_ev N E R o c (tw_op N E R o (s, br, lots) x) = ((tw_ev N E R o c (tw_op N E R o (s, false, lots) x)).1, br || (tw_ev N E R o c (tw_op N E R o (s, false, lots) x)).2.1, (tw_ev N E R o c (tw_op N E R o (s, false, lots) x)).2.2)
    unfold tw_op
    by_cases h9 : x.1 < 9
    · rw [if_pos h9, if_pos h9]
      exact tw_ev_br o c _ br _
    · rw [if_neg h9, if_neg h9]
      match s with
      | [] => exact tw_ev_br o c _ br _
      | [a] => exact tw_ev_br o c _ br _
      | b :: a :: st =>
        dsimp only
        rw [tw_ev_br o c _ (br || (x.1 == 12 && b == nI 0)) _, tw_ev_br o c _ (false || (x.1 == 12 && b == nI 0)) _, Bool.false_or, Bool.or_assoc]
theorem tc_holds {σ : rx_St} {k : Nat} {b a : Int32} {s : List Int32} {br : Bool} {lots : Nat} (hk : k < 4) (h : tc_inv σ (b :: a :: s) br lots) : ∃ σ', f_cho_holds (nI (31 + k)) σ = some (tw_B (tw_cmp k a b && !br), σ') ∧ tw_fr tc_S1 σ σ' ∧ tc_inv σ' s false lots := by
  obtain ⟨σ1, p1, f1, i1⟩ := tc_pop h
  obtain ⟨σ2, p2, f2, i2⟩ := tc_pop i1
  have h7 : σ2.1 51 7 = tw_B br := i2.2.2.1
  unfold f_cho_holds
  rw [p1, Option.bind_some]
  dsimp only
  rw [p2, Option.bind_some]
  dsimp only
  refine ⟨rx_si σ2 51 7 (nI 0), ?_, (f1.tr f2).si (by unfold tc_S1; omega), i2.br false⟩
  have h22 : ∀ x : Bool, f_cho_holds_22 (nI (31 + k)) b a (tw_B x) σ2 = some (tw_B (tw_cmp k a b && x), rx_si σ2 51 7 (nI 0)) := by
    intro x
    unfold f_cho_holds_22 tw_cmp
    match k, hk with
    | 0, _ =>
      simp (disch := omega) only [tw_L, tw_gN, tw_cl, tw_le, tw_lt, tw_eq, nI_add, pk_mul, tw_sub, tw_B0, tw_B1, tw_nb0, tw_nb1, tw_r1s, tw_r1n, if_true, if_false, Nat.le_refl, Nat.reduceEqDiff, Nat.reduceLeDiff, Nat.reduceLT, reduceIte]
      cases x with
      | false => rw [if_pos rfl, Bool.and_false]; rfl
      | true =>
        rw [if_neg (by decide), Bool.and_true]
        by_cases c : a = b
        · rw [if_pos c, decide_eq_true c]; rfl
        · rw [if_neg c, decide_eq_false c]; rfl
    | 1, _ =>
      simp (disch := omega) only [tw_L, tw_gN, tw_cl, tw_le, tw_lt, tw_eq, nI_add, pk_mul, tw_sub, tw_B0, tw_B1, tw_nb0, tw_nb1, tw_r1s, tw_r1n, if_true, if_false, Nat.le_refl, Nat.reduceEqDiff, Nat.reduceLeDiff, Nat.reduceLT, reduceIte]
      cases x with
      | false => rw [if_pos rfl, Bool.and_false]; rfl
      | true =>
        rw [if_neg (by decide), Bool.and_true]
        by_cases c : a = b
        · rw [if_pos c, decide_eq_false (fun g => g c)]; rfl
        · rw [if_neg c, decide_eq_true c]; rfl
    | 2, _ =>
      simp (disch := omega) only [tw_L, tw_gN, tw_cl, tw_le, tw_lt, tw_eq, nI_add, pk_mul, tw_sub, tw_B0, tw_B1, tw_nb0, tw_nb1, tw_r1s, tw_r1n, if_true, if_false, Nat.le_refl, Nat.reduceEqDiff, Nat.reduceLeDiff, Nat.reduceLT, reduceIte]
      cases x with
      | false => rw [if_pos rfl, Bool.and_false]; rfl
      | true =>
        rw [if_neg (by decide), Bool.and_true]
        by_cases c : b ≤ a
        · rw [if_pos c, decide_eq_false (Int32.not_lt.mpr c)]; rfl
        · rw [if_neg c, decide_eq_true (Int32.not_le.mp c)]; rfl
    | 3, _ =>
      simp (disch := omega) only [tw_L, tw_gN, tw_cl, tw_le, tw_lt, tw_eq, nI_add, pk_mul, tw_sub, tw_B0, tw_B1, tw_nb0, tw_nb1, tw_r1s, tw_r1n, if_true, if_false, Nat.le_refl, Nat.reduceEqDiff, Nat.reduceLeDiff, Nat.reduceLT, reduceIte]
      cases x with
      | false => rw [if_pos rfl, Bool.and_false]; rfl
      | true =>
        rw [if_neg (by decide), Bool.and_true]
        by_cases c : b < a
        · rw [if_pos c, decide_eq_false (Int32.not_le.mpr c)]; rfl
        · rw [if_neg c, decide_eq_true (Int32.not_lt.mp c)]; rfl
  simp (disch := omega) only [tw_L, tw_gN, tw_cl, tw_le, tw_lt, tw_eq, nI_add, pk_mul, tw_sub, tw_B0, tw_B1, tw_nb0, tw_nb1, tw_r1s, tw_r1n, if_true, if_false, Nat.le_refl, Nat.reduceEqDiff, Nat.reduceLeDiff, Nat.reduceLT, reduceIte, h7]
  cases br with
  | false => rw [if_pos rfl]; exact h22 true
  | true => rw [if_neg (by decide)]; exact h22 false
def tc_lit (w : Nat) (cnt : Bool) (σ : rx_St) (p : Nat) (l : tw_Lit) (t p' : Nat) : Prop := tc_code w cnt σ p l.2.2.2.1 ∧ tc_code w cnt σ (p + l.2.2.2.1.length) l.2.2.2.2 ∧ (σ.1 (18 + 14 * w) (p + l.2.2.2.1.length + l.2.2.2.2.length) = nI (31 + l.2.2.1) ∧ σ.1 (19 + 14 * w) (p + l.2.2.2.1.length + l.2.2.2.2.length) = tw_B l.2.1 ∧ σ.1 (20 + 14 * w) (p + l.2.2.2.1.length + l.2.2.2.2.length) = nI t) ∧ p' = p + l.2.2.2.1.length + l.2.2.2.2.length + 1 ∧ p' ≤ t
theorem tc_lit.fr {cnt : Bool} {σ σ' : rx_St} {p t p' : Nat} {l : tw_Lit} (h : ∀ q j, 18 + 14 * w ≤ q → q ≤ 20 + 14 * w → σ'.1 q j = σ.1 q j) (g : tc_lit w cnt σ p l t p') : tc_lit w cnt σ' p l t p' := by
  obtain ⟨g1, g2, ⟨g3, g4, g5⟩, g6⟩ := g
  exact ⟨tc_code.fr h _ _ g1, tc_code.fr h _ _ g2, ⟨by rw [h _ _ (by omega) (by omega)]; exact g3, by rw [h _ _ (by omega) (by omega)]; exact g4, by rw [h _ _ (by omega) (by omega)]; exact g5⟩, g6⟩
theorem tc_max {a b : Nat} (ha : a < 2147483648) (hb : b < 2147483648) (h : a ≤ b) : f_j_max (nI a) (nI b) = nI b := by
  unfold f_j_max
  simp (disch := omega) only [tw_L, tw_gN, tw_cl, tw_le, tw_lt, tw_eq, nI_add, pk_mul, tw_sub, tw_B0, tw_B1, tw_nb0, tw_nb1, tw_r1s, tw_r1n, if_true, if_false, Nat.le_refl, Nat.reduceEqDiff, Nat.reduceLeDiff, Nat.reduceLT, reduceIte]
  by_cases c : a < b
  · rw [if_pos c]
  · rw [if_neg c, show a = b by omega]
theorem tc_lit_run {cnt : Bool} {o en p t p' m : Nat} {l : tw_Lit} {lots : Nat} {σ : rx_St} (hw : w ≤ 1) (hon : o < N.1) (hen : en ≤ 500) (Q : rx_St → Prop) (hk : tc_ok r w cnt W N E R o σ) (hi : tc_inv σ [] false lots) (hl : tc_lit w cnt σ p l t p') (hp : p' ≤ en) (ht : t ≤ 500) (hok : tw_litok W (tw_vc W (N.2.1 o)) l)
    (cont : ∀ σ', tw_fr tc_S1 σ σ' → tc_inv σ' [] false (tw_lit N E R o l lots).2 → tw_ok (f_cho_choose_78 r w m (nI en) (nI (if (tw_lit N E R o l lots).1 = true then p' else t)) σ') Q) :
    tw_ok (f_cho_choose_78 r w (m + 1 + l.2.2.2.2.length + l.2.2.2.1.length) (nI en) (nI p) σ) Q := by
  obtain ⟨k1, k2, k3⟩ := hok
  obtain ⟨l1, l2, ⟨l3, l4, l5⟩, l6, l7⟩ := hl
  have hx := (tw_ev_base (N := N) (E := E) (R := R) o [] l.2.2.2.1 [] false lots 1 k2.1).2
  generalize hX : tw_ev N E R o l.2.2.2.1 ([], false, lots) = X at hx
  obtain ⟨a, ha⟩ := List.length_eq_one_iff.mp hx
  refine tc_run hw hon hen Q l.2.2.2.1 p [] [] false lots σ (m + 1 + l.2.2.2.2.length) 1 hk hi (Nat.zero_le _) k2.1 l1 (by omega) k2.2 (fun σ1 f1 i1 => ?_)
  rw [hX, ha] at i1
  refine tc_run hw hon hen Q l.2.2.2.2 (p + l.2.2.2.1.length) [] [a] X.2.1 X.2.2 σ1 (m + 1) 1 (hk.fr f1) i1 (Nat.le_refl _) k3.1 (tc_code.fr (fun q j a b => f1.i (by unfold tc_S1; omega)) _ _ l2) (by omega) k3.2 (fun σ2 f2 i2 => ?_)
  have hy := (tw_ev_base (N := N) (E := E) (R := R) o [] l.2.2.2.2 [] false X.2.2 1 k3.1).2
  rw [tw_ev_br] at i2
  generalize hY : tw_ev N E R o l.2.2.2.2 ([], false, X.2.2) = Y at hy i2
  obtain ⟨b, hb⟩ := List.length_eq_one_iff.mp hy
  rw [hb] at i2
  obtain ⟨σ3, u3, f3, i3⟩ := tc_holds k1 i2
  have hlit : tw_lit N E R o l lots = ((tw_cmp l.2.2.1 a b && !(X.2.1 || Y.2.1)) != l.2.1, Y.2.2) := by
    unfold tw_lit
    simp only [hX, hY, ha, hb, List.headD_cons]
  rw [hlit] at cont
  have g : ∀ q j, 18 + 14 * w ≤ q → q ≤ 20 + 14 * w → σ2.1 q j = σ.1 q j := fun q j x y => ((f1.tr f2).i (by unfold tc_S1; omega))
  rw [f_cho_choose_78]
  generalize hp2 : p + l.2.2.2.1.length + l.2.2.2.2.length = p2 at l3 l4 l5 l6 ⊢
  have o1 := (g _ p2 (by omega) (by omega)).trans l3
  have o2 := (g _ p2 (by omega) (by omega)).trans l4
  have o3 := (g _ p2 (by omega) (by omega)).trans l5
  have h244 : tw_ok (f_cho_choose_244 r w (f_cho_choose_78 r w m) (nI en) (nI (p2 + 1)) (nI p2) (tw_B l.2.1) (nI t) σ2) Q := by
    unfold f_cho_choose_244 f_cho_choose_266 f_cho_choose_346
    simp (disch := omega) only [tw_L, tw_gN, tw_cl, tw_le, tw_lt, tw_eq, nI_add, pk_mul, tw_sub, tw_B0, tw_B1, tw_nb0, tw_nb1, tw_r1s, tw_r1n, if_true, if_false, Nat.le_refl, Nat.reduceEqDiff, Nat.reduceLeDiff, Nat.reduceLT, reduceIte, o1, u3, Option.bind_some]
    rw [tc_max (by omega) (by omega) (by omega)]
    have fin := cont σ3 ((f1.tr f2).tr f3) i3
    rw [l6] at fin
    cases hn : l.2.1 with
    | true =>
      rw [if_pos rfl]
      rw [hn] at fin
      cases hv : (tw_cmp l.2.2.1 a b && !(X.2.1 || Y.2.1)) with
      | true => rw [if_pos rfl]; rw [hv] at fin; exact fin
      | false => rw [if_neg (by decide)]; rw [hv] at fin; exact fin
    | false =>
      rw [if_neg (by decide)]
      rw [hn] at fin
      cases hv : (tw_cmp l.2.2.1 a b && !(X.2.1 || Y.2.1)) with
      | true => rw [if_neg (by decide)]; rw [hv] at fin; exact fin
      | false => rw [if_pos rfl]; rw [hv] at fin; exact fin
  have hs : l.2.2.1 = 0 ∨ l.2.2.1 = 1 ∨ l.2.2.1 = 2 ∨ l.2.2.1 = 3 := by omega
  rcases hs with h | h | h | h
  all_goals
    rw [h] at o1
    simp (disch := omega) only [tw_L, tw_gN, tw_cl, tw_le, tw_lt, tw_eq, nI_add, pk_mul, tw_sub, tw_B0, tw_B1, tw_nb0, tw_nb1, tw_r1s, tw_r1n, if_true, if_false, Nat.le_refl, Nat.reduceEqDiff, Nat.reduceLeDiff, Nat.reduceLT, reduceIte, o1, o2, o3, Nat.reduceAdd]
    rw [if_neg (by omega)]
    exact h244
/-- the LITS behind the first: t is where those go on that don't hold, of the ALL before -/
def tc_lits (w : Nat) (cnt : Bool) (σ : rx_St) (e : Nat) : Nat → List tw_Lit → Nat → Nat → Prop
  | p, [], t, body => p = body ∧ t = e
  | p, l :: ls, t, body => (l.1 = true → (σ.1 (18 + 14 * w) p = nI 14 ∧ σ.1 (20 + 14 * w) p = nI body ∧ t = p + 1 ∧ p + 1 ≤ body) ∧ ∃ t' p1, tc_lit w cnt σ (p + 1) l t' p1 ∧ t' ≤ e ∧ tc_lits w cnt σ e p1 ls t' body) ∧ (l.1 = false → ∃ p1, tc_lit w cnt σ p l t p1 ∧ tc_lits w cnt σ e p1 ls t body)
theorem tc_lits.fr {cnt : Bool} {σ σ' : rx_St} {e : Nat} (h : ∀ q j, 18 + 14 * w ≤ q → q ≤ 20 + 14 * w → σ'.1 q j = σ.1 q j) : ∀ (ls : List tw_Lit) (p t body : Nat), tc_lits w cnt σ e p ls t body → tc_lits w cnt σ' e p ls t body
  | [], _, _, _, g => g
  | l :: ls, p, t, body, ⟨g1, g2⟩ => by
    refine ⟨fun z => ?_, fun z => ?_⟩
    · obtain ⟨⟨a1, a2, a3⟩, t', p1, b1, b2, b3⟩ := g1 z
      exact ⟨⟨by rw [h _ _ (by omega) (by omega)]; exact a1, by rw [h _ _ (by omega) (by omega)]; exact a2, a3⟩, t', p1, b1.fr h, b2, tc_lits.fr h ls p1 t' body b3⟩
    · obtain ⟨p1, b1, b3⟩ := g2 z
      exact ⟨p1, b1.fr h, tc_lits.fr h ls p1 t body b3⟩
def tc_lsz : List tw_Lit → Nat
  | [] => 0
  | l :: ls => l.2.2.2.1.length + l.2.2.2.2.length + 2 + tc_lsz ls
theorem tc_lits_le {cnt : Bool} {σ : rx_St} {e : Nat} : ∀ (ls : List tw_Lit) (p t body : Nat), tc_lits w cnt σ e p ls t body → p ≤ body
  | [], p, t, body, g => Nat.le_of_eq g.1
  | l :: ls, p, t, body, ⟨g1, g2⟩ => by
    cases h : l.1 with
    | true =>
      obtain ⟨⟨a1, a2, a3, a4⟩, -⟩ := g1 h
      omega
    | false =>
      obtain ⟨p1, b1, b3⟩ := g2 h
      have := tc_lits_le ls p1 t body b3
      have := b1.2.2.2.1
      omega
theorem tc_lits_run {cnt : Bool} {o en e body m : Nat} (hw : w ≤ 1) (hon : o < N.1) (hen : en ≤ 500) (he : e ≤ en) (hbe : body ≤ e) (Q : rx_St → Prop) : ∀ (ls : List tw_Lit) (p t : Nat) (all : Bool) (lots : Nat) (σ : rx_St) (fuel : Nat),
    tc_ok r w cnt W N E R o σ → tc_inv σ [] false lots → tc_lits w cnt σ e p ls t body → t ≤ e → (∀ l ∈ ls, tw_litok W (tw_vc W (N.2.1 o)) l) → m + tc_lsz ls ≤ fuel →
    (∀ m' σ', m ≤ m' → tw_fr tc_S1 σ σ' → tc_inv σ' [] false (tw_lits N E R o ls all lots).2 → tw_ok (f_cho_choose_78 r w m' (nI en) (nI (if (tw_lits N E R o ls all lots).1 = true then body else e)) σ') Q) →
    tw_ok (f_cho_choose_78 r w fuel (nI en) (nI (if all = true then p else t)) σ) Q := by
  intro ls
  induction ls with
  | nil =>
    intro p t all lots σ fuel hk hi hl ht hok hf cont
    obtain ⟨rfl, rfl⟩ := hl
    exact cont fuel σ (by unfold tc_lsz at hf; omega) tw_fr.rf hi
  | cons l ls ih =>
    intro p t all lots σ fuel hk hi hl ht hok hf cont
    obtain ⟨g1, g2⟩ := hl
    rw [tc_lsz] at hf
    have hl0 := hok l List.mem_cons_self
    have hok' : ∀ l ∈ ls, tw_litok W (tw_vc W (N.2.1 o)) l := fun l hl => hok l (List.mem_cons_of_mem _ hl)
    -- the LIT itself is worked out, from p9 on
    have work : ∀ (p9 t9 p1 fuel9 : Nat), tc_lit w cnt σ p9 l t9 p1 → t9 ≤ e → tc_lits w cnt σ e p1 ls t9 body → m + (l.2.2.2.1.length + l.2.2.2.2.length + 1 + tc_lsz ls) ≤ fuel9 →
        tw_lits N E R o (l :: ls) all lots = tw_lits N E R o ls (tw_lit N E R o l lots).1 (tw_lit N E R o l lots).2 → tw_ok (f_cho_choose_78 r w fuel9 (nI en) (nI p9) σ) Q := by
      intro p9 t9 p1 fuel9 h1 h2 h3 h4 h5
      rw [h5] at cont
      have hp1 := tc_lits_le ls p1 t9 body h3
      have hfu : fuel9 = (fuel9 - (l.2.2.2.1.length + l.2.2.2.2.length + 1)) + 1 + l.2.2.2.2.length + l.2.2.2.1.length := by omega
      rw [hfu]
      refine tc_lit_run hw hon hen Q hk hi h1 (by omega) (by omega) hl0 (fun σ1 f1 i1 => ?_)
      exact ih p1 t9 (tw_lit N E R o l lots).1 (tw_lit N E R o l lots).2 σ1 _ (hk.fr f1) i1 (tc_lits.fr (fun q j a b => f1.i (by unfold tc_S1; omega)) ls p1 t9 body h3) h2 hok' (by omega) (fun m' σ' h f i => cont m' σ' h (f1.tr f) i)
    cases h : l.1 with
    | true =>
      obtain ⟨⟨a1, a2, a3, a4⟩, t', p1, b1, b2, b3⟩ := g1 h
      cases all with
      | true =>
        -- or, with all ahead of it holding: on at the body
        rw [if_pos rfl]
        have e9 : tw_lits N E R o (l :: ls) true lots = (true, lots) := by rw [tw_lits, h, if_pos (by rfl)]
        rw [e9] at cont
        obtain ⟨n, rfl⟩ : ∃ n, fuel = n + 1 := ⟨fuel - 1, by omega⟩
        rw [f_cho_choose_78]
        unfold f_cho_choose_346
        simp (disch := omega) only [tw_L, tw_gN, tw_cl, tw_le, tw_lt, tw_eq, nI_add, pk_mul, tw_sub, tw_B0, tw_B1, tw_nb0, tw_nb1, tw_r1s, tw_r1n, if_true, if_false, Nat.le_refl, Nat.reduceEqDiff, Nat.reduceLeDiff, Nat.reduceLT, reduceIte, a1, a2]
        rw [if_neg (by omega), tc_max (by omega) (by omega) a4]
        exact cont n σ (by omega) tw_fr.rf hi
      | false =>
        rw [if_neg (by decide), a3]
        exact work (p + 1) t' p1 fuel b1 b2 b3 (by omega) (by rw [tw_lits, h, if_neg (by decide), if_pos (by rfl)])
    | false =>
      obtain ⟨p1, b1, b3⟩ := g2 h
      cases all with
      | true =>
        rw [if_pos rfl]
        exact work p t p1 fuel b1 ht b3 (by omega) (by rw [tw_lits, h, if_neg (by decide), if_pos (by rfl)])
      | false =>
        rw [if_neg (by decide)]
        have e9 : tw_lits N E R o (l :: ls) false lots = tw_lits N E R o ls false lots := by rw [tw_lits, h, if_neg (by decide), if_neg (by decide)]
        rw [e9] at cont
        have := ih p1 t false lots σ fuel hk hi b3 ht hok' (by omega) cont
        rw [if_neg (by decide)] at this
        exact this
end TC3
